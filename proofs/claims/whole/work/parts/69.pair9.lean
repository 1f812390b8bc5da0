/-! pairs: next, vote -/
theorem c_M_next {Γ : Am_G} {d : Nat} {M : Am_M} {n mt pu m : Nat} (hM : wfM M n mt) (hp : M.1 0 47 0 = pu) (hpm : pu ≤ mt) (hm : m < mt) (hperm : permO (oM M) mt) : am_Ev Γ (d + 3) n_M_next [.inr (.inr (0, 41)), .inl (m : Int)] M (fun r M' => (posO (oM M) m mt < pu ∧ r = some (.inl (-4)) ∧ M' = M) ∨ (pu ≤ posO (oM M) m mt ∧ r = some (.inl ((mt : Int) - pu)) ∧ am_same (fun _ p => p = 47) M M' ∧ (∀ k, k < 5 → M'.1 0 47 (1 + k) = brO (oM M) pu (posO (oM M) m mt) k) ∧ (∀ k, k = 0 ∨ 6 ≤ k → M'.1 0 47 k = M.1 0 47 k))) := by
  obtain ⟨⟨n1, n2, n3, n4⟩, n5, n6, n7, n8, n9, n10, n11⟩ := id hM
  have hQ := posO_lt (hperm m hm)
  obtain ⟨-, hQf, hQx⟩ := posO_spec (oM M) (m : Int) mt
  have hQx := hQx hQ
  generalize posO (oM M) (m : Int) mt = Q at *
  refine am_ev_of (by decide) (am_le rfl) (am_go 60 [30] (by decide) ?_)
  refine am_by (c_M_isMatter (d := d) (m : Int) ⟨by omega, by omega⟩ (by omega)) (by omega) ?_
  rintro r M0 ⟨rfl, rfl⟩
  rw [n3, if_pos (by omega)]
  refine And.intro ⟨(by first | omega | (dsimp only [am_own]; omega)), (by first | omega | (dsimp only [am_own]; omega))⟩ (And.intro (fun h => absurd h (by decide)) (fun _ => ?_))
  refine am_by (c_M_placeOf (d := d) (q := Q) (by omega) hQx hQf (fun k hk => by have := n9 k (by omega); exact ⟨by omega, by omega⟩)) (by omega) ?_
  rintro r M1 ⟨rfl, rfl⟩
  refine And.intro ⟨(by first | omega | (dsimp only [am_own]; omega)), (by first | omega | (dsimp only [am_own]; omega))⟩ ?_
  refine And.intro ⟨⟨(by first | omega | (dsimp only [am_own]; omega)), (by first | omega | (dsimp only [am_own]; omega))⟩, (show am_R (M1.1 0 47 0) from ⟨(by first | omega | (dsimp only [am_own]; omega)), (by first | omega | (dsimp only [am_own]; omega))⟩)⟩ (And.intro (fun h => ?_) (fun h => ?_))
  · have h : (Q : Int) < M1.1 0 47 0 := h
    exact Or.inl ⟨by omega, rfl, rfl⟩
  have h : ¬ (Q : Int) < M1.1 0 47 0 := h
  have loop : ∀ (k a : Nat) (M2 : Am_M), pu + k = a → a ≤ Q → am_same (fun _ p => p = 47) M1 M2 → (∀ j, j < 5 → M2.1 0 47 (1 + j) = if a < j ∧ j ≤ Q then oM M1 (j - 1) else oM M1 j) → (∀ j, j = 0 ∨ 6 ≤ j → M2.1 0 47 j = M1.1 0 47 j) → am_At Γ (d + 3) n_M_next 30 [some (.inr (.inr (0, 41))), some (.inl (m : Int)), some (.inl (a : Int))] [] M2 (fun r M' => (Q < pu ∧ r = some (.inl (-4)) ∧ M' = M1) ∨ (pu ≤ Q ∧ r = some (.inl ((mt : Int) - pu)) ∧ am_same (fun _ p => p = 47) M1 M' ∧ (∀ k, k < 5 → M'.1 0 47 (1 + k) = brO (oM M1) pu Q k) ∧ (∀ k, k = 0 ∨ 6 ≤ k → M'.1 0 47 k = M1.1 0 47 k))) := by
    intro k
    induction k with
    | zero =>
      intro a M2 ha haQ hs ho hr
      have e0 : M2.1 0 47 0 = pu := (hr 0 (by omega)).trans hp
      have e2 : M2.1 0 41 2 = mt := (hs.2 0 41 2 (by omega)).trans n3
      refine am_go 60 [30] (by decide) ?_
      refine And.intro ⟨(by first | omega | (dsimp only [am_own]; omega)), (by first | omega | (dsimp only [am_own]; omega))⟩ ?_
      refine And.intro ⟨⟨(by first | omega | (dsimp only [am_own]; omega)), (by first | omega | (dsimp only [am_own]; omega))⟩, (show am_R (M2.1 0 47 0) from ⟨(by first | omega | (dsimp only [am_own]; omega)), (by first | omega | (dsimp only [am_own]; omega))⟩)⟩ (And.intro (fun h2 => ?_) (fun h2 => ?_))
      · exfalso
        have h2 : M2.1 0 47 0 < (a : Int) := h2
        omega
      refine And.intro ⟨(by first | omega | (dsimp only [am_own]; omega)), (by first | omega | (dsimp only [am_own]; omega))⟩ ?_
      refine And.intro ⟨(by first | omega | (dsimp only [am_own]; omega)), (by first | omega | (dsimp only [am_own]; omega))⟩ ?_
      right
      have x1 : (1 + (a : Int)).toNat = 1 + a := by omega
      refine ⟨by omega, ?_, ?_, fun j hj => ?_, fun j hj => ?_⟩
      · refine congrArg (fun z => some (Sum.inl z)) ?_
        show (am_set M2 0 47 (1 + (a : Int)).toNat m).1 0 41 2 - (am_set M2 0 47 (1 + (a : Int)).toNat m).1 0 47 0 = _
        rw [set_p (by decide), set_k (by omega), e0, e2]
      · exact hs.set rfl
      · show (am_set M2 0 47 (1 + (a : Int)).toNat m).1 0 47 (1 + j) = _
        rw [x1]
        unfold brO
        by_cases q : j = pu
        · rw [if_pos q, hQx, show 1 + j = 1 + a by omega]
          exact set_eq
        · rw [if_neg q, set_k (by omega), ho j hj, show a = pu by omega]
      · show (am_set M2 0 47 (1 + (a : Int)).toNat m).1 0 47 j = _
        rw [x1, set_k (by omega)]
        exact hr j hj
    | succ k ih =>
      intro a M2 ha haQ hs ho hr
      have e0 : M2.1 0 47 0 = pu := (hr 0 (by omega)).trans hp
      refine am_go 60 [30] (by decide) ?_
      refine And.intro ⟨(by first | omega | (dsimp only [am_own]; omega)), (by first | omega | (dsimp only [am_own]; omega))⟩ ?_
      refine And.intro ⟨⟨(by first | omega | (dsimp only [am_own]; omega)), (by first | omega | (dsimp only [am_own]; omega))⟩, (show am_R (M2.1 0 47 0) from ⟨(by first | omega | (dsimp only [am_own]; omega)), (by first | omega | (dsimp only [am_own]; omega))⟩)⟩ (And.intro (fun h2 => ?_) (fun h2 => ?_))
      rotate_left
      · exfalso
        have h2 : ¬ M2.1 0 47 0 < (a : Int) := h2
        omega
      refine And.intro ⟨(by first | omega | (dsimp only [am_own]; omega)), (by first | omega | (dsimp only [am_own]; omega))⟩ ?_
      refine And.intro ⟨(by first | omega | (dsimp only [am_own]; omega)), (by first | omega | (dsimp only [am_own]; omega))⟩ ?_
      have x1 : (1 + (a : Int)).toNat = 1 + a := by omega
      have x2 : (1 + (a : Int) - 1).toNat = 1 + (a - 1) := by omega
      rw [x1, x2]
      have go := ih (a - 1) (am_set M2 0 47 (1 + a) (M2.1 0 47 (1 + (a - 1)))) (by omega) (by omega) (hs.set rfl) (fun j hj => ?_) (fun j hj => ?_)
      · rw [show (((a - 1 : Nat)) : Int) = (a : Int) + -1 by omega] at go
        exact go
      · by_cases q : j = a
        · rw [q, set_eq, if_pos (by omega), ho (a - 1) (by omega), if_neg (by omega)]
        · rw [set_k (by omega), ho j hj]
          by_cases q2 : a < j ∧ j ≤ Q
          · rw [if_pos q2, if_pos (by omega)]
          · rw [if_neg q2, if_neg (by omega)]
      · rw [set_k (by omega)]; exact hr j hj
  exact loop (Q - pu) Q M1 (by omega) (by omega) am_same.rf (fun j hj => by rw [if_neg (by omega)]; rfl) (fun j hj => rfl)
theorem brO_perm {ord : Nat → Int} {mt pu q : Nat} (h : permO ord mt) (hpq : pu ≤ q) (hq : q < mt) : permO (brO ord pu q) mt := by
  intro m hm
  obtain ⟨k, hk, he⟩ := h m hm
  unfold brO
  by_cases q1 : k = q
  · exact ⟨pu, by omega, by rw [if_pos rfl, ← q1]; exact he⟩
  · by_cases q2 : pu ≤ k ∧ k < q
    · exact ⟨k + 1, by omega, by rw [if_neg (by omega), if_pos (by omega)]; exact he⟩
    · exact ⟨k, hk, by rw [if_neg (by omega), if_neg (by omega)]; exact he⟩
theorem brO_b {ord : Nat → Int} {mt pu q : Nat} {P : Int → Prop} (h : ∀ k, k < mt → P (ord k)) (hq : q < mt) : ∀ k, k < mt → P (brO ord pu q k) := by
  intro k hk
  unfold brO
  by_cases q1 : k = pu
  · rw [if_pos q1]; exact h q hq
  · rw [if_neg q1]
    by_cases q2 : pu < k ∧ k ≤ q
    · rw [if_pos q2]; exact h _ (by omega)
    · rw [if_neg q2]; exact h k hk
theorem brO_congr {f g : Nat → Int} {mt pu q : Nat} (h : ∀ k, k < mt → f k = g k) (hq : q < mt) : ∀ k, k < mt → brO f pu q k = brO g pu q k := by
  intro k hk
  unfold brO
  by_cases q1 : k = pu
  · rw [if_pos q1, if_pos q1]; exact h q hq
  · rw [if_neg q1, if_neg q1]
    by_cases q2 : pu < k ∧ k ≤ q
    · rw [if_pos q2, if_pos q2]; exact h _ (by omega)
    · rw [if_neg q2, if_neg q2]; exact h k hk
theorem P_next {Γ : Am_G} {M : Am_M} {x : Int} (h : Rel M) (hx : am_R x) : Pair Γ 24 n_R_next n_M_next [.inl x] M := by
  obtain ⟨n, mt, hR⟩ := id h
  have b2 := hR.1.2.1
  obtain ⟨pu, hp, hp2, hpm⟩ := hR.p
  obtain ⟨a1, a2, a3, a4, a5, a6, a7, a8⟩ := hR.2.1
  refine am_ev_of (by decide) (am_le rfl) (am_go 60 [] (by decide) ?_)
  refine am_by (c_isMatter (d := 10) x hx ⟨by omega, by omega⟩) (by omega) ?_
  rintro r M1 ⟨rfl, rfl⟩
  rw [b2.1]
  by_cases qx : 0 ≤ x ∧ x < mt
  rotate_left
  · rw [if_neg qx]
    refine And.intro ⟨(by first | omega | (dsimp only [am_own]; omega)), (by first | omega | (dsimp only [am_own]; omega))⟩ (And.intro (fun _ => ?_) (fun h => absurd rfl h))
    refine ⟨_, rfl, ?_⟩
    refine am_ev_of (by decide) (am_le rfl) (am_go 60 [30] (by decide) ?_)
    refine am_by (c_M_isMatter (d := 10) x hx (by omega)) (by omega) ?_
    rintro r M2 ⟨rfl, rfl⟩
    rw [b2.2.1, if_neg qx]
    refine And.intro ⟨(by first | omega | (dsimp only [am_own]; omega)), (by first | omega | (dsimp only [am_own]; omega))⟩ (And.intro (fun _ => ?_) (fun h => absurd rfl h))
    exact ⟨rfl, h⟩
  rw [if_pos qx]
  refine And.intro ⟨(by first | omega | (dsimp only [am_own]; omega)), (by first | omega | (dsimp only [am_own]; omega))⟩ (And.intro (fun h => absurd h (by decide)) (fun _ => ?_))
  obtain ⟨m, rfl⟩ : ∃ m : Nat, x = m := ⟨x.toNat, by omega⟩
  refine am_by (c_wasPutR (d := 10) hR hp (by omega)) (by omega) ?_
  rintro r M3 ⟨rfl, rfl⟩
  have hQ := posO_lt (hR.perm6 m (by omega))
  obtain ⟨-, hQf, hQx⟩ := posO_spec (M3.1 0 6) (m : Int) mt
  have hQx := hQx hQ
  have hpos := hR.pos (m : Int)
  by_cases qQ : posO (M3.1 0 6) m mt < pu
  · rw [if_pos qQ]
    refine And.intro ⟨(by first | omega | (dsimp only [am_own]; omega)), (by first | omega | (dsimp only [am_own]; omega))⟩ (And.intro (fun h => absurd h (by decide)) (fun _ => ?_))
    refine ⟨_, rfl, am_mono (c_M_next (d := 21) hR.wM hp2 hpm (by omega) hR.perm) (fun r M' hz => ?_)⟩
    rcases hz with ⟨z1, rfl, rfl⟩ | ⟨z1, -⟩
    · exact ⟨rfl, h⟩
    · exfalso; omega
  rw [if_neg qQ]
  refine And.intro ⟨(by first | omega | (dsimp only [am_own]; omega)), (by first | omega | (dsimp only [am_own]; omega))⟩ (And.intro (fun _ => ?_) (fun h => absurd rfl h))
  refine am_by (c_bring (d := 10) (e := 0) (q := posO (M3.1 0 6) m mt) hp a1.1 b2.2.2 (by omega) hQ hQx (fun k _ hk => hQf k hk) hR.oR) (by omega) ?_
  rintro r M4 ⟨rfl, hs, ho⟩
  refine am_by (c_toCome (d := 10) 0) (by omega) ?_
  rintro r M5 ⟨rfl, rfl⟩
  refine ⟨_, rfl, ?_⟩
  have g : ∀ e p k, ¬ (e = 0 ∧ p = 6) → M5.1 e p k = M3.1 e p k := fun e p k a => hs.2 e p k a
  have hw : wfM M5 n mt := hR.wM.rs ⟨fun k _ _ _ => g 0 41 k (by omega), fun p k a b => g 0 p k (by omega), fun k _ => g 0 47 k (by omega)⟩
  have eo : oM M5 = oM M3 := by funext k; exact g 0 47 _ (by omega)
  refine am_mono (c_M_next (d := 21) hw ((g 0 47 0 (by omega)).trans hp2) hpm (by omega) (by rw [eo]; exact hR.perm)) (fun r M' hz => ?_)
  rw [eo, hpos] at hz
  rcases hz with ⟨z1, -⟩ | ⟨z1, rfl, z3, z4, z5⟩
  · exact absurd z1 qQ
  refine ⟨?_, n, mt, hR.evs (fun e p k hr hn => ?_) ?_⟩
  · refine congrArg (fun z => some (Sum.inl z)) ?_
    rw [g 0 0 6 (by omega), g 0 0 7 (by omega), a1.1, hp]
  · rw [z3.2 e p k (by unfold relv at hr; omega)]
    exact g e p k (by omega)
  · have q9 : ∀ p k, p ≤ 10 → M'.1 9 p k = M3.1 9 p k := fun p k hp10 => by rw [z3.2 9 p k (by omega)]; exact g 9 p k (by omega)
    have q0 : ∀ p k, p ≤ 10 → p ≠ 6 → M'.1 0 p k = M3.1 0 p k := fun p k hp10 h6 => by rw [z3.2 0 p k (by omega)]; exact g 0 p k (by omega)
    have q6 : ∀ k, M'.1 0 6 k = brO (M3.1 0 6) pu (posO (M3.1 0 6) m mt) k := fun k => by rw [z3.2 0 6 k (by omega)]; exact ho k
    have q47 : ∀ k, k = 0 ∨ 6 ≤ k → M'.1 0 47 k = M3.1 0 47 k := fun k hk => by rw [z5 k hk]; exact g 0 47 k (by omega)
    have low : ∀ k, k < pu → M'.1 0 6 k = M3.1 0 6 k := fun k hk => by
      rw [q6]
      unfold brO
      rw [if_neg (by omega), if_neg (by omega)]
    have e7 : M'.1 0 0 7 = M3.1 0 0 7 := q0 0 7 (by omega) (by omega)
    refine ⟨by rw [q0 0 6 (by omega) (by omega), q0 1 4 (by omega) (by omega)]; exact a1, fun i hi => ?_, by rw [e7, q47 0 (by omega)]; exact a3, fun k hk => ?_, fun m2 hm2 => ?_, fun i hi => by rw [q0 7 i (by omega) (by omega), q47 _ (by omega), q9 3 i (by omega)]; exact a6 i hi, fun k hk => by rw [q0 8 k (by omega) (by omega), q47 _ (by omega)]; exact a7 k hk, fun k m2 hk hm2 => ?_⟩
    · rw [q0 2 i (by omega) (by omega), q0 3 i (by omega) (by omega), q0 4 i (by omega) (by omega), q0 5 i (by omega) (by omega), q9 2 i (by omega), q9 3 i (by omega), q9 4 i (by omega), q9 5 i (by omega)]; exact a2 i hi
    · refine ⟨?_, ?_⟩
      · rw [q6, z4 k (by omega)]
        exact (brO_congr hR.ord hQ k hk).symm
      · rw [q6]
        exact brO_b (P := fun z => 0 ≤ z ∧ z < mt) (fun k hk => (a4 k hk).2) hQ k hk
    · obtain ⟨k, hk, he⟩ := brO_perm a5 (show pu ≤ posO (M3.1 0 6) m mt by omega) hQ m2 hm2
      exact ⟨k, hk, (q6 k).trans he⟩
    · rw [e7] at hk
      rw [low k (by omega)] at hm2
      obtain ⟨t1, t2⟩ := a8 k m2 hk hm2
      refine ⟨fun w hw => ?_, fun j hj => ?_⟩
      · rw [q0 10 _ (by omega) (by omega), q47 _ (by omega)]; exact t1 w hw
      · rw [q0 9 _ (by omega) (by omega), q47 _ (by omega)]; exact t2 j hj
theorem P_vote {Γ : Am_G} {M : Am_M} (h : Rel M) : Pair Γ 24 n_R_vote n_M_vote [] M := by
  obtain ⟨n, mt, hR⟩ := id h
  have b1 := hR.1.1
  have b2 := hR.1.2.1
  obtain ⟨pu, hp, hp2, hpm⟩ := hR.p
  obtain ⟨a1, a2, a3, a4, a5, a6, a7, a8⟩ := hR.2.1
  refine am_ev_of (by decide) (am_le rfl) (am_go 60 [] (by decide) ?_)
  refine am_by (c_toCome (d := 10) 0) (by omega) ?_
  rintro r M0 ⟨rfl, rfl⟩
  refine And.intro ⟨by omega, by omega⟩ (And.intro (fun h0 => ?_) (fun h0 => ?_))
  · have h0 : M0.1 0 0 6 - M0.1 0 0 7 = 0 := h0
    refine ⟨_, rfl, ?_⟩
    refine am_ev_of (by decide) (am_le rfl) (am_go 60 [] (by decide) ?_)
    refine And.intro ⟨(by first | omega | (dsimp only [am_own]; omega)), (by first | omega | (dsimp only [am_own]; omega))⟩ ?_
    refine And.intro ⟨(show am_R (M0.1 0 47 0) from ⟨(by first | omega | (dsimp only [am_own]; omega)), (by first | omega | (dsimp only [am_own]; omega))⟩), (show am_R (M0.1 0 41 2) from ⟨(by first | omega | (dsimp only [am_own]; omega)), (by first | omega | (dsimp only [am_own]; omega))⟩)⟩ (And.intro (fun _ => ⟨rfl, h⟩) (fun h1 => ?_))
    have h1 : ¬ M0.1 0 47 0 = M0.1 0 41 2 := h1
    omega
  have h0 : ¬ M0.1 0 0 6 - M0.1 0 0 7 = 0 := h0
  refine am_by (c_runV (d := 10) (e := 0) hR.V hR.H (by omega)) (by omega) ?_
  rintro r M1 ⟨rfl, hO, hv1⟩
  refine ⟨_, rfl, ?_⟩
  have g1 : ∀ e p k, ¬ vS e p → ¬ (e = 0 ∧ (p = 0 ∨ p = 7 ∨ p = 9 ∨ p = 10)) → M1.1 e p k = M0.1 e p k := fun e p k x y => hO.1.2 e p k (fun z => z.elim x y)
  have g41 : ∀ p k, 34 ≤ p → M1.1 0 p k = M0.1 0 p k := fun p k hp => g1 0 p k (by unfold vS; omega) (by omega)
  have hs1 : rsame M0 M1 := ⟨fun k _ _ _ => g41 41 k (by omega), fun p k a b => g41 p k (by omega), fun k _ => g41 47 k (by omega)⟩
  have hw : wfM M1 n mt := hR.wM.rs hs1
  have hrv : veq n mt (rV M1) (cV M0 0) := (rV.rs hs1 b1.2.2 b2.2.2).tr hR.vq
  have e70 : M1.1 0 47 0 = pu := (g41 47 0 (by omega)).trans hp2
  have hwr : wfV (rV M1) n mt := veq_wf hrv.symm hR.V
  have hlt : rV M1 0 3 < mt := by show M1.1 0 47 0 < mt; omega
  have ecar : carV (rV M1) n = carV (cV M0 0) n := carV_congr hrv hwr hlt
  have emv : mV (rV M1) = mV (cV M0 0) := mV_congr hrv ⟨hwr.1.2.2.2.2.1, hlt⟩
  have hmlt : mV (cV M0 0) < mt := mV_lt hR.V (show M0.1 0 0 7 < mt by omega)
  have eR := vR_congr hrv hmlt
  refine am_ev_of (by decide) (am_le rfl) (am_go 60 [] (by decide) ?_)
  refine And.intro ⟨(by first | omega | (dsimp only [am_own]; omega)), (by first | omega | (dsimp only [am_own]; omega))⟩ ?_
  have e41 : M1.1 0 41 2 = mt := (g41 41 2 (by omega)).trans b2.2.1
  refine And.intro ⟨(show am_R (M1.1 0 47 0) from ⟨(by first | omega | (dsimp only [am_own]; omega)), (by first | omega | (dsimp only [am_own]; omega))⟩), (show am_R (M1.1 0 41 2) from ⟨(by first | omega | (dsimp only [am_own]; omega)), (by first | omega | (dsimp only [am_own]; omega))⟩)⟩ (And.intro (fun h1 => ?_) (fun _ => ?_))
  · have h1 : M1.1 0 47 0 = M1.1 0 41 2 := h1
    omega
  refine am_by (c_putNextV (d := 10) hw (by omega) (by omega)) (by omega) ?_
  rintro r M2 ⟨rfl, ⟨M3, hI, rfl⟩, hv2⟩
  rw [emv] at hI
  have emc : vt_carI (M1.1 0 43 (mV (cV M0 0))) (vR (rV M1) n (mV (cV M0 0))).2.1 (vR (rV M1) n (mV (cV M0 0))).2.2.1 = vt_carI (M0.1 0 19 (mV (cV M0 0))) (vtR M0 0 n (mV (cV M0 0))).2.1 (vtR M0 0 n (mV (cV M0 0))).2.2.1 := by
    rw [g41 43 _ (by omega), ← (hR.1.2.2.2.2.1 _ hmlt).1, eR.1]
    rfl
  have rel : Rel (am_set M3 0 47 0 (M1.1 0 47 0 + 1)) := by
    refine ⟨n, mt, ?_⟩
    generalize hM4 : am_set M3 0 47 0 (M1.1 0 47 0 + 1) = M4 at *
    have hps : psame M1 M4 := by rw [← hM4]; exact pn_ps hI
    have g4 : ∀ e p k, p ≤ 40 → M4.1 e p k = M1.1 e p k := fun e p k hp => hps.2.1 e p k (by omega) (by omega) (by omega)
    have x47 : ∀ k, k ≠ 0 → M4.1 0 47 k = M3.1 0 47 k := fun k hk => by rw [← hM4, set_k hk]
    refine hR.evs (fun e p k hr hn => ?_) ?_
    · by_cases q41 : e = 0 ∧ p = 41
      · obtain ⟨rfl, rfl⟩ := q41
        unfold relv at hr
        rw [hps.2.2 k (by omega) (by omega) (by omega)]; exact g41 41 k (by omega)
      · unfold relv at hr
        rw [hps.2.1 e p k (by omega) (by omega) (by omega)]
        exact g1 e p k (by unfold vS; omega) (by omega)
    · have hvv : veq n mt (rV M4) (cV M1 0) := (hv2.tr (voteV_congr hrv hwr hlt)).tr hv1.symm
      have hw4 : wfV (cV M1 0) n mt := veq_wf hv1.symm (voteV_wf hR.V (show M0.1 0 0 7 < mt by omega))
      have g9 : ∀ p k, p ≤ 8 → M4.1 9 p k = M0.1 9 p k := fun p k hp => by rw [g4 9 p k (by omega)]; exact g1 9 p k (by unfold vS; omega) (by omega)
      have g0 : ∀ p k, p ≤ 8 → p ≠ 0 → p ≠ 7 → M4.1 0 p k = M0.1 0 p k := fun p k hp h1 h2 => by rw [g4 0 p k (by omega)]; exact g1 0 p k (by unfold vS; omega) (by omega)
      have e7 : M4.1 0 0 7 = (pu : Int) + 1 := by rw [g4 0 0 7 (by omega), hO.2.2.2.2.2.1, hp]
      have e47 : M4.1 0 47 0 = (pu : Int) + 1 := by rw [← hM4, set_eq, e70]
      have h6 : ∀ k, k < mt → M4.1 0 6 k = M4.1 0 47 (1 + k) := fun k hk => by
        have := (hvv.2.2.1 k hk).2
        rw [g4 0 6 k (by omega)]
        exact this.symm
      refine ⟨⟨by rw [g4 0 0 6 (by omega), hO.2.2.2.2.2.2.1]; exact a1.1, by rw [g0 1 4 (by omega) (by omega) (by omega)]; exact a1.2⟩, fun i hi => ?_, by omega, fun k hk => ⟨h6 k hk, by rw [g0 6 k (by omega) (by omega) (by omega)]; exact (a4 k hk).2⟩, fun m2 hm2 => ?_, fun i hi => ?_, fun k hk => ?_, fun k m2 hk hm2 => ?_⟩
      · rw [g0 2 i (by omega) (by omega) (by omega), g0 3 i (by omega) (by omega) (by omega), g0 4 i (by omega) (by omega) (by omega), g0 5 i (by omega) (by omega) (by omega), g9 2 i (by omega), g9 3 i (by omega), g9 4 i (by omega), g9 5 i (by omega)]; exact a2 i hi
      · obtain ⟨k, hk, he⟩ := a5 m2 hm2
        exact ⟨k, hk, by rw [g0 6 k (by omega) (by omega) (by omega)]; exact he⟩
      · have z1 := (hvv.2.1 i hi).2.2.2.2
        have z2 := (hw4.2.2.1 i hi).2.2.2.2
        have z3 : cV M1 0 8 i = clL (M0.1 0 7 i) ((vR (cV M0 0) n (mV (cV M0 0))).1 i) (M0.1 0 4 i) (M0.1 0 3 i) := (hv1.2.1 i hi).2.2.2.2
        have z4 := clL_b (l := M0.1 0 7 i) (h := (vR (cV M0 0) n (mV (cV M0 0))).1 i) (r := M0.1 0 4 i) (a := M0.1 0 3 i) ((vR_b hR.V hmlt).1 i hi) (hR.V.2.2.1 i hi).2.2.1.1 (hR.V.2.2.1 i hi).2.1.1
        rw [g4 0 7 i (by omega), g9 3 i (by omega), ← (a2 i hi).2.1]
        exact ⟨z1.symm, z2.1, by rw [← z3] at z4; exact z4.2⟩
      · rw [g0 8 k (by omega) (by omega) (by omega), x47 _ (by omega), hI.2.2.2.2.2.2.1 _ (by omega) (by omega), g41 47 _ (by omega)]
        exact a7 k hk
      · rw [g0 6 k (by omega) (by omega) (by omega)] at hm2
        have hk5 := (a4 k (by omega)).2
        have h0m : M0.1 0 6 pu = (mV (cV M0 0) : Int) := by
          show M0.1 0 6 pu = ((M0.1 0 6 (M0.1 0 0 7).toNat).toNat : Int)
          rw [hp, show ((pu : Int)).toNat = pu from rfl]
          have := (a4 pu (by omega)).2
          omega
        by_cases qm : m2 = mV (cV M0 0)
        · subst qm
          refine ⟨fun w hw2 => ?_, fun i hi => ?_⟩
          · rw [g4 0 10 _ (by omega), x47 _ (by omega)]
            obtain ⟨r0, r1, r2, r3⟩ := hO.2.2.2.1
            obtain ⟨s0, s1, s2, s3⟩ := hI.2.2.2.2.2.2.2.1
            rcases (show w = 0 ∨ w = 1 ∨ w = 2 ∨ w = 3 by omega) with rfl | rfl | rfl | rfl
            · rw [r0, s0, eR.1]; rfl
            · rw [r1, s1, eR.1]; rfl
            · rw [r2, s2, emc]
            · rw [r3, s3, eR.1]; rfl
          · rw [g4 0 9 _ (by omega), x47 _ (by omega), (hO.2.1 i hi).1, hI.2.2.2.2.2.2.2.2.2.1 i hi, eR.2 i hi]
            rfl
        · have hkp : (k : Int) < M0.1 0 0 7 := by
            rcases Nat.lt_or_ge k pu with q | q
            · omega
            · have : k = pu := by omega
              rw [this, h0m] at hm2
              omega
          obtain ⟨t1, t2⟩ := a8 k m2 hkp hm2
          refine ⟨fun w hw2 => ?_, fun i hi => ?_⟩
          · rw [g4 0 10 _ (by omega), x47 _ (by omega), hO.2.2.2.2.1 _ (by omega), hI.2.2.2.2.2.2.2.2.1 _ (by omega) (by omega), g41 47 _ (by omega)]
            exact t1 w hw2
          · rw [g4 0 9 _ (by omega), x47 _ (by omega), hO.2.2.1 _ (fun j hj => by omega), hI.2.2.2.2.2.2.2.2.2.2 _ (by omega) (fun j hj => by omega), g41 47 _ (by omega)]
            exact t2 i hi
  rw [ecar]
  have c01 := carV_01 (cV M0 0) n
  refine And.intro ⟨(by first | omega | (dsimp only [am_own]; omega)), (by first | omega | (dsimp only [am_own]; omega))⟩ (And.intro (fun h2 => ?_) (fun h2 => ?_))
  · have h2 : carV (cV M0 0) n = 0 := h2
    rw [h2]
    exact ⟨rfl, rel⟩
  · have h2 : ¬ carV (cV M0 0) n = 0 := h2
    rw [show carV (cV M0 0) n = 1 by omega]
    exact ⟨rfl, rel⟩
