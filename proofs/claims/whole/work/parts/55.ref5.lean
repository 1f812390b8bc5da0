/-! the reference: bought, hour -/
theorem c_M_bought {Γ : Am_G} {d : Nat} {M : Am_M} {n mt pu : Nat} {y : Int} (hy : am_R y) (hM : wfM M n mt) (hp : M.1 0 47 0 = pu) (hpm : pu ≤ mt) (hperm : permO (oM M) mt) : am_Ev Γ (d + 6) n_M_bought [.inr (.inr (0, 41)), .inl y] M (fun r M' => r = some (.inl (if 0 ≤ y ∧ y < mt then (if posO (oM M) y mt < pu then -4 else boughtS (M.1 0 43 y.toNat) (vR (iterV n (posO (oM M) y mt - pu) (rV M)) n y.toNat).2.1 (vR (iterV n (posO (oM M) y mt - pu) (rV M)) n y.toNat).2.2.1 201 0) else -2)) ∧ rF M M') := by
  obtain ⟨⟨n1, n2, n3, n4⟩, n5, n6, n7, n8, n9, n10, n11⟩ := id hM
  refine am_ev_of (by decide) (am_le rfl) (am_go 80 [49] (by decide) ?_)
  refine am_by (c_M_isMatter (d := d) y hy (by omega)) (by omega) ?_
  rintro r M2 ⟨rfl, rfl⟩
  rw [n3]
  by_cases qy : 0 ≤ y ∧ y < mt
  rotate_left
  · rw [if_neg qy, if_neg qy]
    refine And.intro ⟨(by first | omega | (dsimp only [am_own]; omega)), (by first | omega | (dsimp only [am_own]; omega))⟩ (And.intro (fun _ => ⟨rfl, rF.rf⟩) (fun h => absurd rfl h))
  rw [if_pos qy, if_pos qy]
  refine And.intro ⟨(by first | omega | (dsimp only [am_own]; omega)), (by first | omega | (dsimp only [am_own]; omega))⟩ (And.intro (fun h => absurd h (by decide)) (fun _ => ?_))
  obtain ⟨m, rfl⟩ : ∃ m : Nat, y = m := ⟨y.toNat, by omega⟩
  have hQ := posO_lt (hperm m (by omega))
  obtain ⟨-, hQf, hQx⟩ := posO_spec (oM M2) (m : Int) mt
  have hQx := hQx hQ
  generalize posO (oM M2) (m : Int) mt = Q at *
  refine am_by (c_M_wasPut (d := d) (q := Q) (by omega) hQx hQf (fun k hk => by have := n9 k (by omega); exact ⟨by omega, by omega⟩) ⟨by omega, by omega⟩) (by omega) ?_
  rintro r M3 ⟨rfl, rfl⟩
  rw [hp]
  by_cases qQ : Q < pu
  · rw [if_pos qQ, if_pos (by omega)]
    refine And.intro ⟨(by first | omega | (dsimp only [am_own]; omega)), (by first | omega | (dsimp only [am_own]; omega))⟩ (And.intro (fun h => absurd h (by decide)) (fun _ => ⟨rfl, rF.rf⟩))
  rw [if_neg qQ, if_neg (by omega)]
  obtain ⟨q, rfl⟩ : ∃ q, Q = pu + q := ⟨Q - pu, by omega⟩
  rw [show pu + q - pu = q by omega, show ((m : Int)).toNat = m from rfl]
  refine And.intro ⟨(by first | omega | (dsimp only [am_own]; omega)), (by first | omega | (dsimp only [am_own]; omega))⟩ (And.intro (fun _ => ?_) (fun h => absurd rfl h))
  refine am_by (c_M_putAside (d := d + 3)) (by omega) ?_
  rintro r M4 ⟨rfl, hA⟩
  have hrs := cpO48_rs hA
  have hM4 := hM.rs hrs
  have hv4 := rV.rs (n := n) (mt := mt) hrs hM.1.2.1 hM.1.2.2.2
  have w47 : ∀ k, k < 92 → M4.1 0 47 k = M3.1 0 47 k := hrs.2.2
  refine am_by (c_M_putTo (d := d) (pu := pu) (q := q) (x := m) hM4 ((w47 0 (by omega)).trans hp) (by omega) ((w47 _ (by omega)).trans hQx) (fun k hk => by rw [w47 _ (by omega)]; exact hQf k hk)) (by omega) ?_
  rintro r M5 ⟨rfl, hO⟩
  have hw0 := rV_wf hM (by omega)
  have hw4 := veq_wf hv4.symm hw0
  have h03 : rV M4 0 3 = pu := (w47 0 (by omega)).trans hp
  have hit := iterV_congr q _ _ hv4 hw4 (by omega)
  have hwq : wfV (iterV n q (rV M3)) n mt := iterV_wf q _ hw0 (by have : rV M3 0 3 = pu := hp; omega)
  have hmm : m < mt := by omega
  have hcar : carV (iterV n q (rV M4)) n = carV (iterV n q (rV M3)) n := carV_congr hit (iterV_wf q _ hw4 (by omega)) (by rw [iterV_03]; omega)
  have hR := (vR_congr hit hmm).1
  obtain ⟨-, bF, bA, -⟩ := vR_b hwq hmm
  have e1 : mV (iterV n q (rV M3)) = m := mV_at (V := rV M3) hp hQx
  have hnd := n7 m hmm
  have v5 : iterV n q (rV M3) 5 m = M3.1 0 43 m := by
    have : ∀ (k : Nat) (V : Vw), iterV n k V 5 m = V 5 m := fun k => by
      induction k with
      | zero => intro V; rfl
      | succ k ih => intro V; exact ih (voteV V n)
    exact this q (rV M3)
  have hcv : carV (iterV n q (rV M3)) n = vt_carI (M3.1 0 43 m) (vR (iterV n q (rV M3)) n m).2.1 (vR (iterV n q (rV M3)) n m).2.2.1 := by
    unfold carV
    rw [e1, v5]
  rw [hcar]
  have h24 := hO.2.2.1
  have h25 := hO.2.2.2
  rw [hR] at h24 h25
  rw [hcv]
  generalize (vR (iterV n q (rV M3)) n m).2.1 = F at *
  generalize (vR (iterV n q (rV M3)) n m).2.2.1 = A at *
  refine am_by (c_M_putBack (d := d + 3)) (by omega) ?_
  rintro r M6 ⟨rfl, hB⟩
  have hF6 : rF M3 M6 := rF_of hA hO.1.g (fun k _ => hO.1.2.1 0 48 k (by omega) (by omega) (by omega)) hB
  have k24 : M6.1 0 41 24 = F := (hB.1.2 0 41 24 (by omega)).trans h24
  have k25 : M6.1 0 41 25 = A := (hB.1.2 0 41 25 (by omega)).trans h25
  have k43 : M6.1 0 43 m = M3.1 0 43 m := hF6.2.1 0 43 m (by omega) (by omega) (by omega) (by omega)
  have loop : ∀ (z : Int) (k : Nat) (s : Int), s + k = 201 → 1 ≤ s → am_At Γ (d + 6) n_M_bought 49 [some (.inr (.inr (0, 41))), some (.inl (m : Int)), some (.inl z), some (.inl (-1)), some (.inl s)] [] M6 (fun r M' => r = some (.inl (boughtS (M3.1 0 43 m) F A k s)) ∧ rF M3 M') := by
    intro z k
    induction k with
    | zero =>
      intro s hs h1
      refine am_go 60 [49] (by decide) ?_
      refine And.intro ⟨⟨(by first | omega | (dsimp only [am_own]; omega)), (by first | omega | (dsimp only [am_own]; omega))⟩, ⟨(by first | omega | (dsimp only [am_own]; omega)), (by first | omega | (dsimp only [am_own]; omega))⟩⟩ (And.intro (fun h => ?_) (fun h => ⟨rfl, hF6⟩))
      exfalso; omega
    | succ k ih =>
      intro s hs h1
      have p0 := mul_b (a := M3.1 0 43 m) (b := F + s + A) (A := 9) (B := 40000) (by omega) (by omega)
      refine am_go 60 [49] (by decide) ?_
      refine And.intro ⟨⟨(by first | omega | (dsimp only [am_own]; omega)), (by first | omega | (dsimp only [am_own]; omega))⟩, ⟨(by first | omega | (dsimp only [am_own]; omega)), (by first | omega | (dsimp only [am_own]; omega))⟩⟩ (And.intro (fun h => ?_) (fun h => ?_))
      rotate_left
      · exfalso; omega
      refine And.intro ⟨⟨(by first | omega | (dsimp only [am_own]; omega)), (by first | omega | (dsimp only [am_own]; omega))⟩, ⟨(by first | omega | (dsimp only [am_own]; omega)), (by first | omega | (dsimp only [am_own]; omega))⟩⟩ (And.intro (fun _ => ?_) (fun h => absurd rfl h))
      have hc := c_M_isCarried (Γ := Γ) (d := d) (M := M6) (m := m) (m : Int) (F + s) A rfl (by omega) ⟨by omega, by omega⟩ (by rw [k43]; exact ⟨by omega, by omega⟩)
      rw [k43, ← k24, ← k25] at hc
      refine am_by hc (by omega) ?_
      rintro r M7 ⟨rfl, rfl⟩
      rw [k24, k25, boughtS]
      unfold vt_carI
      by_cases qq : M3.1 0 43 m * (F + s + A) < 10 * (F + s)
      · rw [if_pos qq, if_pos qq]
        refine And.intro ⟨(by first | omega | (dsimp only [am_own]; omega)), (by first | omega | (dsimp only [am_own]; omega))⟩ (And.intro (fun h3 => absurd h3 (by decide)) (fun _ => ?_))
        refine am_go 60 [] (by decide) ?_
        refine And.intro ⟨⟨(by first | omega | (dsimp only [am_own]; omega)), (by first | omega | (dsimp only [am_own]; omega))⟩, ⟨(by first | omega | (dsimp only [am_own]; omega)), (by first | omega | (dsimp only [am_own]; omega))⟩⟩ (And.intro (fun _ => ?_) (fun _ => ⟨rfl, hF6⟩))
        refine And.intro ⟨⟨(by first | omega | (dsimp only [am_own]; omega)), (by first | omega | (dsimp only [am_own]; omega))⟩, ⟨(by first | omega | (dsimp only [am_own]; omega)), (by first | omega | (dsimp only [am_own]; omega))⟩⟩ (And.intro (fun h => ?_) (fun _ => ⟨rfl, hF6⟩))
        exfalso; omega
      · rw [if_neg qq, if_neg qq]
        refine And.intro ⟨(by first | omega | (dsimp only [am_own]; omega)), (by first | omega | (dsimp only [am_own]; omega))⟩ (And.intro (fun _ => ih (s + 1) (by omega) (by omega)) (fun h3 => absurd rfl h3))
  have e0 : boughtS (M3.1 0 43 m) F A 201 0 = if M3.1 0 43 m * (F + A) < 10 * F then 0 else boughtS (M3.1 0 43 m) F A 200 1 := by
    rw [boughtS, Int.add_zero]
    rfl
  rw [e0]
  unfold vt_carI
  by_cases q0 : M3.1 0 43 m * (F + A) < 10 * F
  · rw [if_pos q0, if_pos q0]
    refine And.intro ⟨(by first | omega | (dsimp only [am_own]; omega)), (by first | omega | (dsimp only [am_own]; omega))⟩ (And.intro (fun h => absurd h (by decide)) (fun _ => ?_))
    refine am_go 60 [] (by decide) ?_
    refine And.intro ⟨⟨(by first | omega | (dsimp only [am_own]; omega)), (by first | omega | (dsimp only [am_own]; omega))⟩, ⟨(by first | omega | (dsimp only [am_own]; omega)), (by first | omega | (dsimp only [am_own]; omega))⟩⟩ (And.intro (fun _ => ?_) (fun _ => ⟨rfl, hF6⟩))
    exact And.intro ⟨⟨(by first | omega | (dsimp only [am_own]; omega)), (by first | omega | (dsimp only [am_own]; omega))⟩, ⟨(by first | omega | (dsimp only [am_own]; omega)), (by first | omega | (dsimp only [am_own]; omega))⟩⟩ (And.intro (fun h => absurd h (by decide)) (fun _ => ⟨rfl, hF6⟩))
  · rw [if_neg q0, if_neg q0]
    refine And.intro ⟨(by first | omega | (dsimp only [am_own]; omega)), (by first | omega | (dsimp only [am_own]; omega))⟩ (And.intro (fun _ => ?_) (fun h => absurd rfl h))
    exact loop _ 200 1 (by omega) (by omega)
/-- other arms -/
def sw (V : Vw) (a : Nat → Int) : Vw := fun c k => if c = 2 then a k else V c k
theorem sw_wf {V : Vw} {n mt : Nat} {a : Nat → Int} (h : wfV V n mt) (ha : ∀ i, i < n → 0 ≤ a i ∧ a i ≤ 99) : wfV (sw V a) n mt := by
  obtain ⟨h1, h2, h3, h4, h5⟩ := h
  refine ⟨h1, h2, fun i hi => ?_, h4, h5⟩
  obtain ⟨x1, x2, x3, x4, x5⟩ := h3 i hi
  exact ⟨x1, ha i hi, x3, x4, x5⟩
theorem carL_free {n mt : Nat} : ∀ (k : Nat) (acc : Int) (V : Vw) (a : Nat → Int), wfV V n mt → (∀ i, i < n → V 3 i = 0 ∧ V 8 i ≤ V 2 i ∧ V 8 i ≤ a i) → (∀ i, i < n → 0 ≤ a i ∧ a i ≤ 99) → V 0 3 + k ≤ mt → carL n k acc V = carL n k acc (sw V a)
  | 0, _, _, _, _, _, _, _ => rfl
  | k + 1, acc, V, a, hV, h, ha, hp => by
    have hp0 := hV.1.2.2.2.2.1
    have hp1 : V 0 3 < mt := by push_cast at hp; omega
    have hb := (vR_b hV (mV_lt hV hp1)).1
    have hv : veq n mt (sw (voteV V n) a) (voteV (sw V a) n) := by
      refine ⟨fun _ _ => rfl, fun i hi => ⟨rfl, rfl, rfl, rfl, ?_⟩, fun _ _ => ⟨rfl, rfl⟩, fun _ _ _ _ => ⟨rfl, rfl⟩⟩
      show clL (V 8 i) ((vR V n (mV V)).1 i) (V 3 i) (V 2 i) = clL (V 8 i) ((vR V n (mV V)).1 i) (V 3 i) (a i)
      obtain ⟨z1, z2, z3⟩ := h i hi
      have := hb i hi
      unfold clL
      rw [if_neg (by omega), if_neg (by omega)]
    have hw := voteV_wf hV hp1
    have h' : ∀ i, i < n → voteV V n 3 i = 0 ∧ voteV V n 8 i ≤ voteV V n 2 i ∧ voteV V n 8 i ≤ a i := by
      intro i hi
      obtain ⟨z1, z2, z3⟩ := h i hi
      have := hb i hi
      have e : voteV V n 8 i = clL (V 8 i) ((vR V n (mV V)).1 i) (V 3 i) (V 2 i) := rfl
      have e2 : clL (V 8 i) ((vR V n (mV V)).1 i) (V 3 i) (V 2 i) ≤ V 8 i := by
        unfold clL
        split <;> omega
      exact ⟨z1, by show _ ≤ V 2 i; omega, by omega⟩
    have h3' : voteV V n 0 3 + (k : Nat) ≤ mt := by rw [voteV_03]; push_cast at hp; omega
    rw [carL, carL]
    refine (carL_free k _ (voteV V n) a hw h' ha h3').trans ?_
    exact carL_congr k _ _ _ hv (sw_wf hw ha) h3'
theorem c_M_hour {Γ : Am_G} {d : Nat} {M : Am_M} {n mt : Nat} {h : Int} (hh : am_R h) (hM : wfM M n mt) (hfree : M.1 0 41 31 = 0) (hp : 0 ≤ M.1 0 47 0 ∧ M.1 0 47 0 ≤ mt) : am_Ev Γ (d + 6) n_M_hour [.inr (.inr (0, 41)), .inl h] M (fun r M' => r = some (.inl (if 0 ≤ h ∧ h ≤ 99 then carL n mt 0 (hV (rV M) h) else -3)) ∧ rF M M') := by
  obtain ⟨⟨n1, n2, n3, n4⟩, n5, n6, n7, n8, n9, n10, n11⟩ := id hM
  refine am_ev_of (by decide) (am_le rfl) (am_go 60 [26] (by decide) ?_)
  refine am_by (c_M_in (d := d) h 0 99 hh ⟨(by first | omega | (dsimp only [am_own]; omega)), (by first | omega | (dsimp only [am_own]; omega))⟩ ⟨(by first | omega | (dsimp only [am_own]; omega)), (by first | omega | (dsimp only [am_own]; omega))⟩) (by omega) ?_
  rintro r M0 ⟨rfl, rfl⟩
  by_cases qh : 0 ≤ h ∧ h ≤ 99
  rotate_left
  · rw [if_neg qh, if_neg qh]
    refine And.intro ⟨(by first | omega | (dsimp only [am_own]; omega)), (by first | omega | (dsimp only [am_own]; omega))⟩ (And.intro (fun _ => ⟨rfl, rF.rf⟩) (fun h => absurd rfl h))
  rw [if_pos qh, if_pos qh]
  refine And.intro ⟨(by first | omega | (dsimp only [am_own]; omega)), (by first | omega | (dsimp only [am_own]; omega))⟩ (And.intro (fun h => absurd h (by decide)) (fun _ => ?_))
  refine am_by (c_M_putAside (d := d + 3)) (by omega) ?_
  rintro r M1 ⟨rfl, hA⟩
  refine And.intro ⟨(by first | omega | (dsimp only [am_own]; omega)), (by first | omega | (dsimp only [am_own]; omega))⟩ ?_
  have hrs := cpO48_rs hA
  have hM1 := hM.rs hrs
  have loop : ∀ (k i : Nat) (M2 : Am_M), i + k = n → am_same (fun _ p => p = 47) M1 M2 → M2.1 0 47 0 = 0 → (∀ j, j < i → M2.1 0 47 (6 + j) = h) → (∀ j, 1 ≤ j → (j < 6 ∨ 12 ≤ j) → M2.1 0 47 j = M1.1 0 47 j) → am_At Γ (d + 6) n_M_hour 26 [some (.inr (.inr (0, 41))), some (.inl h), some (.inl (i : Int))] [] M2 (fun r M' => r = some (.inl (carL n mt 0 (hV (rV M0) h))) ∧ rF M0 M') := by
    intro k
    induction k with
    | zero =>
      intro i M2 hi hs h0 hl ho
      have : i = n := by omega
      subst this
      have f41 : ∀ k, M2.1 0 41 k = M0.1 0 41 k := fun k => (hs.2 0 41 k (by omega)).trans (hA.1.2 0 41 k (by omega))
      have fp : ∀ p k, 42 ≤ p → p ≤ 46 → M2.1 0 p k = M0.1 0 p k := fun p k a b => (hs.2 0 p k (by omega)).trans (hA.1.2 0 p k (by omega))
      have f47 : ∀ j, 1 ≤ j → (j < 6 ∨ 12 ≤ j) → M2.1 0 47 j = M0.1 0 47 j := fun j a b => (ho j a b).trans (hA.1.2 0 47 j (by omega))
      have e0 : M2.1 0 41 0 = i := (f41 0).trans n1
      refine am_go 60 [] (by decide) ?_
      refine And.intro ⟨⟨(by first | omega | (dsimp only [am_own]; omega)), (by first | omega | (dsimp only [am_own]; omega))⟩, (show am_R (M2.1 0 41 0) from ⟨(by first | omega | (dsimp only [am_own]; omega)), (by first | omega | (dsimp only [am_own]; omega))⟩)⟩ (And.intro (fun hz => ?_) (fun hz => ?_))
      · exfalso
        have hz : (i : Int) < M2.1 0 41 0 := hz
        omega
      refine And.intro (Or.inr rfl) ?_
      generalize hM3 : am_set M2 0 41 31 1 = M3
      have g41 : ∀ k, k ≠ 31 → M3.1 0 41 k = M0.1 0 41 k := fun k hk => by rw [← hM3, set_k hk]; exact f41 k
      have g31 : M3.1 0 41 31 = 1 := by rw [← hM3]; exact set_eq
      have gp : ∀ p k, 42 ≤ p → p ≤ 46 → M3.1 0 p k = M0.1 0 p k := fun p k a b => by rw [← hM3, set_p (by omega)]; exact fp p k a b
      have g47 : ∀ k, M3.1 0 47 k = M2.1 0 47 k := fun k => by rw [← hM3, set_p (by omega)]
      have hM3w : wfM M3 i mt := by
        refine ⟨⟨by rw [g41 0 (by omega)]; exact n1, n2, by rw [g41 2 (by omega)]; exact n3, n4⟩, by rw [g41 5 (by omega)]; exact n5, fun j hj => ?_, fun m hm => by rw [gp 43 _ (by omega) (by omega)]; exact n7 m hm, fun j m hj hm => ?_, fun k hk => ?_, by rw [g41 30 (by omega)]; exact n10, Or.inr g31⟩
        · rw [gp 42 _ (by omega) (by omega), gp 42 _ (by omega) (by omega), gp 42 _ (by omega) (by omega), gp 42 _ (by omega) (by omega), g47, hl j hj]
          obtain ⟨a, b, c, d1, e⟩ := n6 j hj
          exact ⟨a, b, c, d1, qh⟩
        · rw [gp 44 _ (by omega) (by omega), g47, f47 _ (by omega) (by omega)]; exact n8 j m hj hm
        · rw [g47, f47 _ (by omega) (by omega)]; exact n9 k hk
      have z0 : M3.1 0 47 0 = 0 := (g47 0).trans h0
      refine am_by (c_M_putAll (d := d) hM3w (by omega)) (by omega) ?_
      rintro r M4 ⟨rfl, hP⟩
      refine And.intro (Or.inl rfl) ?_
      refine am_by (c_M_putBack (d := d + 3)) (by omega) ?_
      rintro r M6 ⟨rfl, hB⟩
      have k48 : ∀ k, k < 92 → M4.1 0 48 k = M0.1 0 47 k := fun k hk => by
        have := hA.2.1 k hk
        rw [Nat.zero_add] at this
        rw [hP.2.1 0 48 k (by omega) (by omega) (by omega), ← hM3, set_p (by decide), hs.2 0 48 k (by omega)]
        exact this
      refine ⟨congrArg (fun z => some (Sum.inl z)) ?_, ?_, fun e p k a b c d1 => ?_, fun k a b c => ?_, fun k hk => ?_⟩
      · rw [z0]
        show carL i mt 0 (rV M3) = _
        have hw0 := rV_wf hM hp
        have hwh := hV_wf hw0 qh
        have hv : veq i mt (rV M3) (sw (hV (rV M0) h) (fun _ => 99)) := by
          refine ⟨fun k hk => ?_, fun j hj => ⟨?_, ?_, ?_, gp 42 _ (by omega) (by omega), (g47 _).trans (hl j hj)⟩, fun m hm => ⟨gp 43 m (by omega) (by omega), (g47 _).trans (f47 _ (by omega) (by omega))⟩, fun j m hj hm => ⟨gp 44 _ (by omega) (by omega), (g47 _).trans (f47 _ (by omega) (by omega))⟩⟩
          · rcases (show k = 0 ∨ k = 1 ∨ k = 2 ∨ k = 3 by omega) with rfl | rfl | rfl | rfl
            · exact g41 0 (by omega)
            · exact g41 2 (by omega)
            · exact g41 5 (by omega)
            · exact z0
          · show mkd M3 j = mkd M0 j
            unfold mkd
            rw [g41 30 (by omega), gp 42 _ (by omega) (by omega)]
          · show (if M3.1 0 41 31 = 1 then 99 else M3.1 0 42 (j * 4 + 1)) = 99
            rw [if_pos g31]
          · show (if M3.1 0 41 31 = 1 then 0 else M3.1 0 42 (j * 4 + 2)) = 0
            rw [if_pos g31]
        have h5 : ∀ j, j < i → 0 ≤ (fun _ : Nat => (99 : Int)) j ∧ (fun _ : Nat => (99 : Int)) j ≤ 99 := fun j _ => ⟨by show (0 : Int) ≤ 99; omega, Int.le_refl _⟩
        have hz3 : hV (rV M0) h 0 3 = 0 := rfl
        rw [carL_free mt 0 (hV (rV M0) h) (fun _ => 99) hwh (fun j hj => ⟨rfl, Int.le_refl h, by show h ≤ 99; omega⟩) h5 (by omega)]
        exact carL_congr mt 0 _ _ hv (veq_wf hv.symm (sw_wf hwh h5)) (by show M3.1 0 47 0 + _ ≤ _; omega)
      · exact hB.1.1.trans (hP.1.trans (by rw [← hM3]; exact hs.1.trans hA.1.1))
      · rw [hB.1.2 e p k (by omega), set_p a, hP.2.1 e p k a b (by omega), ← hM3, set_p a, hs.2 e p k b]
        exact hA.1.2 e p k c
      · rw [hB.1.2 0 41 k (by omega)]
        by_cases q : k = 31
        · rw [q, hfree]; exact set_eq
        · rw [set_k q, hP.2.2 k a b c]; exact g41 k q
      · have := hB.2.1 k hk
        rw [Nat.zero_add] at this
        rw [this, set_p (by decide)]
        exact k48 k hk
    | succ k ih =>
      intro i M2 hi hs h0 hl ho
      have e0 : M2.1 0 41 0 = n := (hs.2 0 41 0 (by omega)).trans ((hA.1.2 0 41 0 (by omega)).trans n1)
      refine am_go 60 [26] (by decide) ?_
      refine And.intro ⟨⟨(by first | omega | (dsimp only [am_own]; omega)), (by first | omega | (dsimp only [am_own]; omega))⟩, (show am_R (M2.1 0 41 0) from ⟨(by first | omega | (dsimp only [am_own]; omega)), (by first | omega | (dsimp only [am_own]; omega))⟩)⟩ (And.intro (fun hz => ?_) (fun hz => ?_))
      · refine And.intro ⟨(by first | omega | (dsimp only [am_own]; omega)), (by first | omega | (dsimp only [am_own]; omega))⟩ ?_
        have e6 : (6 + (i : Int)).toNat = 6 + i := by omega
        rw [e6]
        refine ih (i + 1) (am_set M2 0 47 (6 + i) h) (by omega) (hs.set rfl) (by rw [set_k (by omega)]; exact h0) (fun j hj => ?_) (fun j a b => by rw [set_k (by omega)]; exact ho j a b)
        by_cases q : j = i
        · subst q; exact set_eq
        · rw [set_k (by omega)]; exact hl j (by omega)
      · exfalso
        have hz : ¬ (i : Int) < M2.1 0 41 0 := hz
        omega
  exact loop n 0 (am_set M1 0 47 0 0) (by omega) (am_same.rf.set rfl) set_eq (fun j hj => absurd hj (by omega)) (fun j a b => set_k (by omega))
