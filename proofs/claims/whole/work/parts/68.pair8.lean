/-! pairs: keep, back -/
theorem c_M_keep {Γ : Am_G} {d : Nat} {M : Am_M} {x : Int} {K : Option Am_V → Am_M → Prop} (hx : am_R x) (h1 : ¬ (0 ≤ x ∧ x ≤ 1) → K (some (.inl (-2))) M) (h2 : ∀ M1, 0 ≤ x ∧ x ≤ 1 → cpO M 47 0 49 (92 * x.toNat) M1 → K (some (.inl (M.1 0 47 0))) (am_set M1 0 50 x.toNat 1)) : am_Ev Γ (d + 2) n_M_keep [.inr (.inr (0, 41)), .inl x] M K := by
  refine am_ev_of (by decide) (am_le rfl) (am_go 60 [] (by decide) ?_)
  refine am_by (c_M_in (d := d) x 0 1 hx ⟨(by first | omega | (dsimp only [am_own]; omega)), (by first | omega | (dsimp only [am_own]; omega))⟩ ⟨(by first | omega | (dsimp only [am_own]; omega)), (by first | omega | (dsimp only [am_own]; omega))⟩) (by omega) ?_
  rintro r M0 ⟨rfl, rfl⟩
  by_cases qx : 0 ≤ x ∧ x ≤ 1
  rotate_left
  · rw [if_neg qx]
    refine And.intro ⟨(by first | omega | (dsimp only [am_own]; omega)), (by first | omega | (dsimp only [am_own]; omega))⟩ (And.intro (fun _ => ?_) (fun h => absurd rfl h))
    exact h1 qx
  rw [if_pos qx]
  refine And.intro ⟨(by first | omega | (dsimp only [am_own]; omega)), (by first | omega | (dsimp only [am_own]; omega))⟩ (And.intro (fun h => absurd h (by decide)) (fun _ => ?_))
  rcases (show x = 0 ∨ x = 1 by omega) with rfl | rfl
  all_goals
    first
    | refine am_by (c_M_copy_47_49 (d := d) (x := 0) (y := 0) rfl (by omega)) (by omega) ?_
    | refine am_by (c_M_copy_47_49 (d := d) (x := 0) (y := 92) rfl (by omega)) (by omega) ?_
    rintro r M1 ⟨rfl, hC⟩
    refine And.intro ⟨⟨(by first | omega | (dsimp only [am_own]; omega)), (by first | omega | (dsimp only [am_own]; omega))⟩, Or.inr rfl⟩ ?_
    refine And.intro ⟨(by first | omega | (dsimp only [am_own]; omega)), (by first | omega | (dsimp only [am_own]; omega))⟩ ?_
    have k := h2 M1 qx hC
    have e : ∀ z v, (am_set M1 0 50 z v).1 0 47 0 = M0.1 0 47 0 := fun z v => by rw [set_p (by decide)]; exact hC.1.2 0 47 0 (by decide)
    rw [← e _ 1] at k
    exact k
theorem c_M_back {Γ : Am_G} {d : Nat} {M : Am_M} {x : Int} {K : Option Am_V → Am_M → Prop} (hx : am_R x) (h0 : ∀ k, k < 2 → M.1 0 50 k = 0 ∨ M.1 0 50 k = 1) (h1 : ¬ (0 ≤ x ∧ x ≤ 1) → K (some (.inl (-2))) M) (h3 : 0 ≤ x ∧ x ≤ 1 → M.1 0 50 x.toNat = 0 → K (some (.inl (-4))) M) (h2 : ∀ M1, 0 ≤ x ∧ x ≤ 1 → M.1 0 50 x.toNat = 1 → cpO M 49 (92 * x.toNat) 47 0 M1 → K (some (.inl (M1.1 0 47 0))) M1) : am_Ev Γ (d + 2) n_M_back [.inr (.inr (0, 41)), .inl x] M K := by
  refine am_ev_of (by decide) (am_le rfl) (am_go 60 [] (by decide) ?_)
  refine am_by (c_M_in (d := d) x 0 1 hx ⟨(by first | omega | (dsimp only [am_own]; omega)), (by first | omega | (dsimp only [am_own]; omega))⟩ ⟨(by first | omega | (dsimp only [am_own]; omega)), (by first | omega | (dsimp only [am_own]; omega))⟩) (by omega) ?_
  rintro r M0 ⟨rfl, rfl⟩
  by_cases qx : 0 ≤ x ∧ x ≤ 1
  rotate_left
  · rw [if_neg qx]
    refine And.intro ⟨(by first | omega | (dsimp only [am_own]; omega)), (by first | omega | (dsimp only [am_own]; omega))⟩ (And.intro (fun _ => ?_) (fun h => absurd rfl h))
    exact h1 qx
  rw [if_pos qx]
  refine And.intro ⟨(by first | omega | (dsimp only [am_own]; omega)), (by first | omega | (dsimp only [am_own]; omega))⟩ (And.intro (fun h => absurd h (by decide)) (fun _ => ?_))
  have hb := h0 x.toNat (by omega)
  refine And.intro ⟨(by first | omega | (dsimp only [am_own]; omega)), (by first | omega | (dsimp only [am_own]; omega))⟩ ?_
  refine And.intro (show am_R (M0.1 0 50 x.toNat) from ⟨(by first | omega | (dsimp only [am_own]; omega)), (by first | omega | (dsimp only [am_own]; omega))⟩) (And.intro (fun h => ?_) (fun h => ?_))
  · exact h3 qx h
  have h : ¬ M0.1 0 50 x.toNat = 0 := h
  have h4 : M0.1 0 50 x.toNat = 1 := by omega
  rcases (show x = 0 ∨ x = 1 by omega) with rfl | rfl
  all_goals
    first
    | refine am_by (c_M_copy_49_47 (d := d) (x := 0) (y := 0) (by omega) rfl) (by omega) ?_
    | refine am_by (c_M_copy_49_47 (d := d) (x := 92) (y := 0) (by omega) rfl) (by omega) ?_
    rintro r M1 ⟨rfl, hC⟩
    refine And.intro ⟨(by first | omega | (dsimp only [am_own]; omega)), (by first | omega | (dsimp only [am_own]; omega))⟩ ?_
    exact h2 M1 qx h4 hC
theorem P_keep {Γ : Am_G} {M : Am_M} {x : Int} (h : Rel M) (hx : am_R x) : Pair Γ 24 n_R_keep n_M_keep [.inl x] M := by
  obtain ⟨n, mt, hR⟩ := id h
  have hn := hR.1.1.2.2
  have hm := hR.1.2.1.2.2
  have out : ¬ (0 ≤ x ∧ x ≤ 1) → Ans Γ 24 n_M_keep [.inl x] (some (.inl (-2))) M := fun q => ⟨_, rfl, c_M_keep (d := 22) hx (fun _ => ⟨rfl, h⟩) (fun M1 q2 => absurd q2 q)⟩
  refine am_ev_of (by decide) (am_le rfl) (am_go 60 [] (by decide) ?_)
  refine And.intro hx (And.intro (fun h => out (by omega)) (fun h0 => ?_))
  refine And.intro ⟨hx, ⟨(by first | omega | (dsimp only [am_own]; omega)), (by first | omega | (dsimp only [am_own]; omega))⟩⟩ (And.intro (fun h1 => ?_) (fun h1 => out (by omega)))
  obtain ⟨i, rfl⟩ : ∃ i : Nat, x = i := ⟨x.toNat, by omega⟩
  refine And.intro ⟨(by first | omega | (dsimp only [am_own]; omega)), (by first | omega | (dsimp only [am_own]; omega))⟩ ?_
  refine am_by (c_evCopy (d := 10) (e := 1 + i) (e2 := 0) (by omega)) (by omega) ?_
  rintro r M1 ⟨rfl, hC⟩
  refine And.intro ⟨⟨(by first | omega | (dsimp only [am_own]; omega)), (by first | omega | (dsimp only [am_own]; omega))⟩, Or.inr rfl⟩ ?_
  refine ⟨_, rfl, ?_⟩
  have e7 : (am_set M1 0 13 i 1).1 0 0 7 = M.1 0 0 7 := by rw [set_p (by decide)]; exact hC.1.2 0 0 7 (by omega)
  show am_Ev Γ 24 n_M_keep _ (am_set M1 0 13 i 1) (fun r' M3 => r' = some (.inl ((am_set M1 0 13 i 1).1 0 0 7)) ∧ Rel M3)
  rw [e7]
  generalize hM2 : am_set M1 0 13 i 1 = M2
  have g : ∀ e p k, ¬ (e = 1 + i ∧ p ≤ 10) → ¬ (e = 0 ∧ p = 13) → M2.1 e p k = M.1 e p k := fun e p k a b => by
    rw [← hM2, set_at (by omega)]
    exact hC.1.2 e p k a
  refine c_M_keep (d := 22) hx (fun q => absurd (by omega) q) (fun M3 _ hP => ⟨?_, n, mt, ?_⟩)
  · rw [g 0 47 0 (by omega) (by omega), hR.p7]
  rw [show ((i : Int)).toNat = i from rfl] at hP ⊢
  have g3 : ∀ e p k, p ≠ 49 → p ≠ 50 → (am_set M3 0 50 i 1).1 e p k = M2.1 e p k := fun e p k a b => by
    rw [set_p b]; exact hP.1.2 e p k a
  refine hR.kps (fun e p k hr hq => ?_) (fun k hk => ?_)
  · rw [g3 e p k (by unfold relv at hr; omega) (by unfold relv at hr; omega)]
    exact g e p k (by omega) (by omega)
  · have kk := hR.2.2.1 k hk
    by_cases qk : k = i
    · subst qk
      have e1 : (am_set M3 0 50 k 1).1 0 13 k = 1 := by rw [g3 0 13 k (by omega) (by omega), ← hM2]; exact set_eq
      have e2 : (am_set M3 0 50 k 1).1 0 50 k = 1 := set_eq
      refine ⟨e1.trans e2.symm, Or.inr e1, fun _ => ?_⟩
      have hv := hR.2.1.cp hn hm hC (by omega) (f' := M.1 0 47) (fun _ _ => rfl)
      refine hv.fr hn hm (fun p j hp => ?_) (fun p j a b => ?_) (fun j hj => ?_)
      · rw [g3 _ p j (by omega) (by omega), ← hM2, set_p (by omega)]
      · rw [g3 _ p j (by omega) (by omega), ← hM2, set_p (by omega)]
      · show (am_set M3 0 50 k 1).1 0 49 (92 * k + j) = _
        rw [set_p (by decide), hP.2.1 j hj, Nat.zero_add]
        exact g 0 47 j (by omega) (by omega)
    · have e1 : (am_set M3 0 50 i 1).1 0 13 k = M.1 0 13 k := by rw [g3 0 13 k (by omega) (by omega), ← hM2, set_k qk]; exact hC.1.2 0 13 k (by omega)
      have e2 : (am_set M3 0 50 i 1).1 0 50 k = M.1 0 50 k := by rw [set_k qk, hP.1.2 0 50 k (by decide)]; exact g 0 50 k (by omega) (by omega)
      refine ⟨by rw [e1, e2]; exact kk.1, by rw [e1]; exact kk.2.1, fun q1 => ?_⟩
      rw [e1] at q1
      refine (kk.2.2 q1).fr hn hm (fun p j hp => ?_) (fun p j a b => ?_) (fun j hj => ?_)
      · rw [g3 _ p j (by omega) (by omega)]; exact g _ p j (by omega) (by omega)
      · rw [g3 _ p j (by omega) (by omega)]; exact g _ p j (by omega) (by omega)
      · show (am_set M3 0 50 i 1).1 0 49 (92 * k + j) = _
        rw [set_p (by decide), hP.2.2 _ (by omega)]
        exact g 0 49 _ (by omega) (by omega)
theorem P_back {Γ : Am_G} {M : Am_M} {x : Int} (h : Rel M) (hx : am_R x) : Pair Γ 24 n_R_back n_M_back [.inl x] M := by
  obtain ⟨n, mt, hR⟩ := id h
  have hn := hR.1.1.2.2
  have hm := hR.1.2.1.2.2
  have hb : ∀ k, k < 2 → M.1 0 50 k = 0 ∨ M.1 0 50 k = 1 := fun k hk => by have := hR.2.2.1 k hk; omega
  have out : ¬ (0 ≤ x ∧ x ≤ 1) → Ans Γ 24 n_M_back [.inl x] (some (.inl (-2))) M := fun q => ⟨_, rfl, c_M_back (d := 22) hx hb (fun _ => ⟨rfl, h⟩) (fun q2 => absurd q2 q) (fun M1 q2 => absurd q2 q)⟩
  refine am_ev_of (by decide) (am_le rfl) (am_go 60 [] (by decide) ?_)
  refine And.intro hx (And.intro (fun h => out (by omega)) (fun h0 => ?_))
  refine And.intro ⟨hx, ⟨(by first | omega | (dsimp only [am_own]; omega)), (by first | omega | (dsimp only [am_own]; omega))⟩⟩ (And.intro (fun h1 => ?_) (fun h1 => out (by omega)))
  obtain ⟨i, rfl⟩ : ∃ i : Nat, x = i := ⟨x.toNat, by omega⟩
  obtain ⟨k1, k2, k3⟩ := hR.2.2.1 i (by omega)
  refine And.intro ⟨(by first | omega | (dsimp only [am_own]; omega)), (by first | omega | (dsimp only [am_own]; omega))⟩ ?_
  refine And.intro (show am_R (M.1 0 13 i) from ⟨(by first | omega | (dsimp only [am_own]; omega)), (by first | omega | (dsimp only [am_own]; omega))⟩) (And.intro (fun h2 => ?_) (fun h2 => ?_))
  · have h2 : M.1 0 13 i = 0 := h2
    exact ⟨_, rfl, c_M_back (d := 22) hx hb (fun q => absurd (by omega) q) (fun _ _ => ⟨rfl, h⟩) (fun M1 _ q => by have q : M.1 0 50 i = 1 := q; omega)⟩
  have h2 : ¬ M.1 0 13 i = 0 := h2
  refine And.intro ⟨(by first | omega | (dsimp only [am_own]; omega)), (by first | omega | (dsimp only [am_own]; omega))⟩ ?_
  refine am_by (c_evCopy (d := 10) (e := 0) (e2 := 1 + i) (by omega)) (by omega) ?_
  rintro r M1 ⟨rfl, hC⟩
  refine ⟨_, rfl, ?_⟩
  have e7 : M1.1 0 0 7 = M.1 (1 + i) 0 7 := hC.2.1.2.1
  show am_Ev Γ 24 n_M_back _ M1 (fun r' M3 => r' = some (.inl (M1.1 0 0 7)) ∧ Rel M3)
  rw [e7]
  have g : ∀ e p k, ¬ (e = 0 ∧ p ≤ 10) → M1.1 e p k = M.1 e p k := fun e p k a => hC.1.2 e p k a
  have f50 : M1.1 0 50 i = 1 := by rw [g 0 50 i (by omega)]; omega
  have hv := (k3 (by omega)).cp hn hm hC (by omega) (f' := fun j => M.1 0 49 (92 * i + j)) (fun _ _ => rfl)
  refine c_M_back (d := 22) hx (fun k hk => by rw [g 0 50 k (by omega)]; exact hb k hk) (fun q => absurd (by omega) q) (fun _ q => by have q : M1.1 0 50 i = 0 := q; omega) (fun M3 _ _ hP => ⟨?_, n, mt, ?_⟩)
  · rw [show ((i : Int)).toNat = i from rfl] at hP
    have := hP.2.1 0 (by omega)
    rw [Nat.zero_add] at this
    rw [this, g 0 49 _ (by omega)]
    exact congrArg (fun z => some (Sum.inl z)) (k3 (by omega)).2.2.1.1.symm
  rw [show ((i : Int)).toNat = i from rfl] at hP
  have g3 : ∀ e p k, p ≠ 47 → M3.1 e p k = M1.1 e p k := fun e p k a => hP.1.2 e p k a
  refine hR.evs (fun e p k hr hq => ?_) ?_
  · by_cases q47 : p = 47
    · unfold relv at hr; omega
    · rw [g3 e p k q47]; exact g e p k (by omega)
  · refine hv.fr hn hm (fun p j hp => g3 _ p j (by omega)) (fun p j a b => g3 _ p j (by omega)) (fun j hj => ?_)
    have := hP.2.1 j hj
    rw [Nat.zero_add] at this
    rw [this]
    exact g 0 49 _ (by omega)
