/-! pairs: tell, keep, back -/
theorem RelN.evs {M M' : Am_M} {n mt : Nat} (h : RelN M n mt) (hs : ∀ e p k, relv e p k → ¬ (e = 0 ∧ (p ≤ 10 ∨ p = 47)) → M'.1 e p k = M.1 e p k) (hr : evR M' n mt 0 (M'.1 0 47)) : RelN M' n mt := by
  obtain ⟨h1, h2, h3, h4, h5, h6⟩ := h
  have hn := h1.1.2.2
  have hm := h1.2.1.2.2
  unfold relv at hs
  exact ⟨h1.fr (fun p k a b => hs 9 p k (by omega) (by omega)) (fun p k a b c => hs 0 p k (by omega) (by omega)) (fun k a => hs 0 41 k (by omega) (by omega)) (fun p k a b => hs 0 p k (by omega) (by omega)), hr, h3.fr hn hm (fun e p k a b c => hs e p k (by omega) (by omega)) (fun p k a b => hs 9 p k (by omega) (by omega)) (fun p k a => hs 0 p k (by omega) (by omega)), h4.fr (hs 0 18 9 (by omega) (by omega)) (hs 0 41 22 (by omega) (by omega)) (fun p k a => hs 0 p k (by omega) (by omega)), h5.fr (hs 0 14 1 (by omega) (by omega)) (hs 0 41 6 (by omega) (by omega)) (fun p k a => hs 0 p k (by omega) (by omega)), by rw [hs 0 41 30 (by omega) (by omega), hs 0 41 31 (by omega) (by omega)]; exact h6⟩
theorem RelN.kps {M M' : Am_M} {n mt : Nat} (h : RelN M n mt) (hs : ∀ e p k, relv e p k → ¬ (((e = 1 ∨ e = 2) ∧ p ≤ 10) ∨ (e = 0 ∧ (p = 13 ∨ p = 49 ∨ p = 50))) → M'.1 e p k = M.1 e p k) (hr : kpR M' n mt) : RelN M' n mt := by
  obtain ⟨h1, h2, h3, h4, h5, h6⟩ := h
  have hn := h1.1.2.2
  have hm := h1.2.1.2.2
  unfold relv at hs
  exact ⟨h1.fr (fun p k a b => hs 9 p k (by omega) (by omega)) (fun p k a b c => hs 0 p k (by omega) (by omega)) (fun k a => hs 0 41 k (by omega) (by omega)) (fun p k a b => hs 0 p k (by omega) (by omega)), h2.fr hn hm (fun p k a => hs 0 p k (by omega) (by omega)) (fun p k a b => hs 9 p k (by omega) (by omega)) (fun k hk => hs 0 47 k (by omega) (by omega)), hr, h4.fr (hs 0 18 9 (by omega) (by omega)) (hs 0 41 22 (by omega) (by omega)) (fun p k a => hs 0 p k (by omega) (by omega)), h5.fr (hs 0 14 1 (by omega) (by omega)) (hs 0 41 6 (by omega) (by omega)) (fun p k a => hs 0 p k (by omega) (by omega)), by rw [hs 0 41 30 (by omega) (by omega), hs 0 41 31 (by omega) (by omega)]; exact h6⟩
/-- an evening copied is as the other was -/
theorem evR.cp {M M' : Am_M} {n mt a b : Nat} {f f' : Nat → Int} (h : evR M n mt b f) (hn : n ≤ 6) (hm5 : mt ≤ 5) (hC : evC M a b M') (ha : a ≤ 8) (hf : ∀ k, k < 92 → f' k = f k) : evR M' n mt a f' := by
  obtain ⟨a1, a2, a3, a4, a5, a6, a7, a8⟩ := h
  obtain ⟨c1, ⟨c2, c3, c4⟩, c5, c6, c7, c8⟩ := hC
  have h9 : ∀ p k, M'.1 9 p k = M.1 9 p k := fun p k => c1.2 9 p k (by omega)
  refine ⟨by rw [c2, c4]; exact a1, fun i hi => ?_, by rw [c3, hf 0 (by omega)]; exact a3, fun k hk => ?_, fun m hm => ?_, fun i hi => ?_, fun k hk => ?_, fun k m hk hm => ?_⟩
  · obtain ⟨d1, d2, d3, d4, d5⟩ := c5 i (by omega)
    rw [d1, d2, d3, d4, h9, h9, h9, h9]; exact a2 i hi
  · rw [c6 k (by omega), hf _ (by omega)]; exact a4 k hk
  · obtain ⟨k, hk, he⟩ := a5 m hm
    exact ⟨k, hk, by rw [c6 k (by omega)]; exact he⟩
  · rw [(c5 i (by omega)).2.2.2.2, hf _ (by omega), h9]; exact a6 i hi
  · rw [(c7 k hk).1, hf _ (by omega)]; exact a7 k hk
  · rw [c3] at hk
    rw [c6 k (by omega)] at hm
    have hk5 := (a4 k (by omega)).2
    obtain ⟨b1, b2⟩ := a8 k m hk hm
    refine ⟨fun w hw => ?_, fun i hi => ?_⟩
    · rw [c8 _ (by omega), hf _ (by omega)]; exact b1 w hw
    · rw [(c7 _ (by omega)).2, hf _ (by omega)]; exact b2 i hi
theorem P_tell {Γ : Am_G} {M : Am_M} {x y s : Int} (h : Rel M) (hx : am_R x) (hy : am_R y) (hs : am_R s) : Pair Γ 24 n_R_tell n_M_tell [.inl x, .inl y, .inl s] M := by
  obtain ⟨n, mt, hR⟩ := id h
  have b1 := hR.1.1
  have b2 := hR.1.2.1
  obtain ⟨n1, n2, n3, n4⟩ := hR.wM.1
  -- the reference
  have ref : ∀ (K : Option Am_V → Am_M → Prop) (M1 : Am_M), M1.1 0 41 0 = n → M1.1 0 41 2 = mt → (¬ ((0 ≤ x ∧ x < n) ∧ (0 ≤ y ∧ y < mt)) → K (some (.inl (-2))) M1) → ((0 ≤ x ∧ x < n) ∧ (0 ≤ y ∧ y < mt) → ¬ (0 ≤ s ∧ s ≤ 99) → K (some (.inl (-3))) M1) → ((0 ≤ x ∧ x < n) ∧ (0 ≤ y ∧ y < mt) → 0 ≤ s ∧ s ≤ 99 → am_R (M1.1 0 42 (4 * x).toNat) ∧ (M1.1 0 42 (4 * x).toNat ≠ 3 → K (some (.inl (-4))) M1) ∧ (M1.1 0 42 (4 * x).toNat = 3 → K (some (.inl (M1.1 0 47 (12 + 5 * x + y).toNat))) (am_set M1 0 47 (12 + 5 * x + y).toNat s))) → am_Ev Γ 24 n_M_tell [.inr (.inr (0, 41)), .inl x, .inl y, .inl s] M1 K := by
    intro K M1 e0 e2 k1 k2 k3
    refine am_ev_of (by decide) (am_le rfl) (am_go 60 [] (by decide) ?_)
    refine am_by (c_M_isPerson (d := 20) x hx (by omega)) (by omega) ?_
    rintro r M2 ⟨rfl, rfl⟩
    rw [e0]
    by_cases qx : 0 ≤ x ∧ x < n
    rotate_left
    · rw [if_neg qx]
      refine And.intro ⟨(by first | omega | (dsimp only [am_own]; omega)), (by first | omega | (dsimp only [am_own]; omega))⟩ (And.intro (fun _ => ?_) (fun h => absurd rfl h))
      exact k1 (fun z => qx z.1)
    rw [if_pos qx]
    refine And.intro ⟨(by first | omega | (dsimp only [am_own]; omega)), (by first | omega | (dsimp only [am_own]; omega))⟩ (And.intro (fun h => absurd h (by decide)) (fun _ => ?_))
    refine am_by (c_M_isMatter (d := 20) y hy (by omega)) (by omega) ?_
    rintro r M3 ⟨rfl, rfl⟩
    rw [e2]
    by_cases qy : 0 ≤ y ∧ y < mt
    rotate_left
    · rw [if_neg qy]
      refine And.intro ⟨(by first | omega | (dsimp only [am_own]; omega)), (by first | omega | (dsimp only [am_own]; omega))⟩ (And.intro (fun _ => ?_) (fun h => absurd rfl h))
      exact k1 (fun z => qy z.2)
    rw [if_pos qy]
    refine And.intro ⟨(by first | omega | (dsimp only [am_own]; omega)), (by first | omega | (dsimp only [am_own]; omega))⟩ (And.intro (fun h => absurd h (by decide)) (fun _ => ?_))
    refine am_by (c_M_in (d := 20) s 0 99 hs ⟨(by first | omega | (dsimp only [am_own]; omega)), (by first | omega | (dsimp only [am_own]; omega))⟩ ⟨(by first | omega | (dsimp only [am_own]; omega)), (by first | omega | (dsimp only [am_own]; omega))⟩) (by omega) ?_
    rintro r M4 ⟨rfl, rfl⟩
    by_cases qs : 0 ≤ s ∧ s ≤ 99
    rotate_left
    · rw [if_neg qs]
      refine And.intro ⟨(by first | omega | (dsimp only [am_own]; omega)), (by first | omega | (dsimp only [am_own]; omega))⟩ (And.intro (fun _ => ?_) (fun h => absurd rfl h))
      exact k2 ⟨qx, qy⟩ qs
    rw [if_pos qs]
    refine And.intro ⟨(by first | omega | (dsimp only [am_own]; omega)), (by first | omega | (dsimp only [am_own]; omega))⟩ (And.intro (fun h => absurd h (by decide)) (fun _ => ?_))
    obtain ⟨k4, k5, k6⟩ := k3 ⟨qx, qy⟩ qs
    refine And.intro ⟨(by first | omega | (dsimp only [am_own]; omega)), (by first | omega | (dsimp only [am_own]; omega))⟩ ?_
    refine And.intro ⟨k4, ⟨(by first | omega | (dsimp only [am_own]; omega)), (by first | omega | (dsimp only [am_own]; omega))⟩⟩ (And.intro (fun h2 => ?_) (fun h2 => k5 h2))
    refine And.intro ⟨(by first | omega | (dsimp only [am_own]; omega)), (by first | omega | (dsimp only [am_own]; omega))⟩ ?_
    refine And.intro ⟨(by first | omega | (dsimp only [am_own]; omega)), (by first | omega | (dsimp only [am_own]; omega))⟩ ?_
    exact k6 h2
  have ro : ∀ v : Int, (¬ ((0 ≤ x ∧ x < n) ∧ (0 ≤ y ∧ y < mt)) ∧ v = -2) ∨ (((0 ≤ x ∧ x < n) ∧ (0 ≤ y ∧ y < mt)) ∧ ¬ (0 ≤ s ∧ s ≤ 99) ∧ v = -3) ∨ (((0 ≤ x ∧ x < n) ∧ (0 ≤ y ∧ y < mt)) ∧ (0 ≤ s ∧ s ≤ 99) ∧ M.1 9 2 x.toNat ≠ 3 ∧ v = -4) → Ans Γ 24 n_M_tell [.inl x, .inl y, .inl s] (some (.inl v)) M := by
    intro v hv
    refine ⟨v, rfl, ref _ M n1 n3 (fun z => ?_) (fun z z2 => ?_) (fun z z2 => ?_)⟩
    · rcases hv with ⟨v1, rfl⟩ | ⟨v1, v2, rfl⟩ | ⟨v1, v2, v3, rfl⟩
      · exact ⟨rfl, h⟩
      all_goals exact absurd v1 z
    · rcases hv with ⟨v1, rfl⟩ | ⟨v1, v2, rfl⟩ | ⟨v1, v2, v3, rfl⟩
      · exact absurd z v1
      · exact ⟨rfl, h⟩
      · exact absurd v2 z2
    · rcases hv with ⟨v1, rfl⟩ | ⟨v1, v2, rfl⟩ | ⟨v1, v2, v3, rfl⟩
      · exact absurd z v1
      · exact absurd z2 v2
      · obtain ⟨⟨p1, -⟩, p2, -⟩ := hR.1.2.2.2.1 x.toNat (by omega)
        rw [show (4 * x).toNat = x.toNat * 4 by omega, ← p1]
        exact ⟨⟨by omega, by omega⟩, fun _ => ⟨rfl, h⟩, fun q => absurd q v3⟩
  refine am_ev_of (by decide) (am_le rfl) (am_go 60 [] (by decide) ?_)
  refine am_by (c_isPerson (d := 10) x hx ⟨by omega, by omega⟩) (by omega) ?_
  rintro r M0 ⟨rfl, rfl⟩
  rw [b1.1]
  by_cases qx : 0 ≤ x ∧ x < n
  rotate_left
  · rw [if_neg qx]
    refine And.intro ⟨(by first | omega | (dsimp only [am_own]; omega)), (by first | omega | (dsimp only [am_own]; omega))⟩ (And.intro (fun _ => ?_) (fun h => absurd rfl h))
    exact ro _ (Or.inl ⟨fun z => qx z.1, rfl⟩)
  rw [if_pos qx]
  refine And.intro ⟨(by first | omega | (dsimp only [am_own]; omega)), (by first | omega | (dsimp only [am_own]; omega))⟩ (And.intro (fun h => absurd h (by decide)) (fun _ => ?_))
  refine am_by (c_isMatter (d := 10) y hy ⟨by omega, by omega⟩) (by omega) ?_
  rintro r M1 ⟨rfl, rfl⟩
  rw [b2.1]
  by_cases qy : 0 ≤ y ∧ y < mt
  rotate_left
  · rw [if_neg qy]
    refine And.intro ⟨(by first | omega | (dsimp only [am_own]; omega)), (by first | omega | (dsimp only [am_own]; omega))⟩ (And.intro (fun _ => ?_) (fun h => absurd rfl h))
    exact ro _ (Or.inl ⟨fun z => qy z.2, rfl⟩)
  rw [if_pos qy]
  refine And.intro ⟨(by first | omega | (dsimp only [am_own]; omega)), (by first | omega | (dsimp only [am_own]; omega))⟩ (And.intro (fun h => absurd h (by decide)) (fun _ => ?_))
  refine And.intro hs (And.intro (fun h => ro _ (Or.inr (Or.inl ⟨⟨qx, qy⟩, by omega, rfl⟩))) (fun h => ?_))
  refine And.intro ⟨hs, ⟨(by first | omega | (dsimp only [am_own]; omega)), (by first | omega | (dsimp only [am_own]; omega))⟩⟩ (And.intro (fun h2 => ro _ (Or.inr (Or.inl ⟨⟨qx, qy⟩, by omega, rfl⟩))) (fun h2 => ?_))
  obtain ⟨i, rfl⟩ : ∃ i : Nat, x = i := ⟨x.toNat, by omega⟩
  obtain ⟨m, rfl⟩ : ∃ m : Nat, y = m := ⟨y.toNat, by omega⟩
  obtain ⟨⟨p1, -⟩, p2, -⟩ := hR.1.2.2.2.1 i (by omega)
  refine And.intro ⟨(by first | omega | (dsimp only [am_own]; omega)), (by first | omega | (dsimp only [am_own]; omega))⟩ ?_
  refine And.intro ⟨(show am_R (M1.1 9 2 i) from ⟨by omega, by omega⟩), ⟨(by first | omega | (dsimp only [am_own]; omega)), (by first | omega | (dsimp only [am_own]; omega))⟩⟩ (And.intro (fun h3 => ?_) (fun h3 => ro _ (Or.inr (Or.inr ⟨⟨qx, qy⟩, by omega, h3, rfl⟩))))
  have h3 : M1.1 9 2 i = 3 := h3
  refine am_by (c_place (d := 10) (i : Int) (m : Int)) (by omega) ?_
  rintro r M2 ⟨rfl, rfl⟩
  refine And.intro ⟨(by first | omega | (dsimp only [am_own]; omega)), (by first | omega | (dsimp only [am_own]; omega))⟩ ?_
  refine And.intro ⟨(by first | omega | (dsimp only [am_own]; omega)), (by first | omega | (dsimp only [am_own]; omega))⟩ ?_
  refine ⟨_, rfl, ?_⟩
  obtain ⟨a1, a2, a3, a4, a5, a6, a7, a8⟩ := hR.2.1
  have ek : ((i : Int) * 5 + (m : Int)).toNat = i * 5 + m := by omega
  show am_Ev Γ 24 n_M_tell _ (am_set M2 0 8 ((i : Int) * 5 + (m : Int)).toNat s) (fun r' M3 => r' = some (.inl (M2.1 0 8 ((i : Int) * 5 + (m : Int)).toNat)) ∧ Rel M3)
  rw [ek]
  refine ref _ _ (by rw [set_p (by decide)]; exact n1) (by rw [set_p (by decide)]; exact n3) (fun z => absurd ⟨qx, qy⟩ z) (fun _ z => absurd (by omega) z) (fun _ _ => ⟨?_, fun z => ?_, fun z => ?_⟩)
  · rw [set_p (by decide), show (4 * (i : Int)).toNat = i * 4 by omega, ← p1]
    exact ⟨by omega, by omega⟩
  · rw [set_p (by decide), show (4 * (i : Int)).toNat = i * 4 by omega, ← p1] at z
    exact absurd h3 z
  · rw [set_p (by decide), show (12 + 5 * (i : Int) + (m : Int)).toNat = 12 + (i * 5 + m) by omega]
    refine ⟨congrArg (fun z => some (Sum.inl z)) (a7 (i * 5 + m) (by omega)).1.symm, n, mt, hR.evs (fun e p k hr hn => ?_) ?_⟩
    · rw [set_at (by omega), set_at (by omega)]
    · have w8 : ∀ p k, (p ≠ 8 → p ≠ 47 → (am_set (am_set M2 0 8 (i * 5 + m) s) 0 47 (12 + (i * 5 + m)) s).1 0 p k = M2.1 0 p k) := fun p k h1 h2 => by rw [set_p h2, set_p h1]
      have w9 : ∀ p k, (am_set (am_set M2 0 8 (i * 5 + m) s) 0 47 (12 + (i * 5 + m)) s).1 9 p k = M2.1 9 p k := fun p k => by rw [set_at (by omega), set_at (by omega)]
      have w47 : ∀ k, k ≠ 12 + (i * 5 + m) → (am_set (am_set M2 0 8 (i * 5 + m) s) 0 47 (12 + (i * 5 + m)) s).1 0 47 k = M2.1 0 47 k := fun k hk => by rw [set_k hk, set_p (by decide)]
      refine ⟨by rw [w8 0 6 (by omega) (by omega), w8 1 4 (by omega) (by omega)]; exact a1, fun j hj => ?_, by rw [w8 0 7 (by omega) (by omega), w47 0 (by omega)]; exact a3, fun k hk => by rw [w8 6 k (by omega) (by omega), w47 _ (by omega)]; exact a4 k hk, fun m2 hm2 => ?_, fun j hj => by rw [w8 7 j (by omega) (by omega), w47 _ (by omega), w9]; exact a6 j hj, fun k hk => ?_, fun k m2 hk hm2 => ?_⟩
      · rw [w8 2 j (by omega) (by omega), w8 3 j (by omega) (by omega), w8 4 j (by omega) (by omega), w8 5 j (by omega) (by omega), w9, w9, w9, w9]; exact a2 j hj
      · obtain ⟨k, hk, he⟩ := a5 m2 hm2
        exact ⟨k, hk, by rw [w8 6 k (by omega) (by omega)]; exact he⟩
      · by_cases q : k = i * 5 + m
        · subst q
          rw [set_eq, set_p (by decide), set_eq]
          omega
        · rw [w47 _ (by omega), set_p (by decide), set_k q]; exact a7 k hk
      · rw [w8 0 7 (by omega) (by omega)] at hk
        rw [w8 6 k (by omega) (by omega)] at hm2
        obtain ⟨t1, t2⟩ := a8 k m2 hk hm2
        refine ⟨fun w hw => ?_, fun j hj => ?_⟩
        · rw [w8 10 _ (by omega) (by omega), w47 _ (by omega)]; exact t1 w hw
        · rw [w8 9 _ (by omega) (by omega), w47 _ (by omega)]; exact t2 j hj
