/-! pairs: row, tell, keep, back -/
theorem set_at {M : Am_M} {e p k e' p' k' : Nat} {v : Int} (h : ¬ (e' = e ∧ p' = p ∧ k' = k)) : (am_set M e p k v).1 e' p' k' = M.1 e' p' k' := by
  show (if k' = k ∧ p' = p ∧ e' = e then v else M.1 e' p' k') = _
  rw [if_neg (fun z => h ⟨z.2.2, z.2.1, z.1⟩)]
theorem c_addRow {Γ : Am_G} {d : Nat} {M : Am_M} {x f a c : Int} {R : Nat} (hR : M.1 0 18 9 = R) (hR8 : R ≤ 8) : am_Ev Γ (d + 1) n_Hall_addRow [.inr (.inr (0, 18)), .inl x, .inl f, .inl a, .inl c] M (fun r M' => (R = 8 ∧ r = some (.inl (-5)) ∧ M' = M) ∨ (R < 8 ∧ r = some (.inl ((R : Int) + 1)) ∧ M' = am_set (am_set (am_set (am_set (am_set M 0 21 R x) 0 22 R f) 0 23 R a) 0 24 R c) 0 18 9 ((R : Int) + 1))) := by
  have step : ∀ {K : Option Am_V → Am_M → Prop} (M1 : Am_M), M1.1 0 18 9 = R → R < 8 → (∀ M2, M2 = am_set (am_set (am_set (am_set (am_set M1 0 21 R x) 0 22 R f) 0 23 R a) 0 24 R c) 0 18 9 ((R : Int) + 1) → K (some (.inl ((R : Int) + 1))) M2) → am_At Γ (d + 1) n_Hall_addRow 12 [some (.inr (.inr (0, 18))), some (.inl x), some (.inl f), some (.inl a), some (.inl c)] [] M1 K := by
    intro K M0 h0 h8 hK
    have s4 : ∀ M1 : Am_M, M1.1 0 18 9 = R → (∀ M2, M2 = am_set M1 0 18 9 ((R : Int) + 1) → K (some (.inl ((R : Int) + 1))) M2) → am_At Γ (d + 1) n_Hall_addRow 53 [some (.inr (.inr (0, 18))), some (.inl x), some (.inl f), some (.inl a), some (.inl c)] [] M1 K := by
      intro M1 h1 hK
      refine am_go 80 [] (by decide) ?_
      have e : (am_set M1 0 18 9 (M1.1 0 18 9 + 1)).1 0 18 9 = (R : Int) + 1 := by rw [h1]; exact set_eq
      have k := hK (am_set M1 0 18 9 (M1.1 0 18 9 + 1)) (by rw [h1])
      rw [← e] at k
      exact k
    have s3 : ∀ M1 : Am_M, M1.1 0 18 9 = R → (∀ M2, M2 = am_set (am_set M1 0 24 R c) 0 18 9 ((R : Int) + 1) → K (some (.inl ((R : Int) + 1))) M2) → am_At Γ (d + 1) n_Hall_addRow 42 [some (.inr (.inr (0, 18))), some (.inl x), some (.inl f), some (.inl a), some (.inl c)] [] M1 K := by
      intro M1 h1 hK
      refine am_go 80 [53] (by decide) ?_
      refine And.intro (show 0 ≤ M1.1 0 18 9 ∧ M1.1 0 18 9 < 8 from ⟨(by first | omega | (dsimp only [am_own]; omega)), (by first | omega | (dsimp only [am_own]; omega))⟩) ?_
      exact s4 (am_set M1 0 24 (M1.1 0 18 9).toNat c) (by rw [set_p (by decide)]; exact h1) (by rw [show (M1.1 0 18 9).toNat = R by omega]; exact hK)
    have s2 : ∀ M1 : Am_M, M1.1 0 18 9 = R → (∀ M2, M2 = am_set (am_set (am_set M1 0 23 R a) 0 24 R c) 0 18 9 ((R : Int) + 1) → K (some (.inl ((R : Int) + 1))) M2) → am_At Γ (d + 1) n_Hall_addRow 32 [some (.inr (.inr (0, 18))), some (.inl x), some (.inl f), some (.inl a), some (.inl c)] [] M1 K := by
      intro M1 h1 hK
      refine am_go 80 [42] (by decide) ?_
      refine And.intro (show 0 ≤ M1.1 0 18 9 ∧ M1.1 0 18 9 < 8 from ⟨(by first | omega | (dsimp only [am_own]; omega)), (by first | omega | (dsimp only [am_own]; omega))⟩) ?_
      exact s3 (am_set M1 0 23 (M1.1 0 18 9).toNat a) (by rw [set_p (by decide)]; exact h1) (by rw [show (M1.1 0 18 9).toNat = R by omega]; exact hK)
    have s1 : ∀ M1 : Am_M, M1.1 0 18 9 = R → (∀ M2, M2 = am_set (am_set (am_set (am_set M1 0 22 R f) 0 23 R a) 0 24 R c) 0 18 9 ((R : Int) + 1) → K (some (.inl ((R : Int) + 1))) M2) → am_At Γ (d + 1) n_Hall_addRow 22 [some (.inr (.inr (0, 18))), some (.inl x), some (.inl f), some (.inl a), some (.inl c)] [] M1 K := by
      intro M1 h1 hK
      refine am_go 80 [32] (by decide) ?_
      refine And.intro (show 0 ≤ M1.1 0 18 9 ∧ M1.1 0 18 9 < 8 from ⟨(by first | omega | (dsimp only [am_own]; omega)), (by first | omega | (dsimp only [am_own]; omega))⟩) ?_
      exact s2 (am_set M1 0 22 (M1.1 0 18 9).toNat f) (by rw [set_p (by decide)]; exact h1) (by rw [show (M1.1 0 18 9).toNat = R by omega]; exact hK)
    refine am_go 80 [22] (by decide) ?_
    refine And.intro (show 0 ≤ M0.1 0 18 9 ∧ M0.1 0 18 9 < 8 from ⟨(by first | omega | (dsimp only [am_own]; omega)), (by first | omega | (dsimp only [am_own]; omega))⟩) ?_
    exact s1 (am_set M0 0 21 (M0.1 0 18 9).toNat x) (by rw [set_p (by decide)]; exact h0) (by rw [show (M0.1 0 18 9).toNat = R by omega]; exact hK)
  refine am_ev_of (by decide) (am_le rfl) (am_go 80 [12] (by decide) ?_)
  refine And.intro ⟨(show am_R (M.1 0 18 9) from ⟨(by first | omega | (dsimp only [am_own]; omega)), (by first | omega | (dsimp only [am_own]; omega))⟩), ⟨(by first | omega | (dsimp only [am_own]; omega)), (by first | omega | (dsimp only [am_own]; omega))⟩⟩ (And.intro (fun h => ?_) (fun h => ?_))
  · have h : M.1 0 18 9 < 8 := h
    exact step M hR (by omega) (fun M2 e => Or.inr ⟨by omega, rfl, e⟩)
  · have h : ¬ M.1 0 18 9 < 8 := h
    left
    exact ⟨by omega, rfl, rfl⟩
theorem c_M_row {Γ : Am_G} {d : Nat} {M : Am_M} {x f a c : Int} {n mt R : Nat} (hx : am_R x) (hf : am_R f) (ha : am_R a) (hc : am_R c) (hM : wfM M n mt) (hR : M.1 0 41 22 = R) (hR8 : R ≤ 8) : am_Ev Γ (d + 3) n_M_row [.inr (.inr (0, 41)), .inl x, .inl f, .inl a, .inl c] M (fun r M' => (¬ (0 ≤ x ∧ x < mt) ∧ r = some (.inl (-2)) ∧ M' = M) ∨ ((0 ≤ x ∧ x < mt) ∧ ¬ ((0 ≤ f ∧ f ≤ 999) ∧ (0 ≤ a ∧ a ≤ 999) ∧ (0 ≤ c ∧ c ≤ 1)) ∧ r = some (.inl (-3)) ∧ M' = M) ∨ ((0 ≤ x ∧ x < mt) ∧ ((0 ≤ f ∧ f ≤ 999) ∧ (0 ≤ a ∧ a ≤ 999) ∧ (0 ≤ c ∧ c ≤ 1)) ∧ R = 8 ∧ r = some (.inl (-5)) ∧ M' = M) ∨ ((0 ≤ x ∧ x < mt) ∧ ((0 ≤ f ∧ f ≤ 999) ∧ (0 ≤ a ∧ a ≤ 999) ∧ (0 ≤ c ∧ c ≤ 1)) ∧ R < 8 ∧ r = some (.inl ((R : Int) + 1)) ∧ M' = am_set (am_set (am_set (am_set (am_set M 0 51 (R * 4) x) 0 51 (R * 4 + 1) f) 0 51 (R * 4 + 2) a) 0 51 (R * 4 + 3) c) 0 41 22 ((R : Int) + 1))) := by
  obtain ⟨n1, n2, n3, n4⟩ := hM.1
  refine am_ev_of (by decide) (am_le rfl) (am_go 90 [46] (by decide) ?_)
  refine am_by (c_M_isMatter (d := d) x hx (by omega)) (by omega) ?_
  rintro r M1 ⟨rfl, rfl⟩
  rw [n3]
  by_cases qx : 0 ≤ x ∧ x < mt
  rotate_left
  · rw [if_neg qx]
    refine And.intro ⟨(by first | omega | (dsimp only [am_own]; omega)), (by first | omega | (dsimp only [am_own]; omega))⟩ (And.intro (fun _ => ?_) (fun h => absurd rfl h))
    exact Or.inl ⟨qx, rfl, rfl⟩
  rw [if_pos qx]
  refine And.intro ⟨(by first | omega | (dsimp only [am_own]; omega)), (by first | omega | (dsimp only [am_own]; omega))⟩ (And.intro (fun h => absurd h (by decide)) (fun _ => ?_))
  refine am_by (c_M_in (d := d) f 0 999 hf ⟨(by first | omega | (dsimp only [am_own]; omega)), (by first | omega | (dsimp only [am_own]; omega))⟩ ⟨(by first | omega | (dsimp only [am_own]; omega)), (by first | omega | (dsimp only [am_own]; omega))⟩) (by omega) ?_
  rintro r M2 ⟨rfl, rfl⟩
  by_cases qf : 0 ≤ f ∧ f ≤ 999
  rotate_left
  · rw [if_neg qf]
    refine And.intro ⟨(by first | omega | (dsimp only [am_own]; omega)), (by first | omega | (dsimp only [am_own]; omega))⟩ (And.intro (fun _ => ?_) (fun h => absurd rfl h))
    exact Or.inr (Or.inl ⟨qx, fun z => qf z.1, rfl, rfl⟩)
  rw [if_pos qf]
  refine And.intro ⟨(by first | omega | (dsimp only [am_own]; omega)), (by first | omega | (dsimp only [am_own]; omega))⟩ (And.intro (fun h => absurd h (by decide)) (fun _ => ?_))
  refine am_by (c_M_in (d := d) a 0 999 ha ⟨(by first | omega | (dsimp only [am_own]; omega)), (by first | omega | (dsimp only [am_own]; omega))⟩ ⟨(by first | omega | (dsimp only [am_own]; omega)), (by first | omega | (dsimp only [am_own]; omega))⟩) (by omega) ?_
  rintro r M3 ⟨rfl, rfl⟩
  by_cases qa : 0 ≤ a ∧ a ≤ 999
  rotate_left
  · rw [if_neg qa]
    refine And.intro ⟨(by first | omega | (dsimp only [am_own]; omega)), (by first | omega | (dsimp only [am_own]; omega))⟩ (And.intro (fun _ => ?_) (fun h => absurd rfl h))
    exact Or.inr (Or.inl ⟨qx, fun z => qa z.2.1, rfl, rfl⟩)
  rw [if_pos qa]
  refine And.intro ⟨(by first | omega | (dsimp only [am_own]; omega)), (by first | omega | (dsimp only [am_own]; omega))⟩ (And.intro (fun h => absurd h (by decide)) (fun _ => ?_))
  refine am_by (c_M_in (d := d) c 0 1 hc ⟨(by first | omega | (dsimp only [am_own]; omega)), (by first | omega | (dsimp only [am_own]; omega))⟩ ⟨(by first | omega | (dsimp only [am_own]; omega)), (by first | omega | (dsimp only [am_own]; omega))⟩) (by omega) ?_
  rintro r M4 ⟨rfl, rfl⟩
  by_cases qc : 0 ≤ c ∧ c ≤ 1
  rotate_left
  · rw [if_neg qc]
    refine And.intro ⟨(by first | omega | (dsimp only [am_own]; omega)), (by first | omega | (dsimp only [am_own]; omega))⟩ (And.intro (fun _ => ?_) (fun h => absurd rfl h))
    exact Or.inr (Or.inl ⟨qx, fun z => qc z.2.2, rfl, rfl⟩)
  rw [if_pos qc]
  refine And.intro ⟨(by first | omega | (dsimp only [am_own]; omega)), (by first | omega | (dsimp only [am_own]; omega))⟩ (And.intro (fun h => absurd h (by decide)) (fun _ => ?_))
  have s4 : ∀ {K : Option Am_V → Am_M → Prop} (M1 : Am_M), M1.1 0 41 22 = R → R < 8 → (∀ M2, M2 = am_set M1 0 41 22 ((R : Int) + 1) → K (some (.inl ((R : Int) + 1))) M2) → am_At Γ (d + 3) n_M_row 113 [some (.inr (.inr (0, 41))), some (.inl x), some (.inl f), some (.inl a), some (.inl c)] [] M1 K := by
    intro K M1 h1 h8 hK
    refine am_go 80 [] (by decide) ?_
    have e : (am_set M1 0 41 22 (M1.1 0 41 22 + 1)).1 0 41 22 = (R : Int) + 1 := by rw [h1]; exact set_eq
    have k := hK (am_set M1 0 41 22 (M1.1 0 41 22 + 1)) (by rw [h1])
    rw [← e] at k
    exact k
  have s3 : ∀ {K : Option Am_V → Am_M → Prop} (M1 : Am_M), M1.1 0 41 22 = R → R < 8 → (∀ M2, M2 = am_set (am_set M1 0 51 (R * 4 + 3) c) 0 41 22 ((R : Int) + 1) → K (some (.inl ((R : Int) + 1))) M2) → am_At Γ (d + 3) n_M_row 98 [some (.inr (.inr (0, 41))), some (.inl x), some (.inl f), some (.inl a), some (.inl c)] [] M1 K := by
    intro K M1 h1 h8 hK
    refine am_go 80 [113] (by decide) ?_
    refine And.intro (show 0 ≤ 4 * M1.1 0 41 22 + 3 ∧ 4 * M1.1 0 41 22 + 3 < 32 from ⟨(by first | omega | (dsimp only [am_own]; omega)), (by first | omega | (dsimp only [am_own]; omega))⟩) ?_
    exact s4 (am_set M1 0 51 (4 * M1.1 0 41 22 + 3).toNat c) (by rw [set_p (by decide)]; exact h1) h8 (by rw [show (4 * M1.1 0 41 22 + 3).toNat = R * 4 + 3 by omega]; exact hK)
  have s2 : ∀ {K : Option Am_V → Am_M → Prop} (M1 : Am_M), M1.1 0 41 22 = R → R < 8 → (∀ M2, M2 = am_set (am_set (am_set M1 0 51 (R * 4 + 2) a) 0 51 (R * 4 + 3) c) 0 41 22 ((R : Int) + 1) → K (some (.inl ((R : Int) + 1))) M2) → am_At Γ (d + 3) n_M_row 84 [some (.inr (.inr (0, 41))), some (.inl x), some (.inl f), some (.inl a), some (.inl c)] [] M1 K := by
    intro K M1 h1 h8 hK
    refine am_go 80 [98] (by decide) ?_
    refine And.intro (show 0 ≤ 4 * M1.1 0 41 22 + 2 ∧ 4 * M1.1 0 41 22 + 2 < 32 from ⟨(by first | omega | (dsimp only [am_own]; omega)), (by first | omega | (dsimp only [am_own]; omega))⟩) ?_
    exact s3 (am_set M1 0 51 (4 * M1.1 0 41 22 + 2).toNat a) (by rw [set_p (by decide)]; exact h1) h8 (by rw [show (4 * M1.1 0 41 22 + 2).toNat = R * 4 + 2 by omega]; exact hK)
  have s1 : ∀ {K : Option Am_V → Am_M → Prop} (M1 : Am_M), M1.1 0 41 22 = R → R < 8 → (∀ M2, M2 = am_set (am_set (am_set (am_set M1 0 51 (R * 4 + 1) f) 0 51 (R * 4 + 2) a) 0 51 (R * 4 + 3) c) 0 41 22 ((R : Int) + 1) → K (some (.inl ((R : Int) + 1))) M2) → am_At Γ (d + 3) n_M_row 70 [some (.inr (.inr (0, 41))), some (.inl x), some (.inl f), some (.inl a), some (.inl c)] [] M1 K := by
    intro K M1 h1 h8 hK
    refine am_go 80 [84] (by decide) ?_
    refine And.intro (show 0 ≤ 4 * M1.1 0 41 22 + 1 ∧ 4 * M1.1 0 41 22 + 1 < 32 from ⟨(by first | omega | (dsimp only [am_own]; omega)), (by first | omega | (dsimp only [am_own]; omega))⟩) ?_
    exact s2 (am_set M1 0 51 (4 * M1.1 0 41 22 + 1).toNat f) (by rw [set_p (by decide)]; exact h1) h8 (by rw [show (4 * M1.1 0 41 22 + 1).toNat = R * 4 + 1 by omega]; exact hK)
  have s0 : ∀ {K : Option Am_V → Am_M → Prop} (M1 : Am_M), M1.1 0 41 22 = R → R < 8 → (∀ M2, M2 = am_set (am_set (am_set (am_set (am_set M1 0 51 (R * 4) x) 0 51 (R * 4 + 1) f) 0 51 (R * 4 + 2) a) 0 51 (R * 4 + 3) c) 0 41 22 ((R : Int) + 1) → K (some (.inl ((R : Int) + 1))) M2) → am_At Γ (d + 3) n_M_row 58 [some (.inr (.inr (0, 41))), some (.inl x), some (.inl f), some (.inl a), some (.inl c)] [] M1 K := by
    intro K M1 h1 h8 hK
    refine am_go 80 [70] (by decide) ?_
    refine And.intro (show 0 ≤ 4 * M1.1 0 41 22 ∧ 4 * M1.1 0 41 22 < 32 from ⟨(by first | omega | (dsimp only [am_own]; omega)), (by first | omega | (dsimp only [am_own]; omega))⟩) ?_
    exact s1 (am_set M1 0 51 (4 * M1.1 0 41 22).toNat x) (by rw [set_p (by decide)]; exact h1) h8 (by rw [show (4 * M1.1 0 41 22).toNat = R * 4 by omega]; exact hK)
  refine am_go 90 [58] (by decide) ?_
  refine And.intro ⟨(show am_R (M4.1 0 41 22) from ⟨(by first | omega | (dsimp only [am_own]; omega)), (by first | omega | (dsimp only [am_own]; omega))⟩), ⟨(by first | omega | (dsimp only [am_own]; omega)), (by first | omega | (dsimp only [am_own]; omega))⟩⟩ (And.intro (fun h => ?_) (fun h => ?_))
  · have h : M4.1 0 41 22 = 8 := h
    exact Or.inr (Or.inr (Or.inl ⟨qx, ⟨qf, qa, qc⟩, by omega, rfl, rfl⟩))
  · have h : ¬ M4.1 0 41 22 = 8 := h
    exact s0 M4 hR (by omega) (fun M2 e => Or.inr (Or.inr (Or.inr ⟨qx, ⟨qf, qa, qc⟩, by omega, rfl, e⟩)))
theorem P_row {Γ : Am_G} {M : Am_M} {x f a c : Int} (h : Rel M) (hx : am_R x) (hf : am_R f) (ha : am_R a) (hc : am_R c) : Pair Γ 24 n_R_row n_M_row [.inl x, .inl f, .inl a, .inl c] M := by
  obtain ⟨n, mt, hR⟩ := id h
  have b2 := hR.1.2.1
  obtain ⟨w1, w2⟩ := hR.2.2.2.1
  obtain ⟨R, hr⟩ : ∃ R : Nat, M.1 0 18 9 = R := ⟨(M.1 0 18 9).toNat, by omega⟩
  have hr2 : M.1 0 41 22 = R := by omega
  have ro : ∀ v : Int, (¬ (0 ≤ x ∧ x < mt) ∧ v = -2) ∨ ((0 ≤ x ∧ x < mt) ∧ ¬ ((0 ≤ f ∧ f ≤ 999) ∧ (0 ≤ a ∧ a ≤ 999) ∧ (0 ≤ c ∧ c ≤ 1)) ∧ v = -3) ∨ ((0 ≤ x ∧ x < mt) ∧ ((0 ≤ f ∧ f ≤ 999) ∧ (0 ≤ a ∧ a ≤ 999) ∧ (0 ≤ c ∧ c ≤ 1)) ∧ R = 8 ∧ v = -5) → Ans Γ 24 n_M_row [.inl x, .inl f, .inl a, .inl c] (some (.inl v)) M := by
    intro v hv
    refine ⟨v, rfl, am_mono (c_M_row (d := 21) hx hf ha hc hR.wM hr2 (by omega)) (fun r M' hz => ?_)⟩
    rcases hv with ⟨v1, rfl⟩ | ⟨v1, v2, rfl⟩ | ⟨v1, v2, v3, rfl⟩
    · rcases hz with ⟨z1, rfl, rfl⟩ | ⟨z1, z2, rfl, rfl⟩ | ⟨z1, z2, z3, rfl, rfl⟩ | ⟨z1, z2, z3, rfl, rfl⟩
      · exact ⟨rfl, h⟩
      all_goals exact absurd z1 v1
    · rcases hz with ⟨z1, rfl, rfl⟩ | ⟨z1, z2, rfl, rfl⟩ | ⟨z1, z2, z3, rfl, rfl⟩ | ⟨z1, z2, z3, rfl, rfl⟩
      · exact absurd v1 z1
      · exact ⟨rfl, h⟩
      all_goals exact absurd z2 v2
    · rcases hz with ⟨z1, rfl, rfl⟩ | ⟨z1, z2, rfl, rfl⟩ | ⟨z1, z2, z3, rfl, rfl⟩ | ⟨z1, z2, z3, rfl, rfl⟩
      · exact absurd v1 z1
      · exact absurd v2 z2
      · exact ⟨rfl, h⟩
      · omega
  refine am_ev_of (by decide) (am_le rfl) (am_go 90 [47] (by decide) ?_)
  refine am_by (c_isMatter (d := 10) x hx ⟨by omega, by omega⟩) (by omega) ?_
  rintro r M1 ⟨rfl, rfl⟩
  rw [b2.1]
  by_cases qx : 0 ≤ x ∧ x < mt
  rotate_left
  · rw [if_neg qx]
    refine And.intro ⟨(by first | omega | (dsimp only [am_own]; omega)), (by first | omega | (dsimp only [am_own]; omega))⟩ (And.intro (fun _ => ?_) (fun h => absurd rfl h))
    exact ro _ (Or.inl ⟨qx, rfl⟩)
  rw [if_pos qx]
  refine And.intro ⟨(by first | omega | (dsimp only [am_own]; omega)), (by first | omega | (dsimp only [am_own]; omega))⟩ (And.intro (fun h => absurd h (by decide)) (fun _ => ?_))
  have out : ¬ ((0 ≤ f ∧ f ≤ 999) ∧ (0 ≤ a ∧ a ≤ 999) ∧ (0 ≤ c ∧ c ≤ 1)) → Ans Γ 24 n_M_row [.inl x, .inl f, .inl a, .inl c] (some (.inl (-3))) M1 := fun z => ro _ (Or.inr (Or.inl ⟨qx, z, rfl⟩))
  refine And.intro hf (And.intro (fun h => out (by omega)) (fun h => ?_))
  refine And.intro ⟨hf, ⟨(by first | omega | (dsimp only [am_own]; omega)), (by first | omega | (dsimp only [am_own]; omega))⟩⟩ (And.intro (fun h => out (by omega)) (fun h => ?_))
  refine And.intro ha (And.intro (fun h => out (by omega)) (fun h => ?_))
  refine And.intro ⟨ha, ⟨(by first | omega | (dsimp only [am_own]; omega)), (by first | omega | (dsimp only [am_own]; omega))⟩⟩ (And.intro (fun h => out (by omega)) (fun h => ?_))
  refine And.intro hc (And.intro (fun h => out (by omega)) (fun h => ?_))
  refine And.intro ⟨hc, ⟨(by first | omega | (dsimp only [am_own]; omega)), (by first | omega | (dsimp only [am_own]; omega))⟩⟩ (And.intro (fun h => out (by omega)) (fun h => ?_))
  have qq : (0 ≤ f ∧ f ≤ 999) ∧ (0 ≤ a ∧ a ≤ 999) ∧ (0 ≤ c ∧ c ≤ 1) := by omega
  refine am_go 60 [] (by decide) ?_
  refine am_by (c_addRow (d := 10) hr (by omega)) (by omega) ?_
  rintro r M2 (⟨z1, rfl, rfl⟩ | ⟨z1, rfl, rfl⟩)
  · exact ro _ (Or.inr (Or.inr ⟨qx, qq, z1, rfl⟩))
  refine ⟨_, rfl, ?_⟩
  generalize hM2 : am_set (am_set (am_set (am_set (am_set M1 0 21 R x) 0 22 R f) 0 23 R a) 0 24 R c) 0 18 9 ((R : Int) + 1) = M2
  have g : ∀ e p k, ¬ (e = 0 ∧ ((p = 18 ∧ k = 9) ∨ (21 ≤ p ∧ p ≤ 24))) → M2.1 e p k = M1.1 e p k := fun e p k hn => by
    rw [← hM2, set_at (by omega), set_at (by omega), set_at (by omega), set_at (by omega), set_at (by omega)]
  have hw2 : wfM M2 n mt := hR.wM.rs ⟨fun k _ _ _ => g 0 41 k (by omega), fun p k a b => g 0 p k (by omega), fun k _ => g 0 47 k (by omega)⟩
  refine am_mono (c_M_row (d := 21) hx hf ha hc hw2 ((g 0 41 22 (by omega)).trans hr2) (by omega)) (fun r M' hz => ?_)
  rcases hz with ⟨y1, rfl, rfl⟩ | ⟨y1, y2, rfl, rfl⟩ | ⟨y1, y2, y3, rfl, rfl⟩ | ⟨y1, y2, y3, rfl, rfl⟩
  · exact absurd qx y1
  · exact absurd qq y2
  · omega
  refine ⟨rfl, n, mt, hR.rws (fun e p k hrv hn => ?_) ?_⟩
  · rw [set_at (by omega), set_at (by omega), set_at (by omega), set_at (by omega), set_at (by omega)]
    exact g e p k (by omega)
  · generalize hM3 : am_set (am_set (am_set (am_set (am_set M2 0 51 (R * 4) x) 0 51 (R * 4 + 1) f) 0 51 (R * 4 + 2) a) 0 51 (R * 4 + 3) c) 0 41 22 ((R : Int) + 1) = M3
    have g3 : ∀ p k, 18 ≤ p → p ≤ 24 → M3.1 0 p k = M2.1 0 p k := fun p k a b => by
      rw [← hM3, set_at (by omega), set_at (by omega), set_at (by omega), set_at (by omega), set_at (by omega)]
    have e9 : M3.1 0 18 9 = (R : Int) + 1 := by rw [g3 18 9 (by omega) (by omega), ← hM2]; exact set_eq
    have e22 : M3.1 0 41 22 = (R : Int) + 1 := by rw [← hM3]; exact set_eq
    refine ⟨by omega, fun k hk => ?_⟩
    rw [g3 21 _ (by omega) (by omega), g3 22 _ (by omega) (by omega), g3 23 _ (by omega) (by omega), g3 24 _ (by omega) (by omega)]
    by_cases qk : k = R
    · subst qk
      have t1 : M2.1 0 21 k = x := by rw [← hM2, set_p (by decide), set_p (by decide), set_p (by decide), set_p (by decide)]; exact set_eq
      have t2 : M2.1 0 22 k = f := by rw [← hM2, set_p (by decide), set_p (by decide), set_p (by decide)]; exact set_eq
      have t3 : M2.1 0 23 k = a := by rw [← hM2, set_p (by decide), set_p (by decide)]; exact set_eq
      have t4 : M2.1 0 24 k = c := by rw [← hM2, set_p (by decide)]; exact set_eq
      have s1 : M3.1 0 51 (k * 4) = x := by rw [← hM3, set_p (by decide), set_k (by omega), set_k (by omega), set_k (by omega)]; exact set_eq
      have s2 : M3.1 0 51 (k * 4 + 1) = f := by rw [← hM3, set_p (by decide), set_k (by omega), set_k (by omega)]; exact set_eq
      have s3 : M3.1 0 51 (k * 4 + 2) = a := by rw [← hM3, set_p (by decide), set_k (by omega)]; exact set_eq
      have s4 : M3.1 0 51 (k * 4 + 3) = c := by rw [← hM3, set_p (by decide)]; exact set_eq
      omega
    · have hk : (k : Int) < M3.1 0 18 9 := hk
      have t : ∀ p, 21 ≤ p → p ≤ 24 → M2.1 0 p k = M1.1 0 p k := fun p a b => by
        rw [← hM2, set_at (by omega), set_at (by omega), set_at (by omega), set_at (by omega), set_at (by omega)]
      have s : ∀ w, w < 4 → M3.1 0 51 (k * 4 + w) = M1.1 0 51 (k * 4 + w) := fun w hw => by
        rw [← hM3, set_at (by omega), set_at (by omega), set_at (by omega), set_at (by omega), set_at (by omega)]
        exact g 0 51 _ (by omega)
      rw [t 21 (by omega) (by omega), t 22 (by omega) (by omega), t 23 (by omega) (by omega), t 24 (by omega) (by omega), s 1 (by omega), s 2 (by omega), s 3 (by omega), show M3.1 0 51 (k * 4) = M1.1 0 51 (k * 4) from s 0 (by omega)]
      exact w2 k (by omega)
