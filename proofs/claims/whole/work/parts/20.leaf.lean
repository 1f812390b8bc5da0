/-! leaf methods of the class -/
theorem am_le {a b : Nat} (h : Nat.ble a b = true) : a ≤ b := Nat.le_of_ble_eq_true h
theorem c_place {Γ : Am_G} {d : Nat} {M : Am_M} (x y : Int) : am_Ev Γ (d + 1) n_R_place [.inl x, .inl y] M (fun r M' => r = some (.inl (x * 5 + y)) ∧ M' = M) := by
  refine am_ev_of (by decide) (am_le rfl) (am_go 20 [] (by decide) ?_)
  exact ⟨rfl, rfl⟩
theorem c_toCome {Γ : Am_G} {d : Nat} {M : Am_M} (e : Nat) : am_Ev Γ (d + 1) n_Evening_toCome [.inr (.inr (e, 0))] M (fun r M' => r = some (.inl (M.1 e 0 6 - M.1 e 0 7)) ∧ M' = M) := by
  refine am_ev_of (by decide) (am_le rfl) (am_go 20 [] (by decide) ?_)
  exact ⟨rfl, rfl⟩
theorem c_worthTo {Γ : Am_G} {d : Nat} {M : Am_M} (x y : Int) (h : 0 ≤ x * 5 + y ∧ x * 5 + y < 30) : am_Ev Γ (d + 2) n_Hall_worthTo [.inr (.inr (0, 18)), .inl x, .inl y] M (fun r M' => r = some (.inl (M.1 0 20 (x * 5 + y).toNat)) ∧ M' = M) := by
  refine am_ev_of (by decide) (am_le rfl) (am_go 20 [] (by decide) ?_)
  refine am_by (c_place (d := d) x y) (by omega) ?_
  rintro r M' ⟨rfl, rfl⟩
  refine And.intro h ?_
  exact ⟨rfl, rfl⟩
theorem c_isCarried {Γ : Am_G} {d : Nat} {M : Am_M} (x y z : Int) (h1 : am_R (10 * y)) (h2 : am_R (x * (y + z))) : am_Ev Γ (d + 1) n_R_isCarried [.inl x, .inl y, .inl z] M (fun r M' => r = some (.inl (if x * (y + z) < 10 * y then 1 else 0)) ∧ M' = M) := by
  refine am_ev_of (by decide) (am_le rfl) (am_go 20 [] (by decide) ?_)
  refine And.intro ⟨h1, h2⟩ (And.intro (fun h => ?_) (fun h => ?_))
  · rw [if_pos h]
    exact ⟨Or.inr rfl, rfl, rfl⟩
  · rw [if_neg h]
    exact ⟨Or.inl rfl, rfl, rfl⟩
theorem c_resultOf {Γ : Am_G} {d : Nat} {M : Am_M} (e : Nat) (x y : Int) (h : 0 ≤ x * 4 + y ∧ x * 4 + y < 20) : am_Ev Γ (d + 1) n_Evening_resultOf [.inr (.inr (e, 0)), .inl x, .inl y] M (fun r M' => r = some (.inl (M.1 e 10 (x * 4 + y).toNat)) ∧ M' = M) := by
  refine am_ev_of (by decide) (am_le rfl) (am_go 20 [] (by decide) ?_)
  exact ⟨h, rfl, rfl⟩
theorem c_setResult {Γ : Am_G} {d : Nat} {M : Am_M} (e : Nat) (x y z : Int) (h : 0 ≤ x * 4 + y ∧ x * 4 + y < 20) : am_Ev Γ (d + 1) n_Evening_setResult [.inr (.inr (e, 0)), .inl x, .inl y, .inl z] M (fun r M' => r = none ∧ M' = am_set M e 10 (x * 4 + y).toNat z) := by
  refine am_ev_of (by decide) (am_le rfl) (am_go 20 [] (by decide) ?_)
  exact ⟨h, rfl, rfl⟩
theorem c_clear {Γ : Am_G} {d : Nat} {M : Am_M} : am_Ev Γ (d + 1) n_Text_clear [.inr (.inr (0, 14))] M (fun r M' => r = some (.inl (M.1 0 14 1)) ∧ M' = am_set M 0 14 1 0) := by
  refine am_ev_of (by decide) (am_le rfl) (am_go 20 [] (by decide) ?_)
  exact ⟨rfl, rfl⟩
theorem c_clearRows {Γ : Am_G} {d : Nat} {M : Am_M} : am_Ev Γ (d + 1) n_Hall_clearRows [.inr (.inr (0, 18))] M (fun r M' => r = some (.inl (M.1 0 18 9)) ∧ M' = am_set M 0 18 9 0) := by
  refine am_ev_of (by decide) (am_le rfl) (am_go 20 [] (by decide) ?_)
  exact ⟨rfl, rfl⟩
theorem c_numberOf {Γ : Am_G} {d : Nat} {M : Am_M} (x y : Int) (h : 0 ≤ x * 3 + y ∧ x * 3 + y < 36) : am_Ev Γ (d + 1) n_Text_numberOf [.inr (.inr (0, 14)), .inl x, .inl y] M (fun r M' => r = some (.inl (M.1 0 17 (x * 3 + y).toNat)) ∧ M' = M) := by
  refine am_ev_of (by decide) (am_le rfl) (am_go 20 [] (by decide) ?_)
  exact ⟨h, rfl, rfl⟩
theorem c_isPerson {Γ : Am_G} {d : Nat} {M : Am_M} (x : Int) (h1 : am_R x) (h2 : am_R (M.1 9 1 4)) : am_Ev Γ (d + 1) n_R_isPerson [.inr (.inr (0, 11)), .inl x] M (fun r M' => r = some (.inl (if 0 ≤ x ∧ x < M.1 9 1 4 then 1 else 0)) ∧ M' = M) := by
  refine am_ev_of (by decide) (am_le rfl) (am_go 20 [] (by decide) ?_)
  refine And.intro h1 (And.intro (fun h => ?_) (fun h => ?_))
  · rw [if_neg (by omega)]
    exact ⟨Or.inl rfl, rfl, rfl⟩
  · refine And.intro ⟨h1, h2⟩ (And.intro (fun h3 => ?_) (fun h3 => ?_))
    · have h3 : x < M.1 9 1 4 := h3
      rw [if_pos (by omega)]
      exact ⟨Or.inr rfl, rfl, rfl⟩
    · have h3 : ¬ x < M.1 9 1 4 := h3
      rw [if_neg (by omega)]
      exact ⟨Or.inl rfl, rfl, rfl⟩
theorem c_isMatter {Γ : Am_G} {d : Nat} {M : Am_M} (x : Int) (h1 : am_R x) (h2 : am_R (M.1 0 18 3)) : am_Ev Γ (d + 1) n_R_isMatter [.inr (.inr (0, 11)), .inl x] M (fun r M' => r = some (.inl (if 0 ≤ x ∧ x < M.1 0 18 3 then 1 else 0)) ∧ M' = M) := by
  refine am_ev_of (by decide) (am_le rfl) (am_go 20 [] (by decide) ?_)
  refine And.intro h1 (And.intro (fun h => ?_) (fun h => ?_))
  · rw [if_neg (by omega)]
    exact ⟨Or.inl rfl, rfl, rfl⟩
  · refine And.intro ⟨h1, h2⟩ (And.intro (fun h3 => ?_) (fun h3 => ?_))
    · have h3 : x < M.1 0 18 3 := h3
      rw [if_pos (by omega)]
      exact ⟨Or.inr rfl, rfl, rfl⟩
    · have h3 : ¬ x < M.1 0 18 3 := h3
      rw [if_neg (by omega)]
      exact ⟨Or.inl rfl, rfl, rfl⟩
