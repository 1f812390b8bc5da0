/-! leaf methods -/
theorem c_place {Γ : Am_G} {d : Nat} {M : Am_M} (x y : Int) : am_Ev Γ (d + 1) n_R_place [.inl x, .inl y] M (fun r M' => r = some (.inl (x * 5 + y)) ∧ M' = M) := by
  refine am_ev_of (by decide) (by decide) (am_go 20 [] (by decide) ?_)
  exact ⟨rfl, rfl⟩
theorem c_toCome {Γ : Am_G} {d : Nat} {M : Am_M} (e : Nat) : am_Ev Γ (d + 1) n_Evening_toCome [.inr (.inr (e, 0))] M (fun r M' => r = some (.inl (M.1 e 0 6 - M.1 e 0 7)) ∧ M' = M) := by
  refine am_ev_of (by decide) (by decide) (am_go 20 [] (by decide) ?_)
  exact ⟨rfl, rfl⟩
theorem c_worthTo {Γ : Am_G} {d : Nat} {M : Am_M} (x y : Int) (h : 0 ≤ x * 5 + y ∧ x * 5 + y < 30) : am_Ev Γ (d + 2) n_Hall_worthTo [.inr (.inr (0, 18)), .inl x, .inl y] M (fun r M' => r = some (.inl (M.1 0 20 (x * 5 + y).toNat)) ∧ M' = M) := by
  refine am_ev_of (by decide) (by decide) (am_go 20 [] (by decide) ?_)
  refine am_by (c_place (d := d) x y) (by omega) ?_
  rintro r M' ⟨rfl, rfl⟩
  refine And.intro h ?_
  exact ⟨rfl, rfl⟩
theorem c_isCarried {Γ : Am_G} {d : Nat} {M : Am_M} (x y z : Int) (h1 : am_R (10 * y)) (h2 : am_R (x * (y + z))) : am_Ev Γ (d + 1) n_R_isCarried [.inl x, .inl y, .inl z] M (fun r M' => r = some (.inl (if x * (y + z) < 10 * y then 1 else 0)) ∧ M' = M) := by
  refine am_ev_of (by decide) (by decide) (am_go 20 [] (by decide) ?_)
  refine And.intro ⟨h1, h2⟩ (And.intro (fun h => ?_) (fun h => ?_))
  · refine And.intro (Or.inr rfl) ?_
    rw [if_neg (by omega)]
    sorry
  · sorry
