/-! the reference: aside and back, all that come -/
def cpO (M : Am_M) (p1 x p2 y : Nat) (M' : Am_M) : Prop := am_same (fun _ p => p = p2) M M' ∧ (∀ k, k < 92 → M'.1 0 p2 (y + k) = M.1 0 p1 (x + k)) ∧ (∀ k, (k < y ∨ y + 92 ≤ k) → M'.1 0 p2 k = M.1 0 p2 k)
def cpI (M : Am_M) (p1 x p2 y i : Nat) (M1 : Am_M) : Prop := am_same (fun _ p => p = p2) M M1 ∧ (∀ k, k < i → M1.1 0 p2 (y + k) = M.1 0 p1 (x + k)) ∧ (∀ k, (k < y ∨ y + i ≤ k) → M1.1 0 p2 k = M.1 0 p2 k)
theorem cpI_step {M M1 : Am_M} {p1 x p2 y i : Nat} (hne : p1 ≠ p2) (h : cpI M p1 x p2 y i M1) : cpI M p1 x p2 y (i + 1) (am_set M1 0 p2 (y + i) (M1.1 0 p1 (x + i))) := by
  obtain ⟨hs, h1, h2⟩ := h
  refine ⟨hs.set rfl, fun k hk => ?_, fun k hk => ?_⟩
  · by_cases q : k = i
    · subst q
      rw [set_eq]
      exact hs.2 0 p1 _ hne
    · rw [set_k (by omega)]
      exact h1 k (by omega)
  · rw [set_k (by omega)]
    exact h2 k (by omega)
theorem c_M_copy_47_48 {Γ : Am_G} {d : Nat} {M : Am_M} {x y : Nat} (hx : x = 0) (hy : y = 0) : am_Ev Γ (d + 1) n_M_copy [.inr (.inr (0, 47)), .inl (x : Int), .inr (.inr (0, 48)), .inl (y : Int)] M (fun r M' => r = none ∧ cpO M 47 x 48 y M') := by
  have loop : ∀ (k i : Nat) (M1 : Am_M), i + k = 92 → cpI M 47 x 48 y i M1 → am_At Γ (d + 1) n_M_copy 3 [some (.inr (.inr (0, 47))), some (.inl (x : Int)), some (.inr (.inr (0, 48))), some (.inl (y : Int)), some (.inl (i : Int))] [] M1 (fun r M' => r = none ∧ cpO M 47 x 48 y M') := by
    intro k
    induction k with
    | zero =>
      intro i M1 hi hI
      have : i = 92 := by omega
      subst this
      refine am_go 60 [3] (by decide) ?_
      refine And.intro ⟨⟨(by first | omega | (dsimp only [am_own]; omega)), (by first | omega | (dsimp only [am_own]; omega))⟩, ⟨(by first | omega | (dsimp only [am_own]; omega)), (by first | omega | (dsimp only [am_own]; omega))⟩⟩ (And.intro (fun h => ?_) (fun h => ⟨rfl, hI⟩))
      exfalso; omega
    | succ k ih =>
      intro i M1 hi hI
      refine am_go 60 [3] (by decide) ?_
      refine And.intro ⟨⟨(by first | omega | (dsimp only [am_own]; omega)), (by first | omega | (dsimp only [am_own]; omega))⟩, ⟨(by first | omega | (dsimp only [am_own]; omega)), (by first | omega | (dsimp only [am_own]; omega))⟩⟩ (And.intro (fun h => ?_) (fun h => ?_))
      · refine And.intro ⟨(by first | omega | (dsimp only [am_own]; omega)), (by first | omega | (dsimp only [am_own]; omega))⟩ ?_
        refine And.intro ⟨(by first | omega | (dsimp only [am_own]; omega)), (by first | omega | (dsimp only [am_own]; omega))⟩ ?_
        exact ih (i + 1) (am_set M1 0 48 (y + i) (M1.1 0 47 (x + i))) (by omega) (cpI_step (by decide) hI)
      · exfalso; omega
  refine am_ev_of (by decide) (am_le rfl) (am_go 60 [3] (by decide) ?_)
  exact loop 92 0 M (by omega) ⟨am_same.rf, fun k hk => absurd hk (by omega), fun k _ => rfl⟩
theorem c_M_copy_48_47 {Γ : Am_G} {d : Nat} {M : Am_M} {x y : Nat} (hx : x = 0) (hy : y = 0) : am_Ev Γ (d + 1) n_M_copy [.inr (.inr (0, 48)), .inl (x : Int), .inr (.inr (0, 47)), .inl (y : Int)] M (fun r M' => r = none ∧ cpO M 48 x 47 y M') := by
  have loop : ∀ (k i : Nat) (M1 : Am_M), i + k = 92 → cpI M 48 x 47 y i M1 → am_At Γ (d + 1) n_M_copy 3 [some (.inr (.inr (0, 48))), some (.inl (x : Int)), some (.inr (.inr (0, 47))), some (.inl (y : Int)), some (.inl (i : Int))] [] M1 (fun r M' => r = none ∧ cpO M 48 x 47 y M') := by
    intro k
    induction k with
    | zero =>
      intro i M1 hi hI
      have : i = 92 := by omega
      subst this
      refine am_go 60 [3] (by decide) ?_
      refine And.intro ⟨⟨(by first | omega | (dsimp only [am_own]; omega)), (by first | omega | (dsimp only [am_own]; omega))⟩, ⟨(by first | omega | (dsimp only [am_own]; omega)), (by first | omega | (dsimp only [am_own]; omega))⟩⟩ (And.intro (fun h => ?_) (fun h => ⟨rfl, hI⟩))
      exfalso; omega
    | succ k ih =>
      intro i M1 hi hI
      refine am_go 60 [3] (by decide) ?_
      refine And.intro ⟨⟨(by first | omega | (dsimp only [am_own]; omega)), (by first | omega | (dsimp only [am_own]; omega))⟩, ⟨(by first | omega | (dsimp only [am_own]; omega)), (by first | omega | (dsimp only [am_own]; omega))⟩⟩ (And.intro (fun h => ?_) (fun h => ?_))
      · refine And.intro ⟨(by first | omega | (dsimp only [am_own]; omega)), (by first | omega | (dsimp only [am_own]; omega))⟩ ?_
        refine And.intro ⟨(by first | omega | (dsimp only [am_own]; omega)), (by first | omega | (dsimp only [am_own]; omega))⟩ ?_
        exact ih (i + 1) (am_set M1 0 47 (y + i) (M1.1 0 48 (x + i))) (by omega) (cpI_step (by decide) hI)
      · exfalso; omega
  refine am_ev_of (by decide) (am_le rfl) (am_go 60 [3] (by decide) ?_)
  exact loop 92 0 M (by omega) ⟨am_same.rf, fun k hk => absurd hk (by omega), fun k _ => rfl⟩
theorem c_M_copy_47_49 {Γ : Am_G} {d : Nat} {M : Am_M} {x y : Nat} (hx : x = 0) (hy : y ≤ 92) : am_Ev Γ (d + 1) n_M_copy [.inr (.inr (0, 47)), .inl (x : Int), .inr (.inr (0, 49)), .inl (y : Int)] M (fun r M' => r = none ∧ cpO M 47 x 49 y M') := by
  have loop : ∀ (k i : Nat) (M1 : Am_M), i + k = 92 → cpI M 47 x 49 y i M1 → am_At Γ (d + 1) n_M_copy 3 [some (.inr (.inr (0, 47))), some (.inl (x : Int)), some (.inr (.inr (0, 49))), some (.inl (y : Int)), some (.inl (i : Int))] [] M1 (fun r M' => r = none ∧ cpO M 47 x 49 y M') := by
    intro k
    induction k with
    | zero =>
      intro i M1 hi hI
      have : i = 92 := by omega
      subst this
      refine am_go 60 [3] (by decide) ?_
      refine And.intro ⟨⟨(by first | omega | (dsimp only [am_own]; omega)), (by first | omega | (dsimp only [am_own]; omega))⟩, ⟨(by first | omega | (dsimp only [am_own]; omega)), (by first | omega | (dsimp only [am_own]; omega))⟩⟩ (And.intro (fun h => ?_) (fun h => ⟨rfl, hI⟩))
      exfalso; omega
    | succ k ih =>
      intro i M1 hi hI
      refine am_go 60 [3] (by decide) ?_
      refine And.intro ⟨⟨(by first | omega | (dsimp only [am_own]; omega)), (by first | omega | (dsimp only [am_own]; omega))⟩, ⟨(by first | omega | (dsimp only [am_own]; omega)), (by first | omega | (dsimp only [am_own]; omega))⟩⟩ (And.intro (fun h => ?_) (fun h => ?_))
      · refine And.intro ⟨(by first | omega | (dsimp only [am_own]; omega)), (by first | omega | (dsimp only [am_own]; omega))⟩ ?_
        refine And.intro ⟨(by first | omega | (dsimp only [am_own]; omega)), (by first | omega | (dsimp only [am_own]; omega))⟩ ?_
        exact ih (i + 1) (am_set M1 0 49 (y + i) (M1.1 0 47 (x + i))) (by omega) (cpI_step (by decide) hI)
      · exfalso; omega
  refine am_ev_of (by decide) (am_le rfl) (am_go 60 [3] (by decide) ?_)
  exact loop 92 0 M (by omega) ⟨am_same.rf, fun k hk => absurd hk (by omega), fun k _ => rfl⟩
theorem c_M_copy_49_47 {Γ : Am_G} {d : Nat} {M : Am_M} {x y : Nat} (hx : x ≤ 92) (hy : y = 0) : am_Ev Γ (d + 1) n_M_copy [.inr (.inr (0, 49)), .inl (x : Int), .inr (.inr (0, 47)), .inl (y : Int)] M (fun r M' => r = none ∧ cpO M 49 x 47 y M') := by
  have loop : ∀ (k i : Nat) (M1 : Am_M), i + k = 92 → cpI M 49 x 47 y i M1 → am_At Γ (d + 1) n_M_copy 3 [some (.inr (.inr (0, 49))), some (.inl (x : Int)), some (.inr (.inr (0, 47))), some (.inl (y : Int)), some (.inl (i : Int))] [] M1 (fun r M' => r = none ∧ cpO M 49 x 47 y M') := by
    intro k
    induction k with
    | zero =>
      intro i M1 hi hI
      have : i = 92 := by omega
      subst this
      refine am_go 60 [3] (by decide) ?_
      refine And.intro ⟨⟨(by first | omega | (dsimp only [am_own]; omega)), (by first | omega | (dsimp only [am_own]; omega))⟩, ⟨(by first | omega | (dsimp only [am_own]; omega)), (by first | omega | (dsimp only [am_own]; omega))⟩⟩ (And.intro (fun h => ?_) (fun h => ⟨rfl, hI⟩))
      exfalso; omega
    | succ k ih =>
      intro i M1 hi hI
      refine am_go 60 [3] (by decide) ?_
      refine And.intro ⟨⟨(by first | omega | (dsimp only [am_own]; omega)), (by first | omega | (dsimp only [am_own]; omega))⟩, ⟨(by first | omega | (dsimp only [am_own]; omega)), (by first | omega | (dsimp only [am_own]; omega))⟩⟩ (And.intro (fun h => ?_) (fun h => ?_))
      · refine And.intro ⟨(by first | omega | (dsimp only [am_own]; omega)), (by first | omega | (dsimp only [am_own]; omega))⟩ ?_
        refine And.intro ⟨(by first | omega | (dsimp only [am_own]; omega)), (by first | omega | (dsimp only [am_own]; omega))⟩ ?_
        exact ih (i + 1) (am_set M1 0 47 (y + i) (M1.1 0 49 (x + i))) (by omega) (cpI_step (by decide) hI)
      · exfalso; omega
  refine am_ev_of (by decide) (am_le rfl) (am_go 60 [3] (by decide) ?_)
  exact loop 92 0 M (by omega) ⟨am_same.rf, fun k hk => absurd hk (by omega), fun k _ => rfl⟩
theorem c_M_putAside {Γ : Am_G} {d : Nat} {M : Am_M} : am_Ev Γ (d + 2) n_M_putAside [.inr (.inr (0, 41))] M (fun r M' => r = none ∧ cpO M 47 0 48 0 M') := by
  refine am_ev_of (by decide) (am_le rfl) (am_go 60 [] (by decide) ?_)
  refine am_by (c_M_copy_47_48 (d := d) (x := 0) (y := 0) rfl rfl) (by omega) ?_
  rintro r M1 ⟨rfl, h⟩
  exact ⟨rfl, h⟩
theorem c_M_putBack {Γ : Am_G} {d : Nat} {M : Am_M} : am_Ev Γ (d + 2) n_M_putBack [.inr (.inr (0, 41))] M (fun r M' => r = none ∧ cpO M 48 0 47 0 M') := by
  refine am_ev_of (by decide) (am_le rfl) (am_go 60 [] (by decide) ?_)
  refine am_by (c_M_copy_48_47 (d := d) (x := 0) (y := 0) rfl rfl) (by omega) ?_
  rintro r M1 ⟨rfl, h⟩
  exact ⟨rfl, h⟩
/-- the reference's view is as it was -/
def rsame (M M' : Am_M) : Prop := (∀ k, k ≠ 24 → k ≠ 25 → k ≠ 26 → M'.1 0 41 k = M.1 0 41 k) ∧ (∀ p k, 42 ≤ p → p ≤ 46 → M'.1 0 p k = M.1 0 p k) ∧ (∀ k, k < 92 → M'.1 0 47 k = M.1 0 47 k)
theorem wfM.rs {M M' : Am_M} {n mt : Nat} (h : wfM M n mt) (hs : rsame M M') : wfM M' n mt := by
  obtain ⟨f, g, g7⟩ := hs
  obtain ⟨⟨n1, n2, n3, n4⟩, n5, n6, n7, n8, n9, n10, n11⟩ := h
  refine ⟨⟨by rw [f 0 (by omega) (by omega) (by omega)]; exact n1, n2, by rw [f 2 (by omega) (by omega) (by omega)]; exact n3, n4⟩, by rw [f 5 (by omega) (by omega) (by omega)]; exact n5, fun i hi => ?_, fun m hm => ?_, fun i m hi hm => ?_, fun k hk => ?_, by rw [f 30 (by omega) (by omega) (by omega)]; exact n10, by rw [f 31 (by omega) (by omega) (by omega)]; exact n11⟩
  · rw [g 42 _ (by omega) (by omega), g 42 _ (by omega) (by omega), g 42 _ (by omega) (by omega), g 42 _ (by omega) (by omega), g7 _ (by omega)]
    exact n6 i hi
  · rw [g 43 _ (by omega) (by omega)]; exact n7 m hm
  · rw [g 44 _ (by omega) (by omega), g7 _ (by omega)]; exact n8 i m hi hm
  · rw [g7 _ (by omega)]; exact n9 k hk
theorem rV.rs {M M' : Am_M} {n mt : Nat} (hs : rsame M M') (hn : n ≤ 6) (hm : mt ≤ 5) : veq n mt (rV M') (rV M) := by
  obtain ⟨f, g, g7⟩ := hs
  refine ⟨fun k hk => ?_, fun i hi => ⟨?_, ?_, ?_, g 42 _ (by omega) (by omega), g7 _ (by omega)⟩, fun m2 hm2 => ⟨g 43 m2 (by omega) (by omega), g7 _ (by omega)⟩, fun i m2 hi hm2 => ⟨g 44 _ (by omega) (by omega), g7 _ (by omega)⟩⟩
  · rcases (show k = 0 ∨ k = 1 ∨ k = 2 ∨ k = 3 by omega) with rfl | rfl | rfl | rfl
    · exact f 0 (by omega) (by omega) (by omega)
    · exact f 2 (by omega) (by omega) (by omega)
    · exact f 5 (by omega) (by omega) (by omega)
    · exact g7 0 (by omega)
  · show mkd M' i = mkd M i
    unfold mkd
    rw [f 30 (by omega) (by omega) (by omega), g 42 _ (by omega) (by omega)]
  · show (if M'.1 0 41 31 = 1 then 99 else M'.1 0 42 (i * 4 + 1)) = if M.1 0 41 31 = 1 then 99 else M.1 0 42 (i * 4 + 1)
    rw [f 31 (by omega) (by omega) (by omega), g 42 _ (by omega) (by omega)]
  · show (if M'.1 0 41 31 = 1 then 0 else M'.1 0 42 (i * 4 + 2)) = if M.1 0 41 31 = 1 then 0 else M.1 0 42 (i * 4 + 2)
    rw [f 31 (by omega) (by omega) (by omega), g 42 _ (by omega) (by omega)]
/-- what a foretelling may change in the reference -/
def rF (M M' : Am_M) : Prop := M'.2 = M.2 ∧ (∀ e p k, p ≠ 41 → p ≠ 47 → p ≠ 48 → ¬ (52 ≤ p ∧ p ≤ 54) → M'.1 e p k = M.1 e p k) ∧ (∀ k, k ≠ 24 → k ≠ 25 → k ≠ 26 → M'.1 0 41 k = M.1 0 41 k) ∧ (∀ k, k < 92 → M'.1 0 47 k = M.1 0 47 k)
/-- the same, while now may differ -/
def rG (M M' : Am_M) : Prop := M'.2 = M.2 ∧ (∀ e p k, p ≠ 41 → p ≠ 47 → p ≠ 48 → ¬ (52 ≤ p ∧ p ≤ 54) → M'.1 e p k = M.1 e p k) ∧ (∀ k, k ≠ 24 → k ≠ 25 → k ≠ 26 → M'.1 0 41 k = M.1 0 41 k)
theorem psame.g {M M' : Am_M} (h : psame M M') : rG M M' := ⟨h.1, fun e p k a b _ c => h.2.1 e p k a b c, h.2.2⟩
theorem rG.tr {M M1 M2 : Am_M} (h : rG M M1) (h' : rG M1 M2) : rG M M2 := ⟨h'.1.trans h.1, fun e p k a b c d => (h'.2.1 e p k a b c d).trans (h.2.1 e p k a b c d), fun k a b c => (h'.2.2 k a b c).trans (h.2.2 k a b c)⟩
theorem rG.rf {M : Am_M} : rG M M := ⟨rfl, fun _ _ _ _ _ _ _ => rfl, fun _ _ _ _ => rfl⟩
theorem rF.s {M M' : Am_M} (h : rF M M') : rsame M M' := ⟨h.2.2.1, fun p k a b => h.2.1 0 p k (by omega) (by omega) (by omega) (by omega), h.2.2.2⟩
theorem rF.tr {M M1 M2 : Am_M} (h : rF M M1) (h' : rF M1 M2) : rF M M2 := ⟨h'.1.trans h.1, fun e p k a b c d => (h'.2.1 e p k a b c d).trans (h.2.1 e p k a b c d), fun k a b c => (h'.2.2.1 k a b c).trans (h.2.2.1 k a b c), fun k a => (h'.2.2.2 k a).trans (h.2.2.2 k a)⟩
theorem cpO_rG {M M' : Am_M} {p1 x p2 y : Nat} (h : cpO M p1 x p2 y M') (hp : p2 = 47 ∨ p2 = 48) : rG M M' := ⟨h.1.1, fun e p k a b c d => h.1.2 e p k (by omega), fun k _ _ _ => h.1.2 0 41 k (by omega)⟩
/-- aside, something, back -/
theorem rF_of {M M1 M2 M3 : Am_M} (h1 : cpO M 47 0 48 0 M1) (h2 : rG M1 M2) (h48 : ∀ k, k < 92 → M2.1 0 48 k = M1.1 0 48 k) (h3 : cpO M2 48 0 47 0 M3) : rF M M3 := by
  have g := ((cpO_rG h1 (Or.inr rfl)).tr h2).tr (cpO_rG h3 (Or.inl rfl))
  refine ⟨g.1, g.2.1, g.2.2, fun k hk => ?_⟩
  have a := h3.2.1 k hk
  have b := h48 k hk
  have c := h1.2.1 k hk
  rw [Nat.zero_add] at a c
  exact a.trans (b.trans c)
theorem am_shl_0 (x : Int) : am_shl 0 x = 0 := by
  unfold am_shl
  rw [am_ofInt0]
  have : (0 : Int32) <<< (Int32.ofInt x &&& 31) = 0 := by simp
  rw [this]
  decide +kernel
