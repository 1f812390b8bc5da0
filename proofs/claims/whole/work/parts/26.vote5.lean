/-! the class's vote: countArms, close -/
def caI (M : Am_M) (e i : Nat) (M1 : Am_M) : Prop := am_same (fun _ p => p = 31 ∨ p = 25) M M1 ∧ (∀ j, j < i → M1.1 0 31 j = M.1 0 31 j + M.1 0 32 j) ∧ (∀ j, i ≤ j → M1.1 0 31 j = M.1 0 31 j) ∧ (M1.1 0 25 10 = M.1 0 25 10 + vt_add 1 (M.1 0 32) (M.1 0 33) (M.1 e 5) i ∧ M1.1 0 25 11 = M.1 0 25 11 + vt_add 0 (M.1 0 32) (M.1 0 33) (M.1 e 5) i) ∧ M1.1 0 25 9 = M.1 0 25 9 ∧ M1.1 0 25 12 = M.1 0 25 12 ∧ M1.1 0 25 13 = M.1 0 25 13
theorem c_countArms_loop {Γ : Am_G} {d : Nat} {M : Am_M} {e n mt m : Nat} {K : Option Am_V → Am_M → Prop} (hE : wfE M e n mt) (hv : vOK M e n m) (hK : ∀ M1, caI M e n M1 → K none M1) : ∀ (k i : Nat) (M1 : Am_M), i + k = n → caI M e i M1 → am_At Γ (d + 1) n_Vote_countArms 2 [some (.inr (.inr (0, 25))), some (.inr (.inr (e, 1))), some (.inl (i : Int))] [] M1 K := by
  intro k
  have hb := hE.1
  induction k with
  | zero =>
    intro i M1 hi hI
    have : i = n := by omega
    subst this
    have hn : M1.1 e 1 4 = i := (hI.1.2 e 1 4 (by omega)).trans hb.1
    refine am_go 60 [2] (by decide) ?_
    refine And.intro ⟨⟨(by first | omega | (dsimp only [am_own]; omega)), (by first | omega | (dsimp only [am_own]; omega))⟩, (show am_R (M1.1 e 1 4) from ⟨(by first | omega | (dsimp only [am_own]; omega)), (by first | omega | (dsimp only [am_own]; omega))⟩)⟩ (And.intro (fun h => ?_) (fun h => ?_))
    · exfalso
      have h : (i : Int) < M1.1 e 1 4 := h
      omega
    · exact hK M1 hI
  | succ k ih =>
    intro i M1 hi hI
    have hn : M1.1 e 1 4 = n := (hI.1.2 e 1 4 (by omega)).trans hb.1
    obtain ⟨u1, u2, u3, u4⟩ := hv.2.2.2 i (by omega)
    have e32 : M1.1 0 32 i = M.1 0 32 i := hI.1.2 0 32 i (by omega)
    have e33 : M1.1 0 33 i = M.1 0 33 i := hI.1.2 0 33 i (by omega)
    have e5 : M1.1 e 5 i = M.1 e 5 i := hI.1.2 e 5 i (by omega)
    obtain ⟨i1, i2, i3, ⟨i4, i5⟩, i6, i7, i8⟩ := id hI
    have e31 : M1.1 0 31 i = M.1 0 31 i := i3 i (by omega)
    have a1 : vt_add 1 (M.1 0 32) (M.1 0 33) (M.1 e 5) (i + 1) = vt_add 1 (M.1 0 32) (M.1 0 33) (M.1 e 5) i + (if M.1 0 32 i = 1 ∧ M.1 0 33 i = 1 then M.1 e 5 i else 0) := rfl
    have a0 : vt_add 0 (M.1 0 32) (M.1 0 33) (M.1 e 5) (i + 1) = vt_add 0 (M.1 0 32) (M.1 0 33) (M.1 e 5) i + (if M.1 0 32 i = 1 ∧ M.1 0 33 i = 0 then M.1 e 5 i else 0) := rfl
    refine am_go 60 [2] (by decide) ?_
    refine And.intro ⟨⟨(by first | omega | (dsimp only [am_own]; omega)), (by first | omega | (dsimp only [am_own]; omega))⟩, (show am_R (M1.1 e 1 4) from ⟨(by first | omega | (dsimp only [am_own]; omega)), (by first | omega | (dsimp only [am_own]; omega))⟩)⟩ (And.intro (fun h => ?_) (fun h => ?_))
    · refine And.intro ⟨(by first | omega | (dsimp only [am_own]; omega)), (by first | omega | (dsimp only [am_own]; omega))⟩ ?_
      refine And.intro (show am_R (M1.1 0 32 i) from ⟨(by first | omega | (dsimp only [am_own]; omega)), (by first | omega | (dsimp only [am_own]; omega))⟩) (And.intro (fun h1 => ?_) (fun h1 => ?_))
      · have h1 : M1.1 0 32 i = 0 := h1
        refine ih (i + 1) M1 (by omega) ⟨i1, fun j hj => ?_, fun j hj => i3 j (by omega), ⟨?_, ?_⟩, i6, i7, i8⟩
        · by_cases hji : j = i
          · subst hji; omega
          · exact i2 j (by omega)
        · rw [a1, if_neg (by omega), i4]; omega
        · rw [a0, if_neg (by omega), i5]; omega
      · have h1 : ¬ M1.1 0 32 i = 0 := h1
        refine And.intro ⟨(by first | omega | (dsimp only [am_own]; omega)), (by first | omega | (dsimp only [am_own]; omega))⟩ ?_
        refine And.intro ⟨(by first | omega | (dsimp only [am_own]; omega)), (by first | omega | (dsimp only [am_own]; omega))⟩ ?_
        refine And.intro ⟨(by first | omega | (dsimp only [am_own]; omega)), (by first | omega | (dsimp only [am_own]; omega))⟩ ?_
        have hx : (am_set M1 0 31 i (M1.1 0 31 i + 1)).1 0 33 i = M.1 0 33 i := (set_p (by decide)).trans e33
        refine And.intro (am_Re hx ⟨(by first | omega | (dsimp only [am_own]; omega)), (by first | omega | (dsimp only [am_own]; omega))⟩) (And.intro (fun h2 => ?_) (fun h2 => ?_))
        · have h2 : (am_set M1 0 31 i (M1.1 0 31 i + 1)).1 0 33 i = 0 := h2
          rw [hx] at h2
          refine And.intro ⟨(by first | omega | (dsimp only [am_own]; omega)), (by first | omega | (dsimp only [am_own]; omega))⟩ ?_
          refine ih (i + 1) (am_set (am_set M1 0 31 i (M1.1 0 31 i + 1)) 0 25 11 ((am_set M1 0 31 i (M1.1 0 31 i + 1)).1 0 25 11 + (am_set M1 0 31 i (M1.1 0 31 i + 1)).1 e 5 i)) (by omega) ?_
          rw [set_p (M := M1) (p' := 25) (by decide), set_p (M := M1) (p' := 5) (by decide)]
          refine ⟨(i1.set (Or.inl rfl)).set (Or.inr rfl), fun j hj => ?_, fun j hj => ?_, ⟨?_, ?_⟩, ?_, ?_, ?_⟩
          · rw [set_p (by decide)]
            by_cases hji : j = i
            · subst hji; rw [set_eq]; omega
            · rw [set_k hji]; exact i2 j (by omega)
          · rw [set_p (by decide), set_k (by omega)]; exact i3 j (by omega)
          · rw [set_k (by decide), set_p (by decide), a1, if_neg (by omega), i4]; omega
          · rw [set_eq, a0, if_pos (by omega), i5, e5]; omega
          · rw [set_k (by decide), set_p (by decide)]; exact i6
          · rw [set_k (by decide), set_p (by decide)]; exact i7
          · rw [set_k (by decide), set_p (by decide)]; exact i8
        · have h2 : ¬ (am_set M1 0 31 i (M1.1 0 31 i + 1)).1 0 33 i = 0 := h2
          rw [hx] at h2
          refine And.intro ⟨(by first | omega | (dsimp only [am_own]; omega)), (by first | omega | (dsimp only [am_own]; omega))⟩ ?_
          refine ih (i + 1) (am_set (am_set M1 0 31 i (M1.1 0 31 i + 1)) 0 25 10 ((am_set M1 0 31 i (M1.1 0 31 i + 1)).1 0 25 10 + (am_set M1 0 31 i (M1.1 0 31 i + 1)).1 e 5 i)) (by omega) ?_
          rw [set_p (M := M1) (p' := 25) (by decide), set_p (M := M1) (p' := 5) (by decide)]
          refine ⟨(i1.set (Or.inl rfl)).set (Or.inr rfl), fun j hj => ?_, fun j hj => ?_, ⟨?_, ?_⟩, ?_, ?_, ?_⟩
          · rw [set_p (by decide)]
            by_cases hji : j = i
            · subst hji; rw [set_eq]; omega
            · rw [set_k hji]; exact i2 j (by omega)
          · rw [set_p (by decide), set_k (by omega)]; exact i3 j (by omega)
          · rw [set_eq, a1, if_pos (by omega), i4, e5]; omega
          · rw [set_k (by decide), set_p (by decide), a0, if_neg (by omega), i5]; omega
          · rw [set_k (by decide), set_p (by decide)]; exact i6
          · rw [set_k (by decide), set_p (by decide)]; exact i7
          · rw [set_k (by decide), set_p (by decide)]; exact i8
    · exfalso
      have h : ¬ (i : Int) < M1.1 e 1 4 := h
      omega
theorem c_countArms {Γ : Am_G} {d : Nat} {M : Am_M} {e n mt m : Nat} (hE : wfE M e n mt) (hv : vOK M e n m) : am_Ev Γ (d + 1) n_Vote_countArms [.inr (.inr (0, 25)), .inr (.inr (e, 1))] M (fun r M' => r = none ∧ caI M e n M') := by
  refine am_ev_of (by decide) (am_le rfl) (am_go 60 [2] (by decide) ?_)
  exact c_countArms_loop hE hv (fun M1 h => ⟨rfl, h⟩) n 0 M (by omega) ⟨am_same.rf, fun j hj => absurd hj (by omega), fun j _ => rfl, ⟨(Int.add_zero _).symm, (Int.add_zero _).symm⟩, rfl, rfl, rfl⟩
def clL (left held rest arm : Int) : Int := if arm < left - held + rest then arm else left - held + rest
def clI (M : Am_M) (e m i : Nat) (M1 : Am_M) : Prop := am_same (fun e' p => e' = e ∧ (p = 7 ∨ p = 9)) M M1 ∧ (∀ j, j < i → M1.1 e 9 (j * 5 + m) = M.1 0 31 j ∧ M1.1 e 7 j = clL (M.1 e 7 j) (M.1 0 31 j) (M.1 e 4 j) (M.1 e 3 j)) ∧ (∀ k, (∀ j, j < i → k ≠ j * 5 + m) → M1.1 e 9 k = M.1 e 9 k) ∧ (∀ j, i ≤ j → M1.1 e 7 j = M.1 e 7 j)
theorem c_close_loop {Γ : Am_G} {d : Nat} {M : Am_M} {e n mt m : Nat} {K : Option Am_V → Am_M → Prop} (hE : wfE M e n mt) (hm : m < mt) (hv : vOK M e n m) (hK : ∀ z M1, clI M e m n M1 → am_At Γ (d + 2) n_Vote_close 79 [some (.inr (.inr (0, 25))), some (.inr (.inr (e, 0))), some (.inr (.inr (e, 1))), some (.inl (n : Int)), z] [] M1 K) : ∀ (k i : Nat) (z : Option Am_V) (M1 : Am_M), i + k = n → clI M e m i M1 → am_At Γ (d + 2) n_Vote_close 7 [some (.inr (.inr (0, 25))), some (.inr (.inr (e, 0))), some (.inr (.inr (e, 1))), some (.inl (i : Int)), z] [] M1 K := by
  intro k
  have hb := hE.1
  induction k with
  | zero =>
    intro i z M1 hi hI
    have : i = n := by omega
    subst this
    have hn : M1.1 e 1 4 = i := (hI.1.2 e 1 4 (by omega)).trans hb.1
    refine am_go 60 [7, 79] (by decide) ?_
    refine And.intro ⟨⟨(by first | omega | (dsimp only [am_own]; omega)), (by first | omega | (dsimp only [am_own]; omega))⟩, (show am_R (M1.1 e 1 4) from ⟨(by first | omega | (dsimp only [am_own]; omega)), (by first | omega | (dsimp only [am_own]; omega))⟩)⟩ (And.intro (fun h => ?_) (fun h => ?_))
    · exfalso
      have h : (i : Int) < M1.1 e 1 4 := h
      omega
    · exact hK z M1 hI
  | succ k ih =>
    intro i z M1 hi hI
    have hn : M1.1 e 1 4 = n := (hI.1.2 e 1 4 (by omega)).trans hb.1
    obtain ⟨u1, u2, u3, u4⟩ := hv.2.2.2 i (by omega)
    have hp := hE.2.1 i (by omega)
    obtain ⟨i1, i2, i3, i4⟩ := id hI
    have e9 : M1.1 0 25 9 = m := (i1.2 0 25 9 (by omega)).trans hv.1
    have e31 : M1.1 0 31 i = M.1 0 31 i := i1.2 0 31 i (by omega)
    have e7 : M1.1 e 7 i = M.1 e 7 i := i4 i (by omega)
    have e4 : M1.1 e 4 i = M.1 e 4 i := i1.2 e 4 i (by omega)
    have e3 : M1.1 e 3 i = M.1 e 3 i := i1.2 e 3 i (by omega)
    refine am_go 60 [7, 79] (by decide) ?_
    refine And.intro ⟨⟨(by first | omega | (dsimp only [am_own]; omega)), (by first | omega | (dsimp only [am_own]; omega))⟩, (show am_R (M1.1 e 1 4) from ⟨(by first | omega | (dsimp only [am_own]; omega)), (by first | omega | (dsimp only [am_own]; omega))⟩)⟩ (And.intro (fun h => ?_) (fun h => ?_))
    · refine am_by (c_place (d := d) (i : Int) (M1.1 0 25 9)) (by omega) ?_
      rintro r M2 ⟨rfl, rfl⟩
      have ex : ((i : Int) * 5 + M2.1 0 25 9).toNat = i * 5 + m := by rw [e9]; omega
      refine And.intro ⟨(by first | omega | (dsimp only [am_own]; omega)), (by first | omega | (dsimp only [am_own]; omega))⟩ ?_
      refine And.intro (show 0 ≤ (i : Int) * 5 + M2.1 0 25 9 ∧ (i : Int) * 5 + M2.1 0 25 9 < 30 from ⟨(by first | omega | (dsimp only [am_own]; omega)), (by first | omega | (dsimp only [am_own]; omega))⟩) ?_
      refine And.intro ⟨(by first | omega | (dsimp only [am_own]; omega)), (by first | omega | (dsimp only [am_own]; omega))⟩ ?_
      refine And.intro ⟨(by first | omega | (dsimp only [am_own]; omega)), (by first | omega | (dsimp only [am_own]; omega))⟩ ?_
      refine And.intro ⟨(by first | omega | (dsimp only [am_own]; omega)), (by first | omega | (dsimp only [am_own]; omega))⟩ ?_
      refine And.intro ⟨(by first | omega | (dsimp only [am_own]; omega)), (by first | omega | (dsimp only [am_own]; omega))⟩ ?_
      have hA : (am_set M2 e 9 (i * 5 + m) (M2.1 0 31 i)).1 e 7 i - (am_set M2 e 9 (i * 5 + m) (M2.1 0 31 i)).1 0 31 i + (am_set M2 e 9 (i * 5 + m) (M2.1 0 31 i)).1 e 4 i = M.1 e 7 i - M.1 0 31 i + M.1 e 4 i := by
        rw [set_p (by decide), set_p (by decide), set_p (by decide), e7, e31, e4]
      have hB : (am_set M2 e 9 (i * 5 + m) (M2.1 0 31 i)).1 e 3 i = M.1 e 3 i := by rw [set_p (by decide), e3]
      rw [ex]
      refine And.intro ⟨⟨(am_Re hA ⟨(by first | omega | (dsimp only [am_own]; omega)), (by first | omega | (dsimp only [am_own]; omega))⟩), (am_Re hB ⟨(by first | omega | (dsimp only [am_own]; omega)), (by first | omega | (dsimp only [am_own]; omega))⟩)⟩, by omega, am_le rfl⟩ ?_
      refine And.intro ⟨(by first | omega | (dsimp only [am_own]; omega)), (by first | omega | (dsimp only [am_own]; omega))⟩ ?_
      refine ih (i + 1) _ (am_set (am_set M2 e 9 (i * 5 + m) (M2.1 0 31 i)) e 7 i (if (am_set M2 e 9 (i * 5 + m) (M2.1 0 31 i)).1 e 3 i < (am_set M2 e 9 (i * 5 + m) (M2.1 0 31 i)).1 e 7 i - (am_set M2 e 9 (i * 5 + m) (M2.1 0 31 i)).1 0 31 i + (am_set M2 e 9 (i * 5 + m) (M2.1 0 31 i)).1 e 4 i then (am_set M2 e 9 (i * 5 + m) (M2.1 0 31 i)).1 e 3 i else (am_set M2 e 9 (i * 5 + m) (M2.1 0 31 i)).1 e 7 i - (am_set M2 e 9 (i * 5 + m) (M2.1 0 31 i)).1 0 31 i + (am_set M2 e 9 (i * 5 + m) (M2.1 0 31 i)).1 e 4 i)) (by omega) ?_
      rw [hA, hB]
      refine ⟨(i1.set ⟨rfl, Or.inr rfl⟩).set ⟨rfl, Or.inl rfl⟩, fun j hj => ?_, fun kk hk => ?_, fun j hj => ?_⟩
      · by_cases hji : j = i
        · subst hji
          rw [set_p (by decide), set_eq, set_eq]
          exact ⟨e31, rfl⟩
        · rw [set_p (by decide), set_k (by omega), set_k hji, set_p (by decide)]
          exact i2 j (by omega)
      · rw [set_p (by decide), set_k (hk i (by omega))]
        exact i3 kk (fun j hj => hk j (by omega))
      · rw [set_k (by omega), set_p (by decide)]
        exact i4 j (by omega)
    · exfalso
      have h : ¬ (i : Int) < M1.1 e 1 4 := h
      omega
