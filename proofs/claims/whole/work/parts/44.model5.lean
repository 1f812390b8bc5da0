/-! the reference: putNext -/
def psame (M M1 : Am_M) : Prop := M1.2 = M.2 ∧ (∀ e p k, p ≠ 41 → p ≠ 47 → ¬ (52 ≤ p ∧ p ≤ 54) → M1.1 e p k = M.1 e p k) ∧ (∀ k, k ≠ 24 → k ≠ 25 → k ≠ 26 → M1.1 0 41 k = M.1 0 41 k)
theorem psame.rf {M : Am_M} : psame M M := ⟨rfl, fun _ _ _ _ _ _ => rfl, fun _ _ _ _ => rfl⟩
theorem psame.tr {M M1 M2 : Am_M} (h : psame M M1) (h' : psame M1 M2) : psame M M2 := ⟨h'.1.trans h.1, fun e p k a b c => (h'.2.1 e p k a b c).trans (h.2.1 e p k a b c), fun k a b c => (h'.2.2 k a b c).trans (h.2.2 k a b c)⟩
theorem msame.p {M M1 : Am_M} (h : msame M M1) : psame M M1 := ⟨h.1, fun e p k a _ c => h.2.1 e p k a c, h.2.2⟩
theorem psame.setN {M M1 : Am_M} {e k : Nat} {v : Int} (h : psame M M1) : psame M (am_set M1 e 47 k v) := ⟨h.1, fun e' p' k' a b c => by rw [set_p (by omega)]; exact h.2.1 e' p' k' a b c, fun k' a b c => by rw [set_p (by omega)]; exact h.2.2 k' a b c⟩
/-- what is left behind a vote, by the reference -/
def mnl (M : Am_M) (held : Nat → Int) (j : Nat) : Int := if M.1 0 41 31 = 1 then M.1 0 47 (6 + j) - held j else clL (M.1 0 47 (6 + j)) (held j) (M.1 0 42 (j * 4 + 2)) (M.1 0 42 (j * 4 + 1))
theorem min_comm {x y : Int} : (if x < y then x else y) = if y < x then y else x := by split <;> split <;> omega
def pnI (M : Am_M) (m n i : Nat) (R : (Nat → Int) × Int × Int × Int × Int) (M2 : Am_M) : Prop := psame M M2 ∧ (M2.1 0 41 24 = R.2.1 ∧ M2.1 0 41 25 = R.2.2.1 ∧ M2.1 0 41 26 = R.2.2.2.2) ∧ (∀ j, j < n → M2.1 0 53 j = R.1 j) ∧ (∀ k, k < 6 → M2.1 0 47 k = M.1 0 47 k) ∧ (∀ j, j < i → M2.1 0 47 (6 + j) = mnl M R.1 j) ∧ (∀ j, i ≤ j → j < 6 → M2.1 0 47 (6 + j) = M.1 0 47 (6 + j)) ∧ (∀ k, 12 ≤ k → k < 42 → M2.1 0 47 k = M.1 0 47 k) ∧ (M2.1 0 47 (42 + (m * 4 + 0)) = R.2.1 ∧ M2.1 0 47 (42 + (m * 4 + 1)) = R.2.2.1 ∧ M2.1 0 47 (42 + (m * 4 + 2)) = vt_carI (M.1 0 43 m) R.2.1 R.2.2.1 ∧ M2.1 0 47 (42 + (m * 4 + 3)) = R.2.2.2.1) ∧ (∀ k, k < 20 → (k < m * 4 ∨ m * 4 + 4 ≤ k) → M2.1 0 47 (42 + k) = M.1 0 47 (42 + k)) ∧ (∀ j, j < i → M2.1 0 47 (62 + (j * 5 + m)) = R.1 j) ∧ (∀ k, k < 30 → (∀ j, j < i → k ≠ j * 5 + m) → M2.1 0 47 (62 + k) = M.1 0 47 (62 + k))
theorem c_M_putNext_loop {Γ : Am_G} {d : Nat} {M : Am_M} {n mt m : Nat} {K : Option Am_V → Am_M → Prop} (hM : wfM M n mt) (hm : m < mt) (R : (Nat → Int) × Int × Int × Int × Int) (hRb : ∀ j, j < n → 0 ≤ R.1 j ∧ R.1 j ≤ M.1 0 47 (6 + j)) (s2 s3 : Int) (hK : ∀ z M2, pnI M m n n R M2 → am_At Γ (d + 4) n_M_putNext 211 [some (.inr (.inr (0, 41))), some (.inl (m : Int)), some (.inl s2), some (.inl s3), some (.inl (n : Int)), z] [] M2 K) : ∀ (k i : Nat) (z : Option Am_V) (M2 : Am_M), i + k = n → pnI M m n i R M2 → am_At Γ (d + 4) n_M_putNext 105 [some (.inr (.inr (0, 41))), some (.inl (m : Int)), some (.inl s2), some (.inl s3), some (.inl (i : Int)), z] [] M2 K := by
  intro k
  obtain ⟨⟨n1, n2, n3, n4⟩, n5, n6, n7, n8, n9, n10, n11⟩ := id hM
  induction k with
  | zero =>
    intro i z M2 hi hI
    have : i = n := by omega
    subst this
    have hn : M2.1 0 41 0 = i := (hI.1.2.2 0 (by omega) (by omega) (by omega)).trans n1
    refine am_go 60 [105, 211] (by decide) ?_
    refine And.intro ⟨⟨(by first | omega | (dsimp only [am_own]; omega)), (by first | omega | (dsimp only [am_own]; omega))⟩, (show am_R (M2.1 0 41 0) from ⟨(by first | omega | (dsimp only [am_own]; omega)), (by first | omega | (dsimp only [am_own]; omega))⟩)⟩ (And.intro (fun h => ?_) (fun h => ?_))
    · exfalso
      have h : (i : Int) < M2.1 0 41 0 := h
      omega
    · exact hK z M2 hI
  | succ k ih =>
    intro i z M2 hi hI
    have hn : M2.1 0 41 0 = n := (hI.1.2.2 0 (by omega) (by omega) (by omega)).trans n1
    obtain ⟨i1, ⟨i2, i2b, i2c⟩, i3, i4, i5, i6, i7, i8, i9, i10, i11⟩ := id hI
    have hp := n6 i (by omega)
    have hRi := hRb i (by omega)
    have e53 : M2.1 0 53 i = R.1 i := i3 i (by omega)
    have e31 : M2.1 0 41 31 = M.1 0 41 31 := i1.2.2 31 (by omega) (by omega) (by omega)
    have e422 : M2.1 0 42 (4 * (i : Int) + 2).toNat = M.1 0 42 (i * 4 + 2) := (i1.2.1 0 42 _ (by omega) (by omega) (by omega)).trans (congrArg (M.1 0 42) (by omega))
    have e421 : M2.1 0 42 (4 * (i : Int) + 1).toNat = M.1 0 42 (i * 4 + 1) := (i1.2.1 0 42 _ (by omega) (by omega) (by omega)).trans (congrArg (M.1 0 42) (by omega))
    have x62 : (62 + 5 * (i : Int) + (m : Int)).toNat = 62 + (i * 5 + m) := by omega
    have x6 : (6 + (i : Int)).toNat = 6 + i := by omega
    have go204 : ∀ (v : Int), v = mnl M R.1 i → am_At Γ (d + 4) n_M_putNext 204 [some (.inr (.inr (0, 41))), some (.inl (m : Int)), some (.inl s2), some (.inl s3), some (.inl (i : Int)), some (.inl (M.1 0 47 (6 + i) - R.1 i))] [.inl v, .inl (6 + (i : Int)), .inr (.inr (0, 47))] (am_set M2 0 47 (62 + (i * 5 + m)) (R.1 i)) K := by
      intro v hv
      refine am_go 10 [105] (by decide) ?_
      refine And.intro ⟨(by first | omega | (dsimp only [am_own]; omega)), (by first | omega | (dsimp only [am_own]; omega))⟩ ?_
      rw [x6]
      refine ih (i + 1) _ (am_set (am_set M2 0 47 (62 + (i * 5 + m)) (R.1 i)) 0 47 (6 + i) v) (by omega) ⟨i1.setN.setN, ⟨?_, ?_, ?_⟩, fun j hj => ?_, fun k hk => ?_, fun j hj => ?_, fun j hj hj6 => ?_, fun k h1 h2 => ?_, ⟨?_, ?_, ?_, ?_⟩, fun k h1 h2 => ?_, fun j hj => ?_, fun k h1 h2 => ?_⟩
      · rw [set_p (by decide), set_p (by decide)]; exact i2
      · rw [set_p (by decide), set_p (by decide)]; exact i2b
      · rw [set_p (by decide), set_p (by decide)]; exact i2c
      · rw [set_p (by decide), set_p (by decide)]; exact i3 j hj
      · rw [set_k (by omega), set_k (by omega)]; exact i4 k hk
      · by_cases hji : j = i
        · subst hji; rw [set_eq]; exact hv
        · rw [set_k (by omega), set_k (by omega)]; exact i5 j (by omega)
      · rw [set_k (by omega), set_k (by omega)]; exact i6 j (by omega) hj6
      · rw [set_k (by omega), set_k (by omega)]; exact i7 k h1 h2
      · rw [set_k (by omega), set_k (by omega)]; exact i8.1
      · rw [set_k (by omega), set_k (by omega)]; exact i8.2.1
      · rw [set_k (by omega), set_k (by omega)]; exact i8.2.2.1
      · rw [set_k (by omega), set_k (by omega)]; exact i8.2.2.2
      · rw [set_k (by omega), set_k (by omega)]; exact i9 k h1 h2
      · by_cases hji : j = i
        · subst hji; rw [set_k (by omega), set_eq]
        · rw [set_k (by omega), set_k (by omega)]; exact i10 j (by omega)
      · have := h2 i (by omega)
        rw [set_k (by omega), set_k (by omega)]; exact i11 k h1 (fun j hj => h2 j (by omega))
    have m6 : (am_set M2 0 47 (62 + (i * 5 + m)) (R.1 i)).1 0 47 (6 + (i : Int)).toNat = M.1 0 47 (6 + i) := by rw [x6, set_k (by omega)]; exact i6 i (by omega) (by omega)
    have m53 : (am_set M2 0 47 (62 + (i * 5 + m)) (R.1 i)).1 0 53 i = R.1 i := by rw [set_p (by decide)]; exact e53
    refine am_go 60 [105, 155, 211] (by decide) ?_
    refine And.intro ⟨⟨(by first | omega | (dsimp only [am_own]; omega)), (by first | omega | (dsimp only [am_own]; omega))⟩, (show am_R (M2.1 0 41 0) from ⟨(by first | omega | (dsimp only [am_own]; omega)), (by first | omega | (dsimp only [am_own]; omega))⟩)⟩ (And.intro (fun h => ?_) (fun h => ?_))
    · refine And.intro ⟨(by first | omega | (dsimp only [am_own]; omega)), (by first | omega | (dsimp only [am_own]; omega))⟩ ?_
      refine And.intro ⟨(by first | omega | (dsimp only [am_own]; omega)), (by first | omega | (dsimp only [am_own]; omega))⟩ ?_
      refine And.intro ⟨(by first | omega | (dsimp only [am_own]; omega)), (by first | omega | (dsimp only [am_own]; omega))⟩ ?_
      refine And.intro ⟨(by first | omega | (dsimp only [am_own]; omega)), (by first | omega | (dsimp only [am_own]; omega))⟩ ?_
      -- the state is now that of m6, m53
      have gen : ∀ (M3 : Am_M) (L : Int), M3 = am_set M2 0 47 (62 + (i * 5 + m)) (R.1 i) → L = M.1 0 47 (6 + i) - R.1 i → am_At Γ (d + 4) n_M_putNext 155 [some (.inr (.inr (0, 41))), some (.inl (m : Int)), some (.inl s2), some (.inl s3), some (.inl (i : Int)), some (.inl L)] [] M3 K := by
        intro M3 L h3 hL
        subst h3
        subst hL
        have f31 : (am_set M2 0 47 (62 + (i * 5 + m)) (R.1 i)).1 0 41 31 = M.1 0 41 31 := by rw [set_p (by decide)]; exact e31
        have f422 : (am_set M2 0 47 (62 + (i * 5 + m)) (R.1 i)).1 0 42 (4 * (i : Int) + 2).toNat = M.1 0 42 (i * 4 + 2) := by rw [set_p (by decide)]; exact e422
        have f421 : (am_set M2 0 47 (62 + (i * 5 + m)) (R.1 i)).1 0 42 (4 * (i : Int) + 1).toNat = M.1 0 42 (i * 4 + 1) := by rw [set_p (by decide)]; exact e421
        refine am_go 60 [105, 204, 211] (by decide) ?_
        refine And.intro (am_Re f31 ⟨(by first | omega | (dsimp only [am_own]; omega)), (by first | omega | (dsimp only [am_own]; omega))⟩) (And.intro (fun h4 => ?_) (fun h4 => ?_))
        · have h4 : (am_set M2 0 47 (62 + (i * 5 + m)) (R.1 i)).1 0 41 31 = 0 := h4
          rw [f31] at h4
          refine And.intro ⟨(by first | omega | (dsimp only [am_own]; omega)), (by first | omega | (dsimp only [am_own]; omega))⟩ ?_
          refine And.intro ⟨(by first | omega | (dsimp only [am_own]; omega)), (by first | omega | (dsimp only [am_own]; omega))⟩ ?_
          have hc := c_M_least (Γ := Γ) (d := d) (M := am_set M2 0 47 (62 + (i * 5 + m)) (R.1 i)) (M.1 0 47 (6 + i) - R.1 i + M.1 0 42 (i * 4 + 2)) (M.1 0 42 (i * 4 + 1)) ⟨by omega, by omega⟩ ⟨by omega, by omega⟩
          rw [← f422, ← f421] at hc
          refine am_by hc (by omega) ?_
          rintro r M4 ⟨rfl, rfl⟩
          refine go204 _ ?_
          rw [f422, f421, min_comm]
          unfold mnl
          rw [if_neg (c := M.1 0 41 31 = 1) (by omega)]
          rfl
        · have h4 : ¬ (am_set M2 0 47 (62 + (i * 5 + m)) (R.1 i)).1 0 41 31 = 0 := h4
          rw [f31] at h4
          refine go204 _ ?_
          unfold mnl
          rw [if_pos (by omega)]
      exact gen _ _ (show am_set M2 0 47 (62 + 5 * (i : Int) + (m : Int)).toNat (M2.1 0 53 i) = am_set M2 0 47 (62 + (i * 5 + m)) (R.1 i) by rw [x62, e53]) (show (am_set M2 0 47 (62 + 5 * (i : Int) + (m : Int)).toNat (M2.1 0 53 i)).1 0 47 (6 + (i : Int)).toNat - (am_set M2 0 47 (62 + 5 * (i : Int) + (m : Int)).toNat (M2.1 0 53 i)).1 0 53 i = M.1 0 47 (6 + i) - R.1 i by rw [x62, e53, m6, m53])
    · exfalso
      have h : ¬ (i : Int) < M2.1 0 41 0 := h
      omega
