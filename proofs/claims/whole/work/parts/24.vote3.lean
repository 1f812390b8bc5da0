/-! the class's vote: begin, isSettled -/
theorem c_begin {Γ : Am_G} {d : Nat} {M : Am_M} {e n mt pu m : Nat} (hE : wfE M e n mt) (hH : wfH M mt) (hp : M.1 e 0 7 = pu) (hpu : pu < mt) (hm : M.1 e 6 pu = m) : am_Ev Γ (d + 4) n_Vote_begin [.inr (.inr (0, 25)), .inr (.inr (e, 0))] M (fun r M' => r = none ∧ vbI M e m n M') := by
  have hmt : m < mt := by have := hE.2.2.1 pu hpu; omega
  have hb := hE.1
  refine am_ev_of (by decide) (am_le rfl) (am_go 60 [35] (by decide) ?_)
  refine And.intro (show 0 ≤ M.1 e 0 7 ∧ M.1 e 0 7 < 5 from ⟨(by first | omega | (dsimp only [am_own]; omega)), (by first | omega | (dsimp only [am_own]; omega))⟩) ?_
  refine c_begin_loop hE hH hmt (fun M1 h => ⟨rfl, h⟩) n 0 _ (by omega) ?_
  have hm2 : M.1 e 6 (M.1 e 0 7).toNat = m := by rw [hp]; exact hm
  refine ⟨((((am_same.rf.set (Or.inl rfl)).set (Or.inl rfl)).set (Or.inl rfl)).set (Or.inl rfl)).set (Or.inl rfl), ⟨?_, ?_, ?_, ?_, ?_⟩, fun j hj => absurd hj (by omega)⟩
  · rw [set_k (by decide), set_k (by decide), set_k (by decide), set_k (by decide)]
    exact set_eq.trans hm2
  · rw [set_k (by decide), set_k (by decide), set_k (by decide)]
    exact set_eq
  · rw [set_k (by decide), set_k (by decide)]
    exact set_eq
  · rw [set_k (by decide)]
    exact set_eq
  · exact set_eq
/-- the vote's own cells, in a vote on m in evening e -/
def vOK (M : Am_M) (e n m : Nat) : Prop := M.1 0 25 9 = m ∧ (0 ≤ M.1 0 25 10 ∧ M.1 0 25 10 ≤ 9999) ∧ (0 ≤ M.1 0 25 11 ∧ M.1 0 25 11 ≤ 9999) ∧ ∀ j, j < n → (M.1 0 32 j = 0 ∨ M.1 0 32 j = 1) ∧ (M.1 0 33 j = 0 ∨ M.1 0 33 j = 1) ∧ 0 ≤ M.1 0 31 j ∧ M.1 0 31 j ≤ M.1 e 7 j
theorem vt_more_b {b : Int} {up fr ct lf held : Nat → Int} {n : Nat} (h : ∀ i, i < n → (1 ≤ ct i ∧ ct i ≤ 9) ∧ 0 ≤ lf i - held i ∧ lf i - held i ≤ 99) : 0 ≤ vt_more b up fr ct lf held n ∧ vt_more b up fr ct lf held n ≤ n * 891 := by
  refine ⟨vt_sum_nn n (fun i hi => ?_), vt_sum_le n (fun i hi => ?_)⟩
  · have hb := mul_b (a := ct i) (b := lf i - held i) (A := 9) (B := 99) (by have := h i hi; omega) (by have := h i hi; omega)
    split <;> omega
  · have hb := mul_b (a := ct i) (b := lf i - held i) (A := 9) (B := 99) (by have := h i hi; omega) (by have := h i hi; omega)
    split <;> omega
theorem c_isSettled_loop {Γ : Am_G} {d : Nat} {M : Am_M} {e n mt m : Nat} {K : Option Am_V → Am_M → Prop} (hE : wfE M e n mt) (hv : vOK M e n m) (hK : ∀ z : Option Am_V, am_At Γ (d + 2) n_Vote_isSettled 86 [some (.inr (.inr (0, 25))), some (.inr (.inr (e, 0))), some (.inl (vt_more 1 (M.1 0 32) (M.1 0 33) (M.1 e 5) (M.1 e 7) (M.1 0 31) n)), some (.inl (vt_more 0 (M.1 0 32) (M.1 0 33) (M.1 e 5) (M.1 e 7) (M.1 0 31) n)), some (.inl (n : Int)), z] [] M K) : ∀ (k i : Nat) (z : Option Am_V), i + k = n → am_At Γ (d + 2) n_Vote_isSettled 7 [some (.inr (.inr (0, 25))), some (.inr (.inr (e, 0))), some (.inl (vt_more 1 (M.1 0 32) (M.1 0 33) (M.1 e 5) (M.1 e 7) (M.1 0 31) i)), some (.inl (vt_more 0 (M.1 0 32) (M.1 0 33) (M.1 e 5) (M.1 e 7) (M.1 0 31) i)), some (.inl (i : Int)), z] [] M K := by
  intro k
  have hb := hE.1
  induction k with
  | zero =>
    intro i z hi
    have : i = n := by omega
    subst this
    refine am_go 60 [7, 86] (by decide) ?_
    refine And.intro ⟨⟨(by first | omega | (dsimp only [am_own]; omega)), (by first | omega | (dsimp only [am_own]; omega))⟩, (show am_R (M.1 e 1 4) from ⟨(by first | omega | (dsimp only [am_own]; omega)), (by first | omega | (dsimp only [am_own]; omega))⟩)⟩ (And.intro (fun h => ?_) (fun h => ?_))
    · exfalso
      have h : (i : Int) < M.1 e 1 4 := h
      omega
    · exact hK z
  | succ k ih =>
    intro i z hi
    obtain ⟨u1, u2, u3, u4⟩ := hv.2.2.2 i (by omega)
    have hp := hE.2.1 i (by omega)
    have hs1 : vt_more 1 (M.1 0 32) (M.1 0 33) (M.1 e 5) (M.1 e 7) (M.1 0 31) (i + 1) = vt_more 1 (M.1 0 32) (M.1 0 33) (M.1 e 5) (M.1 e 7) (M.1 0 31) i + (if M.1 0 32 i = 1 ∧ M.1 0 33 i = 1 then M.1 e 5 i * (M.1 e 7 i - M.1 0 31 i) else 0) := rfl
    have hs0 : vt_more 0 (M.1 0 32) (M.1 0 33) (M.1 e 5) (M.1 e 7) (M.1 0 31) (i + 1) = vt_more 0 (M.1 0 32) (M.1 0 33) (M.1 e 5) (M.1 e 7) (M.1 0 31) i + (if M.1 0 32 i = 1 ∧ M.1 0 33 i = 0 then M.1 e 5 i * (M.1 e 7 i - M.1 0 31 i) else 0) := rfl
    refine am_go 60 [7, 86] (by decide) ?_
    refine And.intro ⟨⟨(by first | omega | (dsimp only [am_own]; omega)), (by first | omega | (dsimp only [am_own]; omega))⟩, (show am_R (M.1 e 1 4) from ⟨(by first | omega | (dsimp only [am_own]; omega)), (by first | omega | (dsimp only [am_own]; omega))⟩)⟩ (And.intro (fun h => ?_) (fun h => ?_))
    · refine And.intro ⟨(by first | omega | (dsimp only [am_own]; omega)), (by first | omega | (dsimp only [am_own]; omega))⟩ ?_
      refine And.intro (show am_R (M.1 0 32 i) from ⟨(by first | omega | (dsimp only [am_own]; omega)), (by first | omega | (dsimp only [am_own]; omega))⟩) (And.intro (fun h1 => ?_) (fun h1 => ?_))
      · have h1 : M.1 0 32 i = 0 := h1
        have := ih (i + 1) z (by omega)
        rw [hs1, hs0, if_neg (by omega), if_neg (by omega), Int.add_zero, Int.add_zero] at this
        exact this
      · have h1 : ¬ M.1 0 32 i = 0 := h1
        refine And.intro ⟨(by first | omega | (dsimp only [am_own]; omega)), (by first | omega | (dsimp only [am_own]; omega))⟩ ?_
        refine And.intro ⟨(by first | omega | (dsimp only [am_own]; omega)), (by first | omega | (dsimp only [am_own]; omega))⟩ ?_
        refine And.intro ⟨(by first | omega | (dsimp only [am_own]; omega)), (by first | omega | (dsimp only [am_own]; omega))⟩ ?_
        refine And.intro ⟨(by first | omega | (dsimp only [am_own]; omega)), (by first | omega | (dsimp only [am_own]; omega))⟩ ?_
        refine And.intro (show am_R (M.1 0 33 i) from ⟨(by first | omega | (dsimp only [am_own]; omega)), (by first | omega | (dsimp only [am_own]; omega))⟩) (And.intro (fun h2 => ?_) (fun h2 => ?_))
        · have h2 : M.1 0 33 i = 0 := h2
          have := ih (i + 1) (some (.inl (M.1 e 5 i * (M.1 e 7 i - M.1 0 31 i)))) (by omega)
          rw [hs1, hs0, if_neg (by omega), if_pos (by omega), Int.add_zero] at this
          exact this
        · have h2 : ¬ M.1 0 33 i = 0 := h2
          have := ih (i + 1) (some (.inl (M.1 e 5 i * (M.1 e 7 i - M.1 0 31 i)))) (by omega)
          rw [hs1, hs0, if_pos (by omega), if_neg (by omega), Int.add_zero] at this
          exact this
    · exfalso
      have h : ¬ (i : Int) < M.1 e 1 4 := h
      omega
theorem c_isSettled {Γ : Am_G} {d : Nat} {M : Am_M} {e n mt m : Nat} (hE : wfE M e n mt) (hH : wfH M mt) (hm : m < mt) (hv : vOK M e n m) : am_Ev Γ (d + 2) n_Vote_isSettled [.inr (.inr (0, 25)), .inr (.inr (e, 0))] M (fun r M' => r = some (.inl (vt_setI (M.1 0 19 m) (M.1 0 25 10) (M.1 0 25 11) (M.1 0 32) (M.1 0 33) (M.1 e 5) (M.1 e 7) (M.1 0 31) n)) ∧ M' = M) := by
  have hb := hE.1
  have hbm : ∀ b, 0 ≤ vt_more b (M.1 0 32) (M.1 0 33) (M.1 e 5) (M.1 e 7) (M.1 0 31) n ∧ vt_more b (M.1 0 32) (M.1 0 33) (M.1 e 5) (M.1 e 7) (M.1 0 31) n ≤ n * 891 := fun b => vt_more_b (fun i hi => by
    have h1 := hE.2.1 i hi
    have h2 := (hv.2.2.2 i hi).2.2
    omega)
  have hb0 := hbm 0
  have hb1 := hbm 1
  obtain ⟨v1, v2, v3, v4⟩ := id hv
  have hnd := hH.2.2 m hm
  have hx : M.1 0 19 (M.1 0 25 9).toNat = M.1 0 19 m := by rw [v1]; rfl
  refine am_ev_of (by decide) (am_le rfl) (am_go 60 [7] (by decide) ?_)
  refine c_isSettled_loop (d := d) hE hv (fun z => ?_) n 0 _ (by omega)
  refine am_go 60 [] (by decide) ?_
  refine And.intro (show 0 ≤ M.1 0 25 9 ∧ M.1 0 25 9 < 5 from ⟨(by first | omega | (dsimp only [am_own]; omega)), (by first | omega | (dsimp only [am_own]; omega))⟩) ?_
  have p0 := mul_b (a := M.1 0 19 m) (b := M.1 0 25 10 + (M.1 0 25 11 + vt_more 0 (M.1 0 32) (M.1 0 33) (M.1 e 5) (M.1 e 7) (M.1 0 31) n)) (A := 9) (B := 40000) (by omega) (by omega)
  have p1 := mul_b (a := M.1 0 19 m) (b := M.1 0 25 10 + vt_more 1 (M.1 0 32) (M.1 0 33) (M.1 e 5) (M.1 e 7) (M.1 0 31) n + M.1 0 25 11) (A := 9) (B := 40000) (by omega) (by omega)
  have hc1 := c_isCarried (Γ := Γ) (d := d) (M := M) (M.1 0 19 m) (M.1 0 25 10) (M.1 0 25 11 + vt_more 0 (M.1 0 32) (M.1 0 33) (M.1 e 5) (M.1 e 7) (M.1 0 31) n) ⟨by omega, by omega⟩ ⟨by omega, by omega⟩
  have hc2 := c_isCarried (Γ := Γ) (d := d) (M := M) (M.1 0 19 m) (M.1 0 25 10 + vt_more 1 (M.1 0 32) (M.1 0 33) (M.1 e 5) (M.1 e 7) (M.1 0 31) n) (M.1 0 25 11) ⟨by omega, by omega⟩ ⟨by omega, by omega⟩
  rw [← hx] at hc1 hc2
  refine am_by hc1 (by omega) ?_
  rintro r M1 ⟨rfl, rfl⟩
  unfold vt_setI
  rw [← hx]
  by_cases q1 : M1.1 0 19 (M1.1 0 25 9).toNat * (M1.1 0 25 10 + (M1.1 0 25 11 + vt_more 0 (M1.1 0 32) (M1.1 0 33) (M1.1 e 5) (M1.1 e 7) (M1.1 0 31) n)) < 10 * M1.1 0 25 10
  · rw [if_pos q1, if_pos q1]
    refine And.intro ⟨(by first | omega | (dsimp only [am_own]; omega)), (by first | omega | (dsimp only [am_own]; omega))⟩ (And.intro (fun h => ?_) (fun h => ?_))
    · exact absurd h (by decide)
    · exact ⟨Or.inr rfl, rfl, rfl⟩
  · rw [if_neg q1, if_neg q1]
    refine And.intro ⟨(by first | omega | (dsimp only [am_own]; omega)), (by first | omega | (dsimp only [am_own]; omega))⟩ (And.intro (fun h => ?_) (fun h => ?_))
    · refine am_by hc2 (by omega) ?_
      rintro r M2 ⟨rfl, rfl⟩
      by_cases q2 : M2.1 0 19 (M2.1 0 25 9).toNat * (M2.1 0 25 10 + vt_more 1 (M2.1 0 32) (M2.1 0 33) (M2.1 e 5) (M2.1 e 7) (M2.1 0 31) n + M2.1 0 25 11) < 10 * (M2.1 0 25 10 + vt_more 1 (M2.1 0 32) (M2.1 0 33) (M2.1 e 5) (M2.1 e 7) (M2.1 0 31) n)
      · rw [if_pos q2, if_pos q2]
        refine And.intro ⟨(by first | omega | (dsimp only [am_own]; omega)), (by first | omega | (dsimp only [am_own]; omega))⟩ (And.intro (fun h => ?_) (fun h => ?_))
        · exact absurd h (by decide)
        · exact ⟨Or.inl rfl, rfl, rfl⟩
      · rw [if_neg q2, if_neg q2]
        refine And.intro ⟨(by first | omega | (dsimp only [am_own]; omega)), (by first | omega | (dsimp only [am_own]; omega))⟩ (And.intro (fun h => ?_) (fun h => ?_))
        · exact ⟨Or.inr rfl, rfl, rfl⟩
        · exact absurd rfl h
    · exact absurd rfl h
