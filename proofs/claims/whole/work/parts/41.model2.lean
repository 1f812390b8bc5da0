/-! the reference: isSettled -/
def mfor (M : Am_M) (m i : Nat) : Int := if 0 < M.1 0 44 (i * 5 + m) then 1 else 0
def mct (M : Am_M) (i : Nat) : Int := M.1 0 42 (i * 4 + 3)
def mlf (M : Am_M) (i : Nat) : Int := M.1 0 47 (6 + i)
/-- the reference's cells in a vote on m -/
def mOK (M : Am_M) (n m : Nat) : Prop := (0 ≤ M.1 0 41 24 ∧ M.1 0 41 24 ≤ 9999) ∧ (0 ≤ M.1 0 41 25 ∧ M.1 0 41 25 ≤ 9999) ∧ ∀ j, j < n → (M.1 0 54 j = 0 ∨ M.1 0 54 j = 1) ∧ (M.1 0 54 j = 1 → M.1 0 44 (j * 5 + m) ≠ 0) ∧ 0 ≤ M.1 0 53 j ∧ M.1 0 53 j ≤ mlf M j
theorem c_M_isSettled_loop {Γ : Am_G} {d : Nat} {M : Am_M} {n mt m : Nat} {K : Option Am_V → Am_M → Prop} (hM : wfM M n mt) (hm : m < mt) (hv : mOK M n m) (hK : ∀ z : Option Am_V, am_At Γ (d + 2) n_M_isSettled 114 [some (.inr (.inr (0, 41))), some (.inl (m : Int)), some (.inl (vt_more 1 (M.1 0 54) (mfor M m) (mct M) (mlf M) (M.1 0 53) n)), some (.inl (vt_more 0 (M.1 0 54) (mfor M m) (mct M) (mlf M) (M.1 0 53) n)), some (.inl (n : Int)), z] [] M K) : ∀ (k i : Nat) (z : Option Am_V), i + k = n → am_At Γ (d + 2) n_M_isSettled 7 [some (.inr (.inr (0, 41))), some (.inl (m : Int)), some (.inl (vt_more 1 (M.1 0 54) (mfor M m) (mct M) (mlf M) (M.1 0 53) i)), some (.inl (vt_more 0 (M.1 0 54) (mfor M m) (mct M) (mlf M) (M.1 0 53) i)), some (.inl (i : Int)), z] [] M K := by
  intro k
  obtain ⟨⟨n1, n2, n3, n4⟩, n5, n6, n7, n8, n9, n10, n11⟩ := id hM
  induction k with
  | zero =>
    intro i z hi
    have : i = n := by omega
    subst this
    refine am_go 60 [7, 114] (by decide) ?_
    refine And.intro ⟨⟨(by first | omega | (dsimp only [am_own]; omega)), (by first | omega | (dsimp only [am_own]; omega))⟩, (show am_R (M.1 0 41 0) from ⟨(by first | omega | (dsimp only [am_own]; omega)), (by first | omega | (dsimp only [am_own]; omega))⟩)⟩ (And.intro (fun h => ?_) (fun h => ?_))
    · exfalso
      have h : (i : Int) < M.1 0 41 0 := h
      omega
    · exact hK z
  | succ k ih =>
    intro i z hi
    obtain ⟨u1, u2, u3, u4⟩ := hv.2.2 i (by omega)
    have hp := n6 i (by omega)
    have hw := n8 i m (by omega) hm
    have e44 : M.1 0 44 (5 * (i : Int) + (m : Int)).toNat = M.1 0 44 (i * 5 + m) := congrArg _ (by omega)
    have e42 : M.1 0 42 (4 * (i : Int) + 3).toNat = mct M i := congrArg (M.1 0 42) (by omega)
    have e6 : M.1 0 47 (6 + (i : Int)).toNat = mlf M i := congrArg (M.1 0 47) (by omega)
    have hs1 : vt_more 1 (M.1 0 54) (mfor M m) (mct M) (mlf M) (M.1 0 53) (i + 1) = vt_more 1 (M.1 0 54) (mfor M m) (mct M) (mlf M) (M.1 0 53) i + (if M.1 0 54 i = 1 ∧ mfor M m i = 1 then mct M i * (mlf M i - M.1 0 53 i) else 0) := rfl
    have hs0 : vt_more 0 (M.1 0 54) (mfor M m) (mct M) (mlf M) (M.1 0 53) (i + 1) = vt_more 0 (M.1 0 54) (mfor M m) (mct M) (mlf M) (M.1 0 53) i + (if M.1 0 54 i = 1 ∧ mfor M m i = 0 then mct M i * (mlf M i - M.1 0 53 i) else 0) := rfl
    have hf : mfor M m i = if 0 < M.1 0 44 (i * 5 + m) then 1 else 0 := rfl
    have st60 : ∀ (al : Int), al = (if M.1 0 54 i = 1 then mct M i * (mlf M i - M.1 0 53 i) else 0) → am_At Γ (d + 2) n_M_isSettled 60 [some (.inr (.inr (0, 41))), some (.inl (m : Int)), some (.inl (vt_more 1 (M.1 0 54) (mfor M m) (mct M) (mlf M) (M.1 0 53) i)), some (.inl (vt_more 0 (M.1 0 54) (mfor M m) (mct M) (mlf M) (M.1 0 53) i)), some (.inl (i : Int)), z] [.inl al] M K := by
      intro al hal
      have go := ih (i + 1) (some (.inl al)) (by omega)
      rw [hs1, hs0] at go
      refine am_go 60 [7] (by decide) ?_
      refine And.intro ⟨(by first | omega | (dsimp only [am_own]; omega)), (by first | omega | (dsimp only [am_own]; omega))⟩ ?_
      refine And.intro (am_Re e44 ⟨(by first | omega | (dsimp only [am_own]; omega)), (by first | omega | (dsimp only [am_own]; omega))⟩) (And.intro (fun h1 => ?_) (fun h1 => ?_))
      · have h1 : 0 < M.1 0 44 (5 * (i : Int) + (m : Int)).toNat := h1
        rw [e44] at h1
        rw [if_pos h1] at hf
        refine And.intro ⟨(by first | omega | (dsimp only [am_own]; omega)), (by first | omega | (dsimp only [am_own]; omega))⟩ ?_
        refine And.intro (am_Re e44 ⟨(by first | omega | (dsimp only [am_own]; omega)), (by first | omega | (dsimp only [am_own]; omega))⟩) (And.intro (fun h2 => ?_) (fun h2 => ?_))
        · have h2 : M.1 0 44 (5 * (i : Int) + (m : Int)).toNat < 0 := h2
          rw [e44] at h2
          exfalso; omega
        · rw [if_neg (c := M.1 0 54 i = 1 ∧ mfor M m i = 0) (by omega)] at go
          have hx : (if M.1 0 54 i = 1 ∧ mfor M m i = 1 then mct M i * (mlf M i - M.1 0 53 i) else 0) = al := by
            rw [hal]
            by_cases q : M.1 0 54 i = 1
            · rw [if_pos ⟨q, hf⟩, if_pos q]
            · rw [if_neg (fun z => q z.1), if_neg q]
          rw [hx] at go
          exact go
      · have h1 : ¬ 0 < M.1 0 44 (5 * (i : Int) + (m : Int)).toNat := h1
        rw [e44] at h1
        rw [if_neg h1] at hf
        rw [if_neg (c := M.1 0 54 i = 1 ∧ mfor M m i = 1) (by omega)] at go
        refine And.intro ⟨(by first | omega | (dsimp only [am_own]; omega)), (by first | omega | (dsimp only [am_own]; omega))⟩ ?_
        refine And.intro (am_Re e44 ⟨(by first | omega | (dsimp only [am_own]; omega)), (by first | omega | (dsimp only [am_own]; omega))⟩) (And.intro (fun h2 => ?_) (fun h2 => ?_))
        · have hx : (if M.1 0 54 i = 1 ∧ mfor M m i = 0 then mct M i * (mlf M i - M.1 0 53 i) else 0) = al := by
            rw [hal]
            by_cases q : M.1 0 54 i = 1
            · rw [if_pos ⟨q, hf⟩, if_pos q]
            · rw [if_neg (fun z => q z.1), if_neg q]
          rw [hx] at go
          exact go
        · have h2 : ¬ M.1 0 44 (5 * (i : Int) + (m : Int)).toNat < 0 := h2
          rw [e44] at h2
          have h0 : M.1 0 54 i = 0 := by
            rcases u1 with q | q
            · exact q
            · exact absurd (show M.1 0 44 (i * 5 + m) = 0 by omega) (u2 q)
          rw [if_neg (c := M.1 0 54 i = 1 ∧ mfor M m i = 0) (by omega)] at go
          rw [if_neg (by omega)] at hal
          rw [hal] at go
          rw [hal]
          exact go
    refine am_go 60 [7, 60, 114] (by decide) ?_
    refine And.intro ⟨⟨(by first | omega | (dsimp only [am_own]; omega)), (by first | omega | (dsimp only [am_own]; omega))⟩, (show am_R (M.1 0 41 0) from ⟨(by first | omega | (dsimp only [am_own]; omega)), (by first | omega | (dsimp only [am_own]; omega))⟩)⟩ (And.intro (fun h => ?_) (fun h => ?_))
    · refine And.intro ⟨(by first | omega | (dsimp only [am_own]; omega)), (by first | omega | (dsimp only [am_own]; omega))⟩ ?_
      refine And.intro (show am_R (M.1 0 54 i) from ⟨(by first | omega | (dsimp only [am_own]; omega)), (by first | omega | (dsimp only [am_own]; omega))⟩) (And.intro (fun h1 => ?_) (fun h1 => ?_))
      · have h1 : M.1 0 54 i = 0 := h1
        exact st60 0 (by rw [if_neg (by omega)])
      · have h1 : ¬ M.1 0 54 i = 0 := h1
        refine And.intro ⟨(by first | omega | (dsimp only [am_own]; omega)), (by first | omega | (dsimp only [am_own]; omega))⟩ ?_
        refine And.intro ⟨(by first | omega | (dsimp only [am_own]; omega)), (by first | omega | (dsimp only [am_own]; omega))⟩ ?_
        refine And.intro ⟨(by first | omega | (dsimp only [am_own]; omega)), (by first | omega | (dsimp only [am_own]; omega))⟩ ?_
        refine st60 _ ?_
        rw [if_pos (by omega), ← e42, ← e6]
        rfl
    · exfalso
      have h : ¬ (i : Int) < M.1 0 41 0 := h
      omega
theorem c_M_isSettled {Γ : Am_G} {d : Nat} {M : Am_M} {n mt m : Nat} (y : Int) (hM : wfM M n mt) (hm : m < mt) (hv : mOK M n m) (hy : y = m) : am_Ev Γ (d + 2) n_M_isSettled [.inr (.inr (0, 41)), .inl y] M (fun r M' => r = some (.inl (vt_setI (M.1 0 43 m) (M.1 0 41 24) (M.1 0 41 25) (M.1 0 54) (mfor M m) (mct M) (mlf M) (M.1 0 53) n)) ∧ M' = M) := by
  subst hy
  obtain ⟨⟨n1, n2, n3, n4⟩, n5, n6, n7, n8, n9, n10, n11⟩ := id hM
  have hbm : ∀ b, 0 ≤ vt_more b (M.1 0 54) (mfor M m) (mct M) (mlf M) (M.1 0 53) n ∧ vt_more b (M.1 0 54) (mfor M m) (mct M) (mlf M) (M.1 0 53) n ≤ n * 891 := fun b => vt_more_b (fun i hi => by
    have h1 := n6 i hi
    have h2 := (hv.2.2 i hi).2.2
    have h3 : mlf M i = M.1 0 47 (6 + i) := rfl
    have h4 : mct M i = M.1 0 42 (i * 4 + 3) := rfl
    omega)
  have hb0 := hbm 0
  have hb1 := hbm 1
  obtain ⟨v2, v3, v4⟩ := id hv
  have hnd := n7 m hm
  refine am_ev_of (by decide) (am_le rfl) (am_go 60 [7] (by decide) ?_)
  refine c_M_isSettled_loop (d := d) hM hm hv (fun z => ?_) n 0 _ (by omega)
  refine am_go 60 [] (by decide) ?_
  have p0 := mul_b (a := M.1 0 43 m) (b := M.1 0 41 24 + (M.1 0 41 25 + vt_more 0 (M.1 0 54) (mfor M m) (mct M) (mlf M) (M.1 0 53) n)) (A := 9) (B := 40000) (by omega) (by omega)
  have p1 := mul_b (a := M.1 0 43 m) (b := M.1 0 41 24 + vt_more 1 (M.1 0 54) (mfor M m) (mct M) (mlf M) (M.1 0 53) n + M.1 0 41 25) (A := 9) (B := 40000) (by omega) (by omega)
  refine am_by (c_M_isCarried (d := d) (m := m) (m : Int) (M.1 0 41 24) (M.1 0 41 25 + vt_more 0 (M.1 0 54) (mfor M m) (mct M) (mlf M) (M.1 0 53) n) rfl (by omega) ⟨by omega, by omega⟩ ⟨by omega, by omega⟩) (by omega) ?_
  rintro r M1 ⟨rfl, rfl⟩
  unfold vt_setI
  have hc1 : vt_carI (M1.1 0 43 m) (M1.1 0 41 24) (M1.1 0 41 25 + vt_more 0 (M1.1 0 54) (mfor M1 m) (mct M1) (mlf M1) (M1.1 0 53) n) = if M1.1 0 43 m * (M1.1 0 41 24 + (M1.1 0 41 25 + vt_more 0 (M1.1 0 54) (mfor M1 m) (mct M1) (mlf M1) (M1.1 0 53) n)) < 10 * M1.1 0 41 24 then 1 else 0 := rfl
  by_cases q1 : M1.1 0 43 m * (M1.1 0 41 24 + (M1.1 0 41 25 + vt_more 0 (M1.1 0 54) (mfor M1 m) (mct M1) (mlf M1) (M1.1 0 53) n)) < 10 * M1.1 0 41 24
  · rw [if_pos q1] at hc1
    rw [if_pos q1, hc1]
    refine And.intro ⟨(by first | omega | (dsimp only [am_own]; omega)), (by first | omega | (dsimp only [am_own]; omega))⟩ (And.intro (fun h => ?_) (fun h => ?_))
    · exact absurd h (by decide)
    · exact ⟨Or.inr rfl, rfl, rfl⟩
  · rw [if_neg q1] at hc1
    rw [if_neg q1, hc1]
    refine And.intro ⟨(by first | omega | (dsimp only [am_own]; omega)), (by first | omega | (dsimp only [am_own]; omega))⟩ (And.intro (fun h => ?_) (fun h => ?_))
    · refine am_by (c_M_isCarried (d := d) (m := m) (m : Int) (M1.1 0 41 24 + vt_more 1 (M1.1 0 54) (mfor M1 m) (mct M1) (mlf M1) (M1.1 0 53) n) (M1.1 0 41 25) rfl (by omega) ⟨by omega, by omega⟩ ⟨by omega, by omega⟩) (by omega) ?_
      rintro r M2 ⟨rfl, rfl⟩
      have hc2 : vt_carI (M2.1 0 43 m) (M2.1 0 41 24 + vt_more 1 (M2.1 0 54) (mfor M2 m) (mct M2) (mlf M2) (M2.1 0 53) n) (M2.1 0 41 25) = if M2.1 0 43 m * (M2.1 0 41 24 + vt_more 1 (M2.1 0 54) (mfor M2 m) (mct M2) (mlf M2) (M2.1 0 53) n + M2.1 0 41 25) < 10 * (M2.1 0 41 24 + vt_more 1 (M2.1 0 54) (mfor M2 m) (mct M2) (mlf M2) (M2.1 0 53) n) then 1 else 0 := rfl
      by_cases q2 : M2.1 0 43 m * (M2.1 0 41 24 + vt_more 1 (M2.1 0 54) (mfor M2 m) (mct M2) (mlf M2) (M2.1 0 53) n + M2.1 0 41 25) < 10 * (M2.1 0 41 24 + vt_more 1 (M2.1 0 54) (mfor M2 m) (mct M2) (mlf M2) (M2.1 0 53) n)
      · rw [if_pos q2] at hc2
        rw [if_pos q2, hc2]
        refine And.intro ⟨(by first | omega | (dsimp only [am_own]; omega)), (by first | omega | (dsimp only [am_own]; omega))⟩ (And.intro (fun h => ?_) (fun h => ?_))
        · exact absurd h (by decide)
        · exact ⟨Or.inl rfl, rfl, rfl⟩
      · rw [if_neg q2] at hc2
        rw [if_neg q2, hc2]
        refine And.intro ⟨(by first | omega | (dsimp only [am_own]; omega)), (by first | omega | (dsimp only [am_own]; omega))⟩ (And.intro (fun h => ?_) (fun h => ?_))
        · exact ⟨Or.inr rfl, rfl, rfl⟩
        · exact absurd rfl h
    · exact absurd rfl h
