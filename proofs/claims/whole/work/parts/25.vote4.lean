/-! the class's vote: lowerArms -/
theorem vt_some_01 (up : Nat → Int) : ∀ n, vt_some up n = 0 ∨ vt_some up n = 1
  | 0 => Or.inl rfl
  | n + 1 => by unfold vt_some; split <;> simp
theorem vt_up_01 (set : Int) (w kd held up : Nat → Int) (i : Nat) : vt_up set w kd held up i = 0 ∨ vt_up set w kd held up i = 1 := by unfold vt_up; split <;> simp
def laI (M : Am_M) (e i : Nat) (M1 : Am_M) : Prop := am_same (fun _ p => p = 32) M M1 ∧ (∀ j, j < i → M1.1 0 32 j = vt_up (M.1 0 25 13) (M.1 0 30) (M.1 e 2) (M.1 0 31) (M.1 0 32) j) ∧ ∀ j, i ≤ j → M1.1 0 32 j = M.1 0 32 j
theorem laI_step {M M1 : Am_M} {e i : Nat} (h : laI M e i M1) : laI M e (i + 1) (am_set M1 0 32 i (vt_up (M.1 0 25 13) (M.1 0 30) (M.1 e 2) (M.1 0 31) (M.1 0 32) i)) := by
  refine ⟨h.1.set rfl, fun j hj => ?_, fun j hj => ?_⟩
  · by_cases hji : j = i
    · subst hji; exact set_eq
    · rw [set_k hji]; exact h.2.1 j (by omega)
  · rw [set_k (by omega)]; exact h.2.2 j (by omega)
theorem c_lowerArms_loop {Γ : Am_G} {d : Nat} {M : Am_M} {e n mt m : Nat} {K : Option Am_V → Am_M → Prop} (hE : wfE M e n mt) (hv : vOK M e n m) (hw : ∀ j, j < n → 0 ≤ M.1 0 30 j ∧ M.1 0 30 j ≤ 99) (hset : -1 ≤ M.1 0 25 13 ∧ M.1 0 25 13 ≤ 200) (hK : ∀ M1, laI M e n M1 → K (some (.inl (vt_some (vt_up (M.1 0 25 13) (M.1 0 30) (M.1 e 2) (M.1 0 31) (M.1 0 32)) n))) M1) : ∀ (k i : Nat) (z : Option Am_V) (M1 : Am_M), i + k = n → laI M e i M1 → am_At Γ (d + 2) n_Vote_lowerArms 4 [some (.inr (.inr (0, 25))), some (.inr (.inr (e, 1))), some (.inl (vt_some (vt_up (M.1 0 25 13) (M.1 0 30) (M.1 e 2) (M.1 0 31) (M.1 0 32)) i)), some (.inl (i : Int)), z] [] M1 K := by
  intro k
  have hb := hE.1
  induction k with
  | zero =>
    intro i z M1 hi hI
    have : i = n := by omega
    subst this
    have hn : M1.1 e 1 4 = i := (hI.1.2 e 1 4 (by omega)).trans hb.1
    refine am_go 60 [4] (by decide) ?_
    refine And.intro ⟨⟨(by first | omega | (dsimp only [am_own]; omega)), (by first | omega | (dsimp only [am_own]; omega))⟩, (show am_R (M1.1 e 1 4) from ⟨(by first | omega | (dsimp only [am_own]; omega)), (by first | omega | (dsimp only [am_own]; omega))⟩)⟩ (And.intro (fun h => ?_) (fun h => ?_))
    · exfalso
      have h : (i : Int) < M1.1 e 1 4 := h
      omega
    · exact And.intro (vt_some_01 _ _) (hK M1 hI)
  | succ k ih =>
    intro i z M1 hi hI
    have hn : M1.1 e 1 4 = n := (hI.1.2 e 1 4 (by omega)).trans hb.1
    obtain ⟨u1, u2, u3, u4⟩ := hv.2.2.2 i (by omega)
    have hp := hE.2.1 i (by omega)
    have hwi := hw i (by omega)
    have e32 : M1.1 0 32 i = M.1 0 32 i := hI.2.2 i (by omega)
    have e31 : M1.1 0 31 i = M.1 0 31 i := hI.1.2 0 31 i (by omega)
    have e30 : M1.1 0 30 i = M.1 0 30 i := hI.1.2 0 30 i (by omega)
    have ekd : M1.1 e 2 i = M.1 e 2 i := hI.1.2 e 2 i (by omega)
    have est : M1.1 0 25 13 = M.1 0 25 13 := hI.1.2 0 25 13 (by omega)
    generalize hup : vt_up (M.1 0 25 13) (M.1 0 30) (M.1 e 2) (M.1 0 31) (M.1 0 32) = up' at *
    have hupi : up' i = (if M.1 0 32 i = 1 ∧ M.1 0 31 i < M.1 0 30 i ∧ ¬ (M.1 0 25 13 ≠ -1 ∧ M.1 e 2 i = 1) then 1 else 0) := by rw [← hup]; rfl
    have hst := laI_step hI
    rw [hup] at hst
    have hsome : vt_some up' (i + 1) = if vt_some up' i = 1 ∨ up' i = 1 then 1 else 0 := rfl
    have s01 := vt_some_01 up' i
    have u01 : up' i = 0 ∨ up' i = 1 := by rw [← hup]; exact vt_up_01 _ _ _ _ _ _
    have fin : ∀ (v : Int) (z : Option Am_V) (s0 : Option Am_V) (M2 : Am_M), v = vt_some up' (i + 1) → laI M e (i + 1) M2 → am_At Γ (d + 2) n_Vote_lowerArms 101 [some (.inr (.inr (0, 25))), some (.inr (.inr (e, 1))), s0, some (.inl (i : Int)), z] [.inl v] M2 K := by
      intro v z s0 M2 hv2 hI2
      refine am_go 60 [4] (by decide) ?_
      rw [hv2]
      exact ih (i + 1) z M2 (by omega) hI2
    have st82 : ∀ (b : Int) (z : Option Am_V), b = up' i → am_At Γ (d + 2) n_Vote_lowerArms 82 [some (.inr (.inr (0, 25))), some (.inr (.inr (e, 1))), some (.inl (vt_some up' i)), some (.inl (i : Int)), z] [.inl b, .inl (i : Int), .inr (.inr (0, 32))] M1 K := by
      intro b z hbu
      subst hbu
      refine am_go 60 [4, 101] (by decide) ?_
      refine And.intro ⟨⟨(by first | omega | (dsimp only [am_own]; omega)), (by first | omega | (dsimp only [am_own]; omega))⟩, u01⟩ ?_
      refine And.intro (show am_R (vt_some up' i) from ⟨(by first | omega | (dsimp only [am_own]; omega)), (by first | omega | (dsimp only [am_own]; omega))⟩) (And.intro (fun h1 => ?_) (fun h1 => ?_))
      · have h1 : vt_some up' i = 0 := h1
        refine And.intro ⟨(by first | omega | (dsimp only [am_own]; omega)), (by first | omega | (dsimp only [am_own]; omega))⟩ ?_
        have hx : (am_set M1 0 32 i (up' i)).1 0 32 i = up' i := set_eq
        refine And.intro (am_Re hx ⟨(by first | omega | (dsimp only [am_own]; omega)), (by first | omega | (dsimp only [am_own]; omega))⟩) (And.intro (fun h2 => ?_) (fun h2 => ?_))
        · have h2 : (am_set M1 0 32 i (up' i)).1 0 32 i = 0 := h2
          rw [hx] at h2
          exact fin 0 z _ _ (by rw [hsome, if_neg (by omega)]) hst
        · have h2 : ¬ (am_set M1 0 32 i (up' i)).1 0 32 i = 0 := h2
          rw [hx] at h2
          exact fin 1 z _ _ (by rw [hsome, if_pos (by omega)]) hst
      · have h1 : ¬ vt_some up' i = 0 := h1
        exact fin 1 z _ _ (by rw [hsome, if_pos (by omega)]) hst
    have st50 : ∀ (lw : Int) (z : Option Am_V), M.1 0 32 i = 1 → lw = (if M.1 0 25 13 ≠ -1 ∧ M.1 e 2 i = 1 then 1 else 0) → am_At Γ (d + 2) n_Vote_lowerArms 50 [some (.inr (.inr (0, 25))), some (.inr (.inr (e, 1))), some (.inl (vt_some up' i)), some (.inl (i : Int)), z] [.inl lw] M1 K := by
      intro lw z h1 hlw
      have l01 : lw = 0 ∨ lw = 1 := by rw [hlw]; split <;> simp
      refine am_go 60 [4, 82] (by decide) ?_
      refine And.intro ⟨(by first | omega | (dsimp only [am_own]; omega)), (by first | omega | (dsimp only [am_own]; omega))⟩ ?_
      refine And.intro ⟨(by first | omega | (dsimp only [am_own]; omega)), (by first | omega | (dsimp only [am_own]; omega))⟩ ?_
      refine And.intro ⟨(show am_R (M1.1 0 31 i) from ⟨(by first | omega | (dsimp only [am_own]; omega)), (by first | omega | (dsimp only [am_own]; omega))⟩), (show am_R (M1.1 0 30 i) from ⟨(by first | omega | (dsimp only [am_own]; omega)), (by first | omega | (dsimp only [am_own]; omega))⟩)⟩ (And.intro (fun h2 => ?_) (fun h2 => ?_))
      · have h2 : M1.1 0 31 i < M1.1 0 30 i := h2
        refine And.intro ⟨(by first | omega | (dsimp only [am_own]; omega)), (by first | omega | (dsimp only [am_own]; omega))⟩ (And.intro (fun h3 => ?_) (fun h3 => ?_))
        · refine st82 1 _ ?_
          rw [hupi, if_pos]
          refine ⟨h1, by omega, fun q => ?_⟩
          rw [if_pos q] at hlw
          omega
        · refine st82 0 _ ?_
          rw [hupi, if_neg]
          rintro ⟨-, -, q⟩
          rw [if_neg q] at hlw
          exact h3 hlw
      · have h2 : ¬ M1.1 0 31 i < M1.1 0 30 i := h2
        refine st82 0 _ ?_
        rw [hupi, if_neg]
        rintro ⟨-, q, -⟩
        omega
    refine am_go 60 [4, 50] (by decide) ?_
    refine And.intro ⟨⟨(by first | omega | (dsimp only [am_own]; omega)), (by first | omega | (dsimp only [am_own]; omega))⟩, (show am_R (M1.1 e 1 4) from ⟨(by first | omega | (dsimp only [am_own]; omega)), (by first | omega | (dsimp only [am_own]; omega))⟩)⟩ (And.intro (fun h => ?_) (fun h => ?_))
    · refine And.intro ⟨(by first | omega | (dsimp only [am_own]; omega)), (by first | omega | (dsimp only [am_own]; omega))⟩ ?_
      refine And.intro (show am_R (M1.1 0 32 i) from ⟨(by first | omega | (dsimp only [am_own]; omega)), (by first | omega | (dsimp only [am_own]; omega))⟩) (And.intro (fun h1 => ?_) (fun h1 => ?_))
      · have h1 : M1.1 0 32 i = 0 := h1
        have hu0 : up' i = 0 := by rw [hupi, if_neg (by omega)]
        have hI2 : laI M e (i + 1) M1 := by
          refine ⟨hI.1, fun j hj => ?_, fun j hj => hI.2.2 j (by omega)⟩
          by_cases hji : j = i
          · subst hji; rw [hup, hu0]; exact h1
          · exact hI.2.1 j (by omega)
        have := ih (i + 1) z M1 (by omega) hI2
        rw [hsome] at this
        have hs : (if vt_some up' i = 1 ∨ up' i = 1 then 1 else 0 : Int) = vt_some up' i := by
          rcases s01 with q | q
          · rw [q, if_neg (by omega)]
          · rw [q, if_pos (Or.inl rfl)]
        rw [hs] at this
        exact this
      · have h1 : ¬ M1.1 0 32 i = 0 := h1
        refine And.intro ⟨(show am_R (M1.1 0 25 13) from ⟨(by first | omega | (dsimp only [am_own]; omega)), (by first | omega | (dsimp only [am_own]; omega))⟩), ⟨(by first | omega | (dsimp only [am_own]; omega)), (by first | omega | (dsimp only [am_own]; omega))⟩⟩ (And.intro (fun h2 => ?_) (fun h2 => ?_))
        · have h2 : M1.1 0 25 13 = -1 := h2
          refine st50 0 _ (by omega) ?_
          rw [if_neg (by omega)]
        · have h2 : ¬ M1.1 0 25 13 = -1 := h2
          refine And.intro ⟨(by first | omega | (dsimp only [am_own]; omega)), (by first | omega | (dsimp only [am_own]; omega))⟩ ?_
          obtain ⟨kk, hk0⟩ : ∃ kk : Nat, M1.1 e 2 i = kk := ⟨(M1.1 e 2 i).toNat, by omega⟩
          have hvo := c_voterOf (Γ := Γ) (d := d) (M := M1) (k := kk) (by omega)
          rw [← hk0] at hvo
          refine am_by hvo (by omega) ?_
          rintro r M2 ⟨rfl, rfl⟩
          refine am_lowers (k := kk) (by omega) (am_le rfl) ?_
          refine am_go 60 [4, 50] (by decide) ?_
          by_cases q : kk = 1
          · rw [if_pos q]
            refine And.intro ⟨(by first | omega | (dsimp only [am_own]; omega)), (by first | omega | (dsimp only [am_own]; omega))⟩ (And.intro (fun h3 => ?_) (fun h3 => ?_))
            · exact absurd h3 (by decide)
            · refine st50 1 _ (by omega) ?_
              rw [if_pos (by omega)]
          · rw [if_neg q]
            refine And.intro ⟨(by first | omega | (dsimp only [am_own]; omega)), (by first | omega | (dsimp only [am_own]; omega))⟩ (And.intro (fun h3 => ?_) (fun h3 => ?_))
            · refine st50 0 _ (by omega) ?_
              rw [if_neg (by omega)]
            · exact absurd rfl h3
    · exfalso
      have h : ¬ (i : Int) < M1.1 e 1 4 := h
      omega
theorem c_lowerArms {Γ : Am_G} {d : Nat} {M : Am_M} {e n mt m : Nat} (hE : wfE M e n mt) (hv : vOK M e n m) (hw : ∀ j, j < n → 0 ≤ M.1 0 30 j ∧ M.1 0 30 j ≤ 99) (hset : -1 ≤ M.1 0 25 13 ∧ M.1 0 25 13 ≤ 200) : am_Ev Γ (d + 2) n_Vote_lowerArms [.inr (.inr (0, 25)), .inr (.inr (e, 1))] M (fun r M' => r = some (.inl (vt_some (vt_up (M.1 0 25 13) (M.1 0 30) (M.1 e 2) (M.1 0 31) (M.1 0 32)) n)) ∧ laI M e n M') := by
  refine am_ev_of (by decide) (am_le rfl) (am_go 60 [4] (by decide) ?_)
  exact c_lowerArms_loop hE hv hw hset (fun M1 h => ⟨rfl, h⟩) n 0 _ M (by omega) ⟨am_same.rf, fun j hj => absurd hj (by omega), fun j _ => rfl⟩
