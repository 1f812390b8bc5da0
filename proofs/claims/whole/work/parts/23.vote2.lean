/-! the class's vote: begin -/
theorem am_Re {x y : Int} (h : x = y) (hy : am_R y) : am_R x := h ▸ hy
def wfE (M : Am_M) (e n mt : Nat) : Prop := (M.1 e 1 4 = n ∧ n ≤ 6 ∧ M.1 e 0 6 = mt ∧ mt ≤ 5) ∧
  (∀ i, i < n → (0 ≤ M.1 e 2 i ∧ M.1 e 2 i ≤ 3) ∧ (0 ≤ M.1 e 3 i ∧ M.1 e 3 i ≤ 99) ∧ (0 ≤ M.1 e 4 i ∧ M.1 e 4 i ≤ 9) ∧ (1 ≤ M.1 e 5 i ∧ M.1 e 5 i ≤ 9) ∧ (0 ≤ M.1 e 7 i ∧ M.1 e 7 i ≤ 99)) ∧
  (∀ k, k < mt → 0 ≤ M.1 e 6 k ∧ M.1 e 6 k < mt) ∧ (∀ i m, i < n → m < mt → 0 ≤ M.1 e 8 (i * 5 + m) ∧ M.1 e 8 (i * 5 + m) ≤ 99)
def wfH (M : Am_M) (mt : Nat) : Prop := (1 ≤ M.1 0 18 4 ∧ M.1 0 18 4 ≤ 9) ∧ (∀ k, k < 30 → -9 ≤ M.1 0 20 k ∧ M.1 0 20 k ≤ 9) ∧ (∀ k, k < mt → 1 ≤ M.1 0 19 k ∧ M.1 0 19 k ≤ 9)
/-- the vote's own cells -/
def vS (_ p : Nat) : Prop := p = 25 ∨ (30 ≤ p ∧ p ≤ 33)
theorem c_wantedN {Γ : Am_G} {d : Nat} {M : Am_M} {e i m n mt : Nat} {y : Int} (hE : wfE M e n mt) (hH : wfH M mt) (hi : i < n) (hm : m < mt) (hy : y = m) :
    am_Ev Γ (d + 3) n_Vote_wanted [.inr (.inr (0, 25)), .inr (.inr (e, 0)), .inl (i : Int), .inl y] M (fun r M' => r = some (.inl (vt_want (M.1 0 18 4) (M.1 0 20 (i * 5 + m)) (M.1 e 7 i) (M.1 e 2 i) (M.1 e 8 (i * 5 + m)))) ∧ M' = M) := by
  subst hy
  obtain ⟨⟨h1, h2, h3, h4⟩, h5, h6, h7⟩ := hE
  obtain ⟨g1, g2, g3⟩ := hH
  have e1 : ((i : Int) * 5 + (m : Int)).toNat = i * 5 + m := by omega
  have h := c_wanted (Γ := Γ) (d := d) (M := M) (e := e) (x := (i : Int)) (y := (m : Int)) (by omega) (by omega) (by rw [Int.toNat_natCast]; exact (h5 i hi).1) (by rw [e1]; exact g2 _ (by omega)) g1 (by rw [Int.toNat_natCast]; exact (h5 i hi).2.2.2.2) (by rw [e1]; exact h7 i m hi hm)
  rw [Int.toNat_natCast, e1] at h
  exact h
theorem c_worthToN {Γ : Am_G} {d : Nat} {M : Am_M} {i m : Nat} {y : Int} (hi : i < 6) (hm : m < 5) (hy : y = m) : am_Ev Γ (d + 2) n_Hall_worthTo [.inr (.inr (0, 18)), .inl (i : Int), .inl y] M (fun r M' => r = some (.inl (M.1 0 20 (i * 5 + m))) ∧ M' = M) := by
  subst hy
  have e1 : ((i : Int) * 5 + (m : Int)).toNat = i * 5 + m := by omega
  have h := c_worthTo (Γ := Γ) (d := d) (M := M) (i : Int) (m : Int) (by omega)
  rw [e1] at h
  exact h
/-- how long one wants to hold of matter m, in evening e -/
def wantOf (M : Am_M) (e m i : Nat) : Int := vt_want (M.1 0 18 4) (M.1 0 20 (i * 5 + m)) (M.1 e 7 i) (M.1 e 2 i) (M.1 e 8 (i * 5 + m))
def forOf (M : Am_M) (m i : Nat) : Int := if 0 < M.1 0 20 (i * 5 + m) then 1 else 0
theorem vt_want_b {hold wo left kd told : Int} (h1 : 1 ≤ hold ∧ hold ≤ 9) (h2 : -9 ≤ wo ∧ wo ≤ 9) (h3 : 0 ≤ left ∧ left ≤ 99) (h4 : 0 ≤ told ∧ told ≤ 99) : 0 ≤ vt_want hold wo left kd told ∧ vt_want hold wo left kd told ≤ left := by
  have hb := mul_b (a := hold) (b := if 0 ≤ wo then wo else 0 - wo) (A := 9) (B := 9) (by omega) (by split <;> omega)
  unfold vt_want
  generalize hold * (if 0 ≤ wo then wo else 0 - wo) = z at hb ⊢
  by_cases h0 : wo = 0
  · rw [if_pos h0]; omega
  · rw [if_neg h0]
    by_cases hk : kd < 2
    · rw [if_pos hk]; split <;> omega
    · rw [if_neg hk]
      by_cases hk2 : kd = 2
      · rw [if_pos hk2]; split <;> omega
      · rw [if_neg hk2]; split <;> omega
theorem wantOf_b {M : Am_M} {e n mt m i : Nat} (hE : wfE M e n mt) (hH : wfH M mt) (hi : i < n) (hm : m < mt) : 0 ≤ wantOf M e m i ∧ wantOf M e m i ≤ M.1 e 7 i := by
  obtain ⟨⟨h1, h2, h3, h4⟩, h5, h6, h7⟩ := hE
  exact vt_want_b hH.1 (hH.2.1 _ (by omega)) (h5 i hi).2.2.2.2 (h7 i m hi hm)
def vbI (M : Am_M) (e m i : Nat) (M1 : Am_M) : Prop := am_same vS M M1 ∧ (M1.1 0 25 9 = m ∧ M1.1 0 25 10 = 0 ∧ M1.1 0 25 11 = 0 ∧ M1.1 0 25 12 = 0 ∧ M1.1 0 25 13 = -1) ∧ ∀ j, j < i → M1.1 0 30 j = wantOf M e m j ∧ M1.1 0 31 j = 0 ∧ M1.1 0 32 j = (if 0 < wantOf M e m j then 1 else 0) ∧ M1.1 0 33 j = forOf M m j
theorem wfE.same {P : Nat → Nat → Prop} {M M1 : Am_M} {e n mt : Nat} (h : wfE M e n mt) (hs : am_same P M M1) (hp : ∀ p, p ≤ 8 → ¬ P e p) : wfE M1 e n mt := by
  have g : ∀ p k, p ≤ 8 → M1.1 e p k = M.1 e p k := fun p k h => hs.2 e p k (hp p h)
  obtain ⟨⟨h1, h2, h3, h4⟩, h5, h6, h7⟩ := h
  refine ⟨⟨by rw [g _ _ (by omega)]; exact h1, h2, by rw [g _ _ (by omega)]; exact h3, h4⟩, fun i hi => ?_, fun k hk => ?_, fun i m hi hm => ?_⟩
  · rw [g 2 i (by omega), g 3 i (by omega), g 4 i (by omega), g 5 i (by omega), g 7 i (by omega)]
    exact h5 i hi
  · rw [g 6 k (by omega)]
    exact h6 k hk
  · rw [g 8 _ (by omega)]
    exact h7 i m hi hm
theorem wfH.same {P : Nat → Nat → Prop} {M M1 : Am_M} {mt : Nat} (h : wfH M mt) (hs : am_same P M M1) (hp : ∀ p, 18 ≤ p → p ≤ 20 → ¬ P 0 p) : wfH M1 mt := by
  have g : ∀ p k, 18 ≤ p → p ≤ 20 → M1.1 0 p k = M.1 0 p k := fun p k h h' => hs.2 0 p k (hp p h h')
  obtain ⟨g1, g2, g3⟩ := h
  refine ⟨by rw [g _ _ (by omega) (by omega)]; exact g1, fun k hk => ?_, fun k hk => ?_⟩
  · rw [g _ _ (by omega) (by omega)]; exact g2 k hk
  · rw [g _ _ (by omega) (by omega)]; exact g3 k hk
theorem wantOf.same {P : Nat → Nat → Prop} {M M1 : Am_M} {e m i : Nat} (hs : am_same P M M1) (hp : ∀ p, p ≤ 8 → ¬ P e p) (hq : ∀ p, 18 ≤ p → p ≤ 20 → ¬ P 0 p) : wantOf M1 e m i = wantOf M e m i := by
  unfold wantOf
  rw [hs.2 0 18 _ (hq _ (by omega) (by omega)), hs.2 0 20 _ (hq _ (by omega) (by omega)), hs.2 e 7 _ (hp _ (by omega)), hs.2 e 2 _ (hp _ (by omega)), hs.2 e 8 _ (hp _ (by omega))]
theorem vbI_step {M M1 : Am_M} {e m i : Nat} (h : vbI M e m i M1) : vbI M e m (i + 1) (am_set (am_set (am_set (am_set M1 0 30 i (wantOf M e m i)) 0 31 i 0) 0 32 i (if 0 < wantOf M e m i then 1 else 0)) 0 33 i (forOf M m i)) := by
  obtain ⟨h1, h2, h3⟩ := h
  refine ⟨(((h1.set (Or.inr ⟨by omega, by omega⟩)).set (Or.inr ⟨by omega, by omega⟩)).set (Or.inr ⟨by omega, by omega⟩)).set (Or.inr ⟨by omega, by omega⟩), ?_, fun j hj => ?_⟩
  · simpa [am_set] using h2
  · by_cases hji : j = i
    · subst hji
      simp [am_set]
    · have := h3 j (by omega)
      simpa [am_set, hji] using this
theorem vS_ev (e p : Nat) (h : p ≤ 8) : ¬ vS e p := by unfold vS; omega
theorem vS_hall (p : Nat) (h : 18 ≤ p) (h' : p ≤ 20) : ¬ vS 0 p := by unfold vS; omega
theorem c_begin_loop {Γ : Am_G} {d : Nat} {M : Am_M} {e n mt m : Nat} {K : Option Am_V → Am_M → Prop} (hE : wfE M e n mt) (hH : wfH M mt) (hm : m < mt) (hK : ∀ M1, vbI M e m n M1 → K none M1) : ∀ (k i : Nat) (M1 : Am_M), i + k = n → vbI M e m i M1 → am_At Γ (d + 4) n_Vote_begin 35 [some (.inr (.inr (0, 25))), some (.inr (.inr (e, 0))), some (.inl (i : Int))] [] M1 K := by
  intro k
  have hb := hE.1
  induction k with
  | zero =>
    intro i M1 hi hI
    have hn : M1.1 e 1 4 = n := (hI.1.2 e 1 4 (vS_ev e 1 (by omega))).trans hb.1
    refine am_go 60 [35] (by decide) ?_
    refine And.intro ⟨⟨(by first | omega | (dsimp only [am_own]; omega)), (by first | omega | (dsimp only [am_own]; omega))⟩, ⟨(by first | omega | (dsimp only [am_own]; omega)), (by first | omega | (dsimp only [am_own]; omega))⟩⟩ (And.intro (fun h => ?_) (fun h => ?_))
    · exfalso
      have h : (i : Int) < M1.1 e 1 4 := h
      omega
    · have : i = n := by omega
      subst this
      exact hK M1 hI
  | succ k ih =>
    intro i M1 hi hI
    have hn : M1.1 e 1 4 = n := (hI.1.2 e 1 4 (vS_ev e 1 (by omega))).trans hb.1
    have hE1 := hE.same hI.1 (vS_ev e)
    have hH1 := hH.same hI.1 vS_hall
    have hw := wantOf_b hE hH (i := i) (by omega) hm
    have hw1 : wantOf M1 e m i = wantOf M e m i := wantOf.same hI.1 (vS_ev e) vS_hall
    have hwo : M1.1 0 20 (i * 5 + m) = M.1 0 20 (i * 5 + m) := hI.1.2 0 20 _ (vS_hall 20 (by omega) (by omega))
    have hlf := (hE.2.1 i (by omega)).2.2.2.2
    have hwb := hH.2.1 (i * 5 + m) (by omega)
    refine am_go 60 [35] (by decide) ?_
    refine And.intro ⟨⟨(by first | omega | (dsimp only [am_own]; omega)), (by first | omega | (dsimp only [am_own]; omega))⟩, ⟨(by first | omega | (dsimp only [am_own]; omega)), (by first | omega | (dsimp only [am_own]; omega))⟩⟩ (And.intro (fun h => ?_) (fun h => ?_))
    · have hst := vbI_step hI
      refine am_by (c_wantedN (d := d) hE1 hH1 (i := i) (by omega) hm hI.2.1.1) (by omega) ?_
      rintro r M2 ⟨rfl, rfl⟩
      have hw2 : vt_want (M2.1 0 18 4) (M2.1 0 20 (i * 5 + m)) (M2.1 e 7 i) (M2.1 e 2 i) (M2.1 e 8 (i * 5 + m)) = wantOf M e m i := hw1
      rw [hw2]
      refine And.intro ⟨(by first | omega | (dsimp only [am_own]; omega)), (by first | omega | (dsimp only [am_own]; omega))⟩ ?_
      refine And.intro ⟨(by first | omega | (dsimp only [am_own]; omega)), (by first | omega | (dsimp only [am_own]; omega))⟩ ?_
      refine And.intro ⟨(by first | omega | (dsimp only [am_own]; omega)), (by first | omega | (dsimp only [am_own]; omega))⟩ ?_
      have hx : (am_set (am_set M2 0 30 i (wantOf M e m i)) 0 31 i 0).1 0 30 i = wantOf M e m i := by simp [am_set]
      have go2 : ∀ b : Int, (b = if 0 < wantOf M e m i then 1 else 0) → am_vc Γ (d + 4) n_Vote_begin [35] K 22 (am_from (am_rows n_Vote_begin) 88) 88 [some (.inr (.inr (0, 25))), some (.inr (.inr (e, 0))), some (.inl (i : Int))] [.inl b, .inl (i : Int), .inr (.inr (0, 32))] (am_set (am_set M2 0 30 i (wantOf M e m i)) 0 31 i 0) := by
        intro b hbb
        refine And.intro ⟨⟨(by first | omega | (dsimp only [am_own]; omega)), (by first | omega | (dsimp only [am_own]; omega))⟩, by rw [hbb]; split <;> omega⟩ ?_
        refine am_by (c_worthToN (d := d) (i := i) (m := m) (by omega) (by omega) (by simpa [am_set] using hI.2.1.1)) (by omega) ?_
        rintro r M3 ⟨rfl, rfl⟩
        have hy : (am_set (am_set (am_set M2 0 30 i (wantOf M e m i)) 0 31 i 0) 0 32 i b).1 0 20 (i * 5 + m) = M.1 0 20 (i * 5 + m) := by simp [am_set, hwo]
        refine And.intro (am_Re hy ⟨(by first | omega | (dsimp only [am_own]; omega)), (by first | omega | (dsimp only [am_own]; omega))⟩) (And.intro (fun h4 => ?_) (fun h4 => ?_))
        · have h4 : 0 < (am_set (am_set (am_set M2 0 30 i (wantOf M e m i)) 0 31 i 0) 0 32 i b).1 0 20 (i * 5 + m) := h4
          rw [hy] at h4
          refine And.intro ⟨⟨(by first | omega | (dsimp only [am_own]; omega)), (by first | omega | (dsimp only [am_own]; omega))⟩, Or.inr rfl⟩ ?_
          refine ih (i + 1) _ (by omega) ?_
          rw [hbb]
          have e3 : forOf M m i = 1 := by unfold forOf; rw [if_pos h4]
          rw [e3] at hst
          exact hst
        · have h4 : ¬ 0 < (am_set (am_set (am_set M2 0 30 i (wantOf M e m i)) 0 31 i 0) 0 32 i b).1 0 20 (i * 5 + m) := h4
          rw [hy] at h4
          refine And.intro ⟨⟨(by first | omega | (dsimp only [am_own]; omega)), (by first | omega | (dsimp only [am_own]; omega))⟩, Or.inl rfl⟩ ?_
          refine ih (i + 1) _ (by omega) ?_
          rw [hbb]
          have e3 : forOf M m i = 0 := by unfold forOf; rw [if_neg h4]
          rw [e3] at hst
          exact hst
      refine And.intro (am_Re hx ⟨(by first | omega | (dsimp only [am_own]; omega)), (by first | omega | (dsimp only [am_own]; omega))⟩) (And.intro (fun h3 => ?_) (fun h3 => ?_))
      · have h3 : 0 < (am_set (am_set M2 0 30 i (wantOf M e m i)) 0 31 i 0).1 0 30 i := h3
        rw [hx] at h3
        exact go2 1 (by rw [if_pos h3])
      · have h3 : ¬ 0 < (am_set (am_set M2 0 30 i (wantOf M e m i)) 0 31 i 0).1 0 30 i := h3
        rw [hx] at h3
        exact go2 0 (by rw [if_neg h3])
    · exfalso
      have h : ¬ (i : Int) < M1.1 e 1 4 := h
      omega
