/-! the class's vote: close, run -/
theorem c_setResultN {Γ : Am_G} {d : Nat} {M : Am_M} {e m w : Nat} {x y z : Int} (hm : m < 5) (hw : w < 4) (hx : x = m) (hy : y = w) : am_Ev Γ (d + 1) n_Evening_setResult [.inr (.inr (e, 0)), .inl x, .inl y, .inl z] M (fun r M' => r = none ∧ M' = am_set M e 10 (m * 4 + w) z) := by
  subst hx
  subst hy
  have h := c_setResult (Γ := Γ) (d := d) (M := M) e (m : Int) (w : Int) z (by omega)
  rw [show ((m : Int) * 4 + (w : Int)).toNat = m * 4 + w by omega] at h
  exact h
/-- what close leaves -/
def clO (M : Am_M) (e n m : Nat) (M' : Am_M) : Prop := am_same (fun e' p => e' = e ∧ (p = 0 ∨ p = 7 ∨ p = 9 ∨ p = 10)) M M' ∧ (∀ j, j < n → M'.1 e 9 (j * 5 + m) = M.1 0 31 j ∧ M'.1 e 7 j = clL (M.1 e 7 j) (M.1 0 31 j) (M.1 e 4 j) (M.1 e 3 j)) ∧ (∀ k, (∀ j, j < n → k ≠ j * 5 + m) → M'.1 e 9 k = M.1 e 9 k) ∧ (M'.1 e 10 (m * 4 + 0) = M.1 0 25 10 ∧ M'.1 e 10 (m * 4 + 1) = M.1 0 25 11 ∧ M'.1 e 10 (m * 4 + 2) = vt_carI (M.1 0 19 m) (M.1 0 25 10) (M.1 0 25 11) ∧ M'.1 e 10 (m * 4 + 3) = M.1 0 25 12) ∧ (∀ k, (k < m * 4 ∨ m * 4 + 4 ≤ k) → M'.1 e 10 k = M.1 e 10 k) ∧ M'.1 e 0 7 = M.1 e 0 7 + 1 ∧ M'.1 e 0 6 = M.1 e 0 6
theorem vt_carI_01 (need f a : Int) : vt_carI need f a = 0 ∨ vt_carI need f a = 1 := by unfold vt_carI; split <;> simp
theorem c_close {Γ : Am_G} {d : Nat} {M : Am_M} {e n mt m : Nat} (hE : wfE M e n mt) (hH : wfH M mt) (hm : m < mt) (hv : vOK M e n m) : am_Ev Γ (d + 2) n_Vote_close [.inr (.inr (0, 25)), .inr (.inr (e, 0))] M (fun r M' => r = some (.inl (vt_carI (M.1 0 19 m) (M.1 0 25 10) (M.1 0 25 11))) ∧ clO M e n m M') := by
  have hb := hE.1
  have hnd := hH.2.2 m hm
  obtain ⟨v1, v2, v3, -⟩ := id hv
  have p0 := mul_b (a := M.1 0 19 m) (b := M.1 0 25 10 + M.1 0 25 11) (A := 9) (B := 40000) (by omega) (by omega)
  refine am_ev_of (by decide) (am_le rfl) (am_go 60 [7] (by decide) ?_)
  refine c_close_loop (d := d) hE hm hv (fun z M1 hI => ?_) n 0 _ M (by omega) ⟨am_same.rf, fun j hj => absurd hj (by omega), fun k _ => rfl, fun j _ => rfl⟩
  obtain ⟨i1, i2, i3, i4⟩ := id hI
  have e9 : M1.1 0 25 9 = m := (i1.2 0 25 9 (by omega)).trans v1
  have e10 : M1.1 0 25 10 = M.1 0 25 10 := i1.2 0 25 10 (by omega)
  have e11 : M1.1 0 25 11 = M.1 0 25 11 := i1.2 0 25 11 (by omega)
  have e12 : M1.1 0 25 12 = M.1 0 25 12 := i1.2 0 25 12 (by omega)
  have e19 : M1.1 0 19 (M1.1 0 25 9).toNat = M.1 0 19 m := by rw [e9]; exact i1.2 0 19 m (by omega)
  have fin : ∀ s3 : Option Am_V, am_At Γ (d + 2) n_Vote_close 110 [some (.inr (.inr (0, 25))), some (.inr (.inr (e, 0))), some (.inr (.inr (e, 1))), s3, z] [.inl (vt_carI (M.1 0 19 m) (M.1 0 25 10) (M.1 0 25 11))] M1 (fun r M' => r = some (.inl (vt_carI (M.1 0 19 m) (M.1 0 25 10) (M.1 0 25 11))) ∧ clO M e n m M') := by
    intro s3
    refine am_go 60 [] (by decide) ?_
    refine am_by (c_setResultN (d := d) (m := m) (w := 0) (by omega) (by omega) e9 rfl) (by omega) ?_
    rintro r M2 ⟨rfl, rfl⟩
    refine am_by (c_setResultN (d := d) (m := m) (w := 1) (by omega) (by omega) ((set_p (by decide)).trans e9) rfl) (by omega) ?_
    rintro r M2 ⟨rfl, rfl⟩
    refine am_by (c_setResultN (d := d) (m := m) (w := 2) (by omega) (by omega) ((set_p (by decide)).trans ((set_p (by decide)).trans e9)) rfl) (by omega) ?_
    rintro r M2 ⟨rfl, rfl⟩
    refine am_by (c_setResultN (d := d) (m := m) (w := 3) (by omega) (by omega) ((set_p (by decide)).trans ((set_p (by decide)).trans ((set_p (by decide)).trans e9))) rfl) (by omega) ?_
    rintro r M2 ⟨rfl, rfl⟩
    refine ⟨rfl, ?_⟩
    refine ⟨?_, fun j hj => ?_, fun k hk => ?_, ⟨?_, ?_, ?_, ?_⟩, fun k hk => ?_, ?_, ?_⟩
    · exact (((((i1.wk (fun e' p h => ⟨h.1, by omega⟩)).set ⟨rfl, by omega⟩).set ⟨rfl, by omega⟩).set ⟨rfl, by omega⟩).set ⟨rfl, by omega⟩).set ⟨rfl, Or.inl rfl⟩
    · have := i2 j hj
      rw [set_p (by first | decide | (dsimp only; omega)), set_p (by first | decide | (dsimp only; omega)), set_p (by first | decide | (dsimp only; omega)), set_p (by first | decide | (dsimp only; omega)), set_p (by first | decide | (dsimp only; omega)), set_p (by first | decide | (dsimp only; omega)), set_p (by first | decide | (dsimp only; omega)), set_p (by first | decide | (dsimp only; omega)), set_p (by first | decide | (dsimp only; omega)), set_p (by first | decide | (dsimp only; omega))]
      exact this
    · rw [set_p (by first | decide | (dsimp only; omega)), set_p (by first | decide | (dsimp only; omega)), set_p (by first | decide | (dsimp only; omega)), set_p (by first | decide | (dsimp only; omega)), set_p (by first | decide | (dsimp only; omega))]
      exact i3 k hk
    · rw [set_p (by first | decide | (dsimp only; omega)), set_k (by omega), set_k (by omega), set_k (by omega)]
      exact set_eq.trans e10
    · rw [set_p (by first | decide | (dsimp only; omega)), set_k (by omega), set_k (by omega)]
      exact set_eq.trans ((set_p (by first | decide | (dsimp only; omega))).trans e11)
    · rw [set_p (by first | decide | (dsimp only; omega)), set_k (by omega)]
      exact set_eq
    · rw [set_p (by first | decide | (dsimp only; omega))]
      exact set_eq.trans ((set_p (by first | decide | (dsimp only; omega))).trans ((set_p (by first | decide | (dsimp only; omega))).trans ((set_p (by first | decide | (dsimp only; omega))).trans e12)))
    · rw [set_p (by first | decide | (dsimp only; omega)), set_k (by omega), set_k (by omega), set_k (by omega), set_k (by omega)]
      exact i1.2 e 10 k (by omega)
    · have hx : ∀ k, (am_set (am_set (am_set (am_set M1 e 10 (m * 4 + 0) (M1.1 0 25 10)) e 10 (m * 4 + 1) ((am_set M1 e 10 (m * 4 + 0) (M1.1 0 25 10)).1 0 25 11)) e 10 (m * 4 + 2) (vt_carI (M.1 0 19 m) (M.1 0 25 10) (M.1 0 25 11))) e 10 (m * 4 + 3) ((am_set (am_set (am_set M1 e 10 (m * 4 + 0) (M1.1 0 25 10)) e 10 (m * 4 + 1) ((am_set M1 e 10 (m * 4 + 0) (M1.1 0 25 10)).1 0 25 11)) e 10 (m * 4 + 2) (vt_carI (M.1 0 19 m) (M.1 0 25 10) (M.1 0 25 11))).1 0 25 12)).1 e 0 k = M.1 e 0 k := by
        intro k
        rw [set_p (by first | decide | (dsimp only; omega)), set_p (by first | decide | (dsimp only; omega)), set_p (by first | decide | (dsimp only; omega)), set_p (by first | decide | (dsimp only; omega))]
        exact i1.2 e 0 k (by omega)
      exact set_eq.trans (congrArg (fun z => z + 1) (hx 7))
    · rw [set_k (by first | decide | (dsimp only; omega)), set_p (by first | decide | (dsimp only; omega)), set_p (by first | decide | (dsimp only; omega)), set_p (by first | decide | (dsimp only; omega)), set_p (by first | decide | (dsimp only; omega))]
      exact i1.2 e 0 6 (by omega)
  refine am_go 60 [110] (by decide) ?_
  refine And.intro (show 0 ≤ M1.1 0 25 9 ∧ M1.1 0 25 9 < 5 from ⟨(by first | omega | (dsimp only [am_own]; omega)), (by first | omega | (dsimp only [am_own]; omega))⟩) ?_
  have hc := c_isCarried (Γ := Γ) (d := d) (M := M1) (M.1 0 19 m) (M.1 0 25 10) (M.1 0 25 11) ⟨by omega, by omega⟩ ⟨by omega, by omega⟩
  rw [← e19, ← e10, ← e11] at hc
  refine am_by hc (by omega) ?_
  rintro r M2 ⟨rfl, rfl⟩
  rw [e19, e10, e11]
  have hcd : vt_carI (M.1 0 19 m) (M.1 0 25 10) (M.1 0 25 11) = if M.1 0 19 m * (M.1 0 25 10 + M.1 0 25 11) < 10 * M.1 0 25 10 then 1 else 0 := rfl
  by_cases q : M.1 0 19 m * (M.1 0 25 10 + M.1 0 25 11) < 10 * M.1 0 25 10
  · rw [if_pos q]
    rw [if_pos q] at hcd
    refine And.intro ⟨(by first | omega | (dsimp only [am_own]; omega)), (by first | omega | (dsimp only [am_own]; omega))⟩ (And.intro (fun h => ?_) (fun h => ?_))
    · exact absurd h (by decide)
    · rw [hcd] at fin
      rw [hcd]
      exact fin _
  · rw [if_neg q]
    rw [if_neg q] at hcd
    refine And.intro ⟨(by first | omega | (dsimp only [am_own]; omega)), (by first | omega | (dsimp only [am_own]; omega))⟩ (And.intro (fun h => ?_) (fun h => ?_))
    · rw [hcd] at fin
      rw [hcd]
      exact fin _
    · exact absurd rfl h
theorem vt_more_congr {b : Int} {up up' fr fr' ct ct' lf lf' held held' : Nat → Int} {n : Nat} (h : ∀ i, i < n → up i = up' i ∧ fr i = fr' i ∧ ct i = ct' i ∧ lf i = lf' i ∧ held i = held' i) : vt_more b up fr ct lf held n = vt_more b up' fr' ct' lf' held' n := vt_sum_congr n (fun i hi => by
  obtain ⟨h1, h2, h3, h4, h5⟩ := h i hi
  rw [h1, h2, h3, h4, h5])
theorem vt_setI_congr {need f a : Int} {up up' fr fr' ct ct' lf lf' held held' : Nat → Int} {n : Nat} (h : ∀ i, i < n → up i = up' i ∧ fr i = fr' i ∧ ct i = ct' i ∧ lf i = lf' i ∧ held i = held' i) : vt_setI need f a up fr ct lf held n = vt_setI need f a up' fr' ct' lf' held' n := by
  unfold vt_setI
  rw [vt_more_congr (b := 0) h, vt_more_congr (b := 1) h]
theorem vt_add_congr {b : Int} {up up' fr fr' ct ct' : Nat → Int} {n : Nat} (h : ∀ i, i < n → up i = up' i ∧ fr i = fr' i ∧ ct i = ct' i) : vt_add b up fr ct n = vt_add b up' fr' ct' n := vt_sum_congr n (fun i hi => by
  obtain ⟨h1, h2, h3⟩ := h i hi
  rw [h1, h2, h3])
theorem vt_some_congr {up up' : Nat → Int} : ∀ n : Nat, (∀ i, i < n → up i = up' i) → vt_some up n = vt_some up' n
  | 0, _ => rfl
  | n + 1, h => by rw [vt_some, vt_some, vt_some_congr n (fun i hi => h i (by omega)), h n (by omega)]
theorem vt_add_b {b : Int} {up fr ct : Nat → Int} {n : Nat} (h : ∀ i, i < n → 1 ≤ ct i ∧ ct i ≤ 9) : 0 ≤ vt_add b up fr ct n ∧ vt_add b up fr ct n ≤ n * 9 := ⟨vt_sum_nn n (fun i hi => by have := h i hi; split <;> omega), vt_sum_le n (fun i hi => by have := h i hi; split <;> omega)⟩
theorem vt_setI_01 (need f a : Int) (up fr ct lf held : Nat → Int) (n : Nat) : vt_setI need f a up fr ct lf held n = 0 ∨ vt_setI need f a up fr ct lf held n = 1 := by
  unfold vt_setI
  split
  · exact Or.inr rfl
  · split
    · exact Or.inl rfl
    · exact Or.inr rfl
/-- the vote on m in evening e, whole -/
def vtR (M : Am_M) (e n m : Nat) : (Nat → Int) × Int × Int × Int × Int := vt_go n (M.1 0 19 m) (wantOf M e m) (forOf M m) (M.1 e 2) (M.1 e 5) (M.1 e 7) 100 1 (fun _ => 0) (fun i => if 0 < wantOf M e m i then 1 else 0) 0 0 (-1)
def rnI (M : Am_M) (e n m : Nat) (M1 : Am_M) (held up : Nat → Int) (f a sec set : Int) : Prop := am_same vS M M1 ∧ (M1.1 0 25 9 = m ∧ M1.1 0 25 10 = f ∧ M1.1 0 25 11 = a ∧ M1.1 0 25 12 = sec - 1 ∧ M1.1 0 25 13 = set) ∧ (∀ j, j < n → M1.1 0 30 j = wantOf M e m j ∧ M1.1 0 31 j = held j ∧ M1.1 0 32 j = up j ∧ M1.1 0 33 j = forOf M m j) ∧ (∀ j, j < n → (up j = 0 ∨ up j = 1) ∧ 0 ≤ held j ∧ held j ≤ wantOf M e m j) ∧ (0 ≤ f ∧ f ≤ (sec - 1) * 54) ∧ (0 ≤ a ∧ a ≤ (sec - 1) * 54) ∧ -1 ≤ set ∧ set ≤ 100
/-- what run leaves behind the loop -/
def rnO (M : Am_M) (e n m : Nat) (R : (Nat → Int) × Int × Int × Int × Int) (M1 : Am_M) : Prop := am_same vS M M1 ∧ (M1.1 0 25 9 = m ∧ M1.1 0 25 10 = R.2.1 ∧ M1.1 0 25 11 = R.2.2.1 ∧ M1.1 0 25 12 = R.2.2.2.1 ∧ M1.1 0 25 13 = R.2.2.2.2) ∧ (∀ j, j < n → M1.1 0 31 j = R.1 j) ∧ vOK M1 e n m
theorem forOf_01 (M : Am_M) (m i : Nat) : forOf M m i = 0 ∨ forOf M m i = 1 := by unfold forOf; split <;> simp
theorem rnI.ok {M : Am_M} {e n mt m : Nat} {M1 : Am_M} {held up : Nat → Int} {f a sec set : Int} (hE : wfE M e n mt) (hH : wfH M mt) (hm : m < mt) (h : rnI M e n m M1 held up f a sec set) (hs : sec ≤ 101) : vOK M1 e n m := by
  obtain ⟨h1, ⟨g1, g2, g3, g4, g5⟩, h2, h3, h4, h5, h6⟩ := h
  refine ⟨g1, by omega, by omega, fun j hj => ?_⟩
  obtain ⟨a1, a2, a3, a4⟩ := h2 j hj
  obtain ⟨b1, b2, b3⟩ := h3 j hj
  have hw := (wantOf_b hE hH hj hm).2
  have e7 : M1.1 e 7 j = M.1 e 7 j := h1.2 e 7 j (vS_ev e 7 (by omega))
  refine ⟨by rw [a3]; exact b1, by rw [a4]; exact forOf_01 _ _ _, by omega, by omega⟩
theorem c_run_loop {Γ : Am_G} {d : Nat} {M : Am_M} {e n mt m : Nat} {K : Option Am_V → Am_M → Prop} (hE : wfE M e n mt) (hH : wfH M mt) (hm : m < mt) (R : (Nat → Int) × Int × Int × Int × Int) (hK : ∀ z M1, rnO M e n m R M1 → am_At Γ (d + 5) n_Vote_run 76 [some (.inr (.inr (0, 25))), some (.inr (.inr (e, 0))), z] [] M1 K) : ∀ (k : Nat) (M1 : Am_M) (held up : Nat → Int) (f a sec set : Int), sec + k = 101 → 1 ≤ sec → rnI M e n m M1 held up f a sec set → vt_go n (M.1 0 19 m) (wantOf M e m) (forOf M m) (M.1 e 2) (M.1 e 5) (M.1 e 7) k sec held up f a set = R → am_At Γ (d + 5) n_Vote_run 16 [some (.inr (.inr (0, 25))), some (.inr (.inr (e, 0))), some (.inl sec)] [] M1 K := by
  intro k
  have hb := hE.1
  induction k with
  | zero =>
    intro M1 held up f a sec set hs h1s hI hR
    have hok := hI.ok hE hH hm (by omega)
    obtain ⟨h1, ⟨g1, g2, g3, g4, g5⟩, h2, h3, h4, h5, h6⟩ := hI
    refine am_go 60 [16, 76] (by decide) ?_
    refine And.intro ⟨⟨(by first | omega | (dsimp only [am_own]; omega)), (by first | omega | (dsimp only [am_own]; omega))⟩, ⟨(by first | omega | (dsimp only [am_own]; omega)), (by first | omega | (dsimp only [am_own]; omega))⟩⟩ (And.intro (fun h => ?_) (fun h => ?_))
    · refine hK _ M1 ⟨h1, ?_, ?_, hok⟩
      · rw [← hR]; exact ⟨g1, g2, g3, g4, g5⟩
      · rw [← hR]; exact fun j hj => (h2 j hj).2.1
    · exfalso; omega
  | succ k ih =>
    intro M1 held up f a sec set hs h1s hI hR
    have hok := hI.ok hE hH hm (by omega)
    obtain ⟨h1, ⟨g1, g2, g3, g4, g5⟩, h2, h3, h4, h5, h6⟩ := id hI
    have hE1 := hE.same h1 (vS_ev e)
    have hH1 := hH.same h1 vS_hall
    have e19 : M1.1 0 19 m = M.1 0 19 m := h1.2 0 19 m (vS_hall 19 (by omega) (by omega))
    have evc : ∀ p j, p ≤ 8 → M1.1 e p j = M.1 e p j := fun p j hp => h1.2 e p j (vS_ev e p hp)
    have hsi : vt_setI (M1.1 0 19 m) (M1.1 0 25 10) (M1.1 0 25 11) (M1.1 0 32) (M1.1 0 33) (M1.1 e 5) (M1.1 e 7) (M1.1 0 31) n = vt_setI (M.1 0 19 m) f a up (forOf M m) (M.1 e 5) (M.1 e 7) held n := by
      rw [e19, g2, g3]
      exact vt_setI_congr (fun i hi => ⟨(h2 i hi).2.2.1, (h2 i hi).2.2.2, evc 5 i (by omega), evc 7 i (by omega), (h2 i hi).2.1⟩)
    -- from pc 43 on, with the new 'settled'
    have go43 : ∀ (M2 : Am_M) (set' : Int), set' = (if set = -1 ∧ vt_setI (M.1 0 19 m) f a up (forOf M m) (M.1 e 5) (M.1 e 7) held n = 1 then sec else set) → rnI M e n m M2 held up f a sec set' → am_At Γ (d + 5) n_Vote_run 43 [some (.inr (.inr (0, 25))), some (.inr (.inr (e, 0))), some (.inl sec)] [] M2 K := by
      intro M2 set' hset' hI2
      have hok2 := hI2.ok hE hH hm (by omega)
      obtain ⟨q1, ⟨q2, q3, q4, q5, q6⟩, q7, q8, q9, q10, q11⟩ := id hI2
      have hE2 := hE.same q1 (vS_ev e)
      have evc2 : ∀ p j, p ≤ 8 → M2.1 e p j = M.1 e p j := fun p j hp => q1.2 e p j (vS_ev e p hp)
      refine am_go 60 [16, 76] (by decide) ?_
      refine am_by (c_lowerArms (d := d) (e := e) hE2 hok2 (fun j hj => ?_) (by omega)) (by omega) ?_
      · have := wantOf_b hE hH hj hm
        have := hE.2.1 j hj
        rw [(q7 j hj).1]
        omega
      rintro r M3 ⟨rfl, l1, l2, l3⟩
      have hupj : ∀ j, j < n → vt_up (M2.1 0 25 13) (M2.1 0 30) (M2.1 e 2) (M2.1 0 31) (M2.1 0 32) j = vt_up set' (wantOf M e m) (M.1 e 2) held up j := by
        intro j hj
        unfold vt_up
        obtain ⟨a1, a2, a3, a4⟩ := q7 j hj
        rw [q6, a1, a2, a3, evc2 2 j (by omega)]
      have hsm : vt_some (vt_up (M2.1 0 25 13) (M2.1 0 30) (M2.1 e 2) (M2.1 0 31) (M2.1 0 32)) n = vt_some (vt_up set' (wantOf M e m) (M.1 e 2) held up) n := vt_some_congr n hupj
      rw [hsm]
      have hgo : vt_go n (M.1 0 19 m) (wantOf M e m) (forOf M m) (M.1 e 2) (M.1 e 5) (M.1 e 7) (k + 1) sec held up f a set = if vt_some (vt_up set' (wantOf M e m) (M.1 e 2) held up) n = 1 then vt_go n (M.1 0 19 m) (wantOf M e m) (forOf M m) (M.1 e 2) (M.1 e 5) (M.1 e 7) k (sec + 1) (fun i => held i + vt_up set' (wantOf M e m) (M.1 e 2) held up i) (vt_up set' (wantOf M e m) (M.1 e 2) held up) (f + vt_add 1 (vt_up set' (wantOf M e m) (M.1 e 2) held up) (forOf M m) (M.1 e 5) n) (a + vt_add 0 (vt_up set' (wantOf M e m) (M.1 e 2) held up) (forOf M m) (M.1 e 5) n) set' else (held, f, a, sec - 1, set') := by
        rw [hset']; rfl
      have s01 := vt_some_01 (vt_up set' (wantOf M e m) (M.1 e 2) held up) n
      have l1s : am_same vS M M3 := q1.tr (l1.wk (fun e' p hp => Or.inr (by omega)))
      have l25 : ∀ j, M3.1 0 25 j = M2.1 0 25 j := fun j => l1.2 0 25 j (by omega)
      have l30 : ∀ j, M3.1 0 30 j = M2.1 0 30 j := fun j => l1.2 0 30 j (by omega)
      have l31 : ∀ j, M3.1 0 31 j = M2.1 0 31 j := fun j => l1.2 0 31 j (by omega)
      have l33 : ∀ j, M3.1 0 33 j = M2.1 0 33 j := fun j => l1.2 0 33 j (by omega)
      refine And.intro ⟨(by first | omega | (dsimp only [am_own]; omega)), (by first | omega | (dsimp only [am_own]; omega))⟩ (And.intro (fun hz => ?_) (fun hz => ?_))
      · -- nobody is up
        have hR2 : (held, f, a, sec - 1, set') = R := by rw [← hR, hgo, if_neg (by omega)]
        refine hK _ M3 ⟨l1s, ?_, ?_, ?_⟩
        · rw [← hR2, l25, l25, l25, l25, l25]; exact ⟨q2, q3, q4, q5, q6⟩
        · rw [← hR2]
          intro j hj
          rw [l31]
          exact (q7 j hj).2.1
        · obtain ⟨k1, k2, k3, k4⟩ := hok2
          refine ⟨by rw [l25]; exact k1, by rw [l25]; exact k2, by rw [l25]; exact k3, fun j hj => ?_⟩
          obtain ⟨-, c2, c3, c4⟩ := k4 j hj
          refine ⟨by rw [l2 j hj]; exact vt_up_01 _ _ _ _ _ _, by rw [l33]; exact c2, by rw [l31]; exact c3, by rw [l31, l1.2 e 7 j (by omega)]; exact c4⟩
      · -- somebody is
        have h1z : vt_some (vt_up set' (wantOf M e m) (M.1 e 2) held up) n = 1 := by omega
        have hok3 : vOK M3 e n m := by
          obtain ⟨k1, k2, k3, k4⟩ := hok2
          refine ⟨by rw [l25]; exact k1, by rw [l25]; exact k2, by rw [l25]; exact k3, fun j hj => ?_⟩
          obtain ⟨-, c2, c3, c4⟩ := k4 j hj
          refine ⟨by rw [l2 j hj]; exact vt_up_01 _ _ _ _ _ _, by rw [l33]; exact c2, by rw [l31]; exact c3, by rw [l31, l1.2 e 7 j (by omega)]; exact c4⟩
        have hE3 := hE.same l1s (vS_ev e)
        refine am_by (c_countArms (d := d) (e := e) hE3 hok3) (by omega) ?_
        rintro r M4 ⟨rfl, c1, c2, c3, ⟨c4, c5⟩, c6, c7, c8⟩
        have hup3 : ∀ j, j < n → M3.1 0 32 j = vt_up set' (wantOf M e m) (M.1 e 2) held up j := fun j hj => (l2 j hj).trans (hupj j hj)
        have ha : ∀ b, vt_add b (M3.1 0 32) (M3.1 0 33) (M3.1 e 5) n = vt_add b (vt_up set' (wantOf M e m) (M.1 e 2) held up) (forOf M m) (M.1 e 5) n := fun b => vt_add_congr (fun i hi => ⟨hup3 i hi, by rw [l33]; exact (q7 i hi).2.2.2, l1s.2 e 5 i (vS_ev e 5 (by omega))⟩)
        have hab : ∀ b, 0 ≤ vt_add b (vt_up set' (wantOf M e m) (M.1 e 2) held up) (forOf M m) (M.1 e 5) n ∧ vt_add b (vt_up set' (wantOf M e m) (M.1 e 2) held up) (forOf M m) (M.1 e 5) n ≤ n * 9 := fun b => vt_add_b (fun i hi => (hE.2.1 i hi).2.2.2.1)
        have hab1 := hab 1
        have hab0 := hab 0
        refine ih (am_set M4 0 25 12 sec) (fun i => held i + vt_up set' (wantOf M e m) (M.1 e 2) held up i) (vt_up set' (wantOf M e m) (M.1 e 2) held up) (f + vt_add 1 (vt_up set' (wantOf M e m) (M.1 e 2) held up) (forOf M m) (M.1 e 5) n) (a + vt_add 0 (vt_up set' (wantOf M e m) (M.1 e 2) held up) (forOf M m) (M.1 e 5) n) (sec + 1) set' (by omega) (by omega) ?_ ?_
        · refine ⟨(l1s.tr (c1.wk (fun e' p hp => by unfold vS; omega))).set (Or.inl rfl), ⟨?_, ?_, ?_, ?_, ?_⟩, fun j hj => ?_, fun j hj => ?_, by omega, by omega, q11⟩
          · rw [set_k (by decide), c6, l25]; exact q2
          · rw [set_k (by decide), c4, l25, q3, ha]
          · rw [set_k (by decide), c5, l25, q4, ha]
          · rw [set_eq]; omega
          · rw [set_k (by decide), c8, l25]; exact q6
          · rw [set_p (by decide), set_p (by decide), set_p (by decide), set_p (by decide), c2 j hj, c1.2 0 30 j (by omega), c1.2 0 32 j (by omega), c1.2 0 33 j (by omega), l30, l31, l33, hup3 j hj]
            obtain ⟨a1, a2, a3, a4⟩ := q7 j hj
            exact ⟨a1, by rw [a2], rfl, a4⟩
          · refine ⟨vt_up_01 _ _ _ _ _ _, ?_⟩
            obtain ⟨b1, b2, b3⟩ := q8 j hj
            have hd : vt_up set' (wantOf M e m) (M.1 e 2) held up j = if up j = 1 ∧ held j < wantOf M e m j ∧ ¬ (set' ≠ -1 ∧ M.1 e 2 j = 1) then 1 else 0 := rfl
            dsimp only
            rw [hd]
            split <;> omega
        · rw [← hR, hgo, if_pos h1z]
    refine am_go 60 [16, 43, 76] (by decide) ?_
    refine And.intro ⟨⟨(by first | omega | (dsimp only [am_own]; omega)), (by first | omega | (dsimp only [am_own]; omega))⟩, ⟨(by first | omega | (dsimp only [am_own]; omega)), (by first | omega | (dsimp only [am_own]; omega))⟩⟩ (And.intro (fun h => ?_) (fun h => ?_))
    · exfalso; omega
    · refine And.intro ⟨(show am_R (M1.1 0 25 13) from ⟨(by first | omega | (dsimp only [am_own]; omega)), (by first | omega | (dsimp only [am_own]; omega))⟩), ⟨(by first | omega | (dsimp only [am_own]; omega)), (by first | omega | (dsimp only [am_own]; omega))⟩⟩ (And.intro (fun h2' => ?_) (fun h2' => ?_))
      · have h2' : M1.1 0 25 13 = -1 := h2'
        refine am_by (c_isSettled (d := d) (e := e) hE1 hH1 hm hok) (by omega) ?_
        rintro r M2 ⟨rfl, rfl⟩
        rw [hsi]
        have t01 := vt_setI_01 (M.1 0 19 m) f a up (forOf M m) (M.1 e 5) (M.1 e 7) held n
        refine And.intro ⟨(by first | omega | (dsimp only [am_own]; omega)), (by first | omega | (dsimp only [am_own]; omega))⟩ (And.intro (fun h3' => ?_) (fun h3' => ?_))
        · refine go43 M2 set ?_ hI
          rw [if_neg (by omega)]
        · refine go43 (am_set M2 0 25 13 sec) sec ?_ ?_
          · rw [if_pos (by omega)]
          · refine ⟨h1.set (Or.inl rfl), ⟨?_, ?_, ?_, ?_, ?_⟩, fun j hj => ?_, h3, h4, h5, by omega, by omega⟩
            · rw [set_k (by decide)]; exact g1
            · rw [set_k (by decide)]; exact g2
            · rw [set_k (by decide)]; exact g3
            · rw [set_k (by decide)]; exact g4
            · exact set_eq
            · rw [set_p (by decide), set_p (by decide), set_p (by decide), set_p (by decide)]
              exact h2 j hj
      · have h2' : ¬ M1.1 0 25 13 = -1 := h2'
        refine go43 M1 set ?_ hI
        rw [if_neg (by omega)]
/-- what a vote on m in evening e leaves -/
def runO (M : Am_M) (e n m : Nat) (M' : Am_M) : Prop := am_same (fun e' p => vS e' p ∨ (e' = e ∧ (p = 0 ∨ p = 7 ∨ p = 9 ∨ p = 10))) M M' ∧ (∀ j, j < n → M'.1 e 9 (j * 5 + m) = (vtR M e n m).1 j ∧ M'.1 e 7 j = clL (M.1 e 7 j) ((vtR M e n m).1 j) (M.1 e 4 j) (M.1 e 3 j)) ∧ (∀ k, (∀ j, j < n → k ≠ j * 5 + m) → M'.1 e 9 k = M.1 e 9 k) ∧ (M'.1 e 10 (m * 4 + 0) = (vtR M e n m).2.1 ∧ M'.1 e 10 (m * 4 + 1) = (vtR M e n m).2.2.1 ∧ M'.1 e 10 (m * 4 + 2) = vt_carI (M.1 0 19 m) (vtR M e n m).2.1 (vtR M e n m).2.2.1 ∧ M'.1 e 10 (m * 4 + 3) = (vtR M e n m).2.2.2.1) ∧ (∀ k, (k < m * 4 ∨ m * 4 + 4 ≤ k) → M'.1 e 10 k = M.1 e 10 k) ∧ M'.1 e 0 7 = M.1 e 0 7 + 1 ∧ M'.1 e 0 6 = M.1 e 0 6 ∧ M'.1 0 25 13 = (vtR M e n m).2.2.2.2
theorem c_run {Γ : Am_G} {d : Nat} {M : Am_M} {e n mt pu m : Nat} (hE : wfE M e n mt) (hH : wfH M mt) (hp : M.1 e 0 7 = pu) (hpu : pu < mt) (hm : M.1 e 6 pu = m) : am_Ev Γ (d + 5) n_Vote_run [.inr (.inr (0, 25)), .inr (.inr (e, 0))] M (fun r M' => r = some (.inl (vt_carI (M.1 0 19 m) (vtR M e n m).2.1 (vtR M e n m).2.2.1)) ∧ runO M e n m M') := by
  have hmt : m < mt := by have := hE.2.2.1 pu hpu; omega
  have hb := hE.1
  refine am_ev_of (by decide) (am_le rfl) (am_go 60 [16] (by decide) ?_)
  refine am_by (c_toCome (d := d) e) (by omega) ?_
  rintro r M0 ⟨rfl, rfl⟩
  refine And.intro (show am_R (M0.1 e 0 6 - M0.1 e 0 7) from ⟨(by first | omega | (dsimp only [am_own]; omega)), (by first | omega | (dsimp only [am_own]; omega))⟩) (And.intro (fun h => ?_) (fun h => ?_))
  · refine am_by (c_begin (d := d) hE hH hp hpu hm) (by omega) ?_
    rintro r M1 ⟨rfl, v1, ⟨v2, v3, v4, v5, v6⟩, v7⟩
    refine c_run_loop (d := d) hE hH hmt (vtR M0 e n m) (fun z M2 hO => ?_) 100 M1 (fun _ => 0) (fun i => if 0 < wantOf M0 e m i then 1 else 0) 0 0 1 (-1) (by omega) (by omega) ⟨v1, ⟨v2, v3, v4, v5, v6⟩, fun j hj => ?_, fun j hj => ?_, by omega, by omega, by omega, by omega⟩ rfl
    · obtain ⟨o1, ⟨o2, o3, o4, o5, o6⟩, o7, o8⟩ := hO
      have hE2 := hE.same o1 (vS_ev e)
      have hH2 := hH.same o1 vS_hall
      refine am_go 60 [] (by decide) ?_
      refine am_by (c_close (d := d) (e := e) hE2 hH2 hmt o8) (by omega) ?_
      rintro r M3 ⟨rfl, c1, c2, c3, ⟨c4, c5, c6, c7⟩, c8, c9, c10⟩
      have e19 : M2.1 0 19 m = M0.1 0 19 m := o1.2 0 19 m (vS_hall 19 (by omega) (by omega))
      rw [e19, o3, o4] at c6 ⊢
      refine ⟨rfl, ?_⟩
      refine ⟨(o1.wk (fun e' p hp => Or.inl hp)).tr (c1.wk (fun e' p hp => Or.inr hp)), fun j hj => ?_, fun k hk => ?_, ⟨c4.trans o3, c5.trans o4, c6, c7.trans o5⟩, fun k hk => ?_, ?_, ?_, ?_⟩
      · obtain ⟨d1, d2⟩ := c2 j hj
        rw [d1, d2, o7 j hj, o1.2 e 7 j (vS_ev e 7 (by omega)), o1.2 e 4 j (vS_ev e 4 (by omega)), o1.2 e 3 j (vS_ev e 3 (by omega))]
        exact ⟨rfl, rfl⟩
      · rw [c3 k hk, o1.2 e 9 k (by unfold vS; omega)]
      · rw [c8 k hk, o1.2 e 10 k (by unfold vS; omega)]
      · rw [c9, o1.2 e 0 7 (by unfold vS; omega)]
      · rw [c10, o1.2 e 0 6 (by unfold vS; omega)]
      · rw [c1.2 0 25 13 (by omega)]; exact o6
    · obtain ⟨w1, w2, w3, w4⟩ := v7 j hj
      exact ⟨w1, w2, w3, w4⟩
    · refine ⟨?_, Int.le_refl 0, (wantOf_b hE hH hj hmt).1⟩
      dsimp only
      split <;> simp
  · exfalso
    have h : ¬ 0 < M0.1 e 0 6 - M0.1 e 0 7 := h
    omega
