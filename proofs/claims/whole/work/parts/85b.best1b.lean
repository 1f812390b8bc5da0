/-! whether the next matter would be carried, by what is wanted -/
theorem wS_b {V : Vw} {n mt m : Nat} (h : wfV V n mt) (hm : m < mt) (b : Int) (k : Nat) (hk : k ≤ n) : 0 ≤ wS V k m b ∧ wS V k m b ≤ 5346 := by
  have hq : ∀ i, i < k → 0 ≤ (if fV V m i = b then V 4 i * wV V m i else 0) ∧ (if fV V m i = b then V 4 i * wV V m i else 0) ≤ 891 := fun i hi => by
    have h1 := wV_b (i := i) h hm (by omega)
    have h2 := (h.2.2.1 i (by omega)).2.2.2
    have hb := mul_b (a := V 4 i) (b := wV V m i) (A := 9) (B := 99) (by omega) (by omega)
    split <;> omega
  have h1 := vt_sum_nn k (fun i hi => (hq i hi).1)
  have h2 := vt_sum_le (c := 891) k (fun i hi => (hq i hi).2)
  have h3 := h.1.2.1
  unfold wS
  omega
theorem c_isCarriedNext {Γ : Am_G} {d : Nat} {M : Am_M} {e n mt : Nat} (hV : wfV (cV M e) n mt) (hH : wfH M mt) (hp : M.1 e 0 7 < mt) : am_Ev Γ (d + 4) n_Vote_isCarriedNext [.inr (.inr (0, 25)), .inr (.inr (e, 0))] M (fun r M' => r = some (.inl (carV (cV M e) n)) ∧ M' = M) := by
  have hE := wfE_of hV
  have hb := hE.1
  have hp0 : 0 ≤ M.1 e 0 7 := hV.1.2.2.2.2.1
  have hml := mV_lt hV hp
  have ho : 0 ≤ M.1 e 6 (M.1 e 0 7).toNat ∧ M.1 e 6 (M.1 e 0 7).toNat < mt := (hV.2.2.2.1 (M.1 e 0 7).toNat (by omega)).2
  have em : M.1 e 6 (M.1 e 0 7).toNat = (mV (cV M e) : Int) := by
    show _ = ((M.1 e 6 (M.1 e 0 7).toNat).toNat : Int)
    omega
  have hcar : carV (cV M e) n = vt_carI (M.1 0 19 (mV (cV M e))) (wS (cV M e) n (mV (cV M e)) 1) (wS (cV M e) n (mV (cV M e)) 0) := by
    rw [carV_M]
    exact carM_wS hV hml
  rw [hcar]
  generalize mV (cV M e) = m at *
  have hnd := hH.2.2 m hml
  have loop : ∀ (k i : Nat) (z : Option Am_V), i + k = n → am_At Γ (d + 4) n_Vote_isCarriedNext 18 [some (.inr (.inr (0, 25))), some (.inr (.inr (e, 0))), some (.inl (m : Int)), some (.inl (wS (cV M e) i m 1)), some (.inl (wS (cV M e) i m 0)), some (.inl (i : Int)), z] [] M (fun r M' => r = some (.inl (vt_carI (M.1 0 19 m) (wS (cV M e) n m 1) (wS (cV M e) n m 0))) ∧ M' = M) := by
    intro k
    induction k with
    | zero =>
      intro i z hi
      have : i = n := by omega
      subst this
      have s1 := wS_b hV hml 1 i (Nat.le_refl _)
      have s0 := wS_b hV hml 0 i (Nat.le_refl _)
      have hmul := mul_b (a := M.1 0 19 m) (b := wS (cV M e) i m 1 + wS (cV M e) i m 0) (A := 9) (B := 10692) (by omega) (by omega)
      refine am_go 60 [18] (by decide) ?_
      refine And.intro ⟨⟨(by first | omega | (dsimp only [am_own]; omega)), (by first | omega | (dsimp only [am_own]; omega))⟩, (show am_R (M.1 e 1 4) from ⟨(by first | omega | (dsimp only [am_own]; omega)), (by first | omega | (dsimp only [am_own]; omega))⟩)⟩ (And.intro (fun h => ?_) (fun h => ?_))
      · exfalso
        have h : (i : Int) < M.1 e 1 4 := h
        omega
      · refine And.intro (show 0 ≤ (m : Int) ∧ (m : Int) < 5 from ⟨by omega, by omega⟩) ?_
        refine am_by (c_isCarried (d := d) (M.1 0 19 m) (wS (cV M e) i m 1) (wS (cV M e) i m 0) ⟨by omega, by omega⟩ ⟨by omega, by omega⟩) (by omega) ?_
        rintro r M2 ⟨rfl, rfl⟩
        refine And.intro ?_ ⟨rfl, rfl⟩
        split
        · exact Or.inr rfl
        · exact Or.inl rfl
    | succ k ih =>
      intro i z hi
      have hwb := hH.2.1 (i * 5 + m) (by omega)
      refine am_go 60 [18] (by decide) ?_
      refine And.intro ⟨⟨(by first | omega | (dsimp only [am_own]; omega)), (by first | omega | (dsimp only [am_own]; omega))⟩, (show am_R (M.1 e 1 4) from ⟨(by first | omega | (dsimp only [am_own]; omega)), (by first | omega | (dsimp only [am_own]; omega))⟩)⟩ (And.intro (fun h => ?_) (fun h => ?_))
      · refine And.intro ⟨(by first | omega | (dsimp only [am_own]; omega)), (by first | omega | (dsimp only [am_own]; omega))⟩ ?_
        refine am_by (c_wantedN (d := d) hE hH (i := i) (by omega) hml rfl) (by omega) ?_
        rintro r M2 ⟨rfl, rfl⟩
        refine am_by (c_worthToN (d := d) (i := i) (m := m) (by omega) (by omega) rfl) (by omega) ?_
        rintro r M3 ⟨rfl, rfl⟩
        refine And.intro (show am_R (M3.1 0 20 (i * 5 + m)) from ⟨(by first | omega | (dsimp only [am_own]; omega)), (by first | omega | (dsimp only [am_own]; omega))⟩) (And.intro (fun h4 => ?_) (fun h4 => ?_))
        · have h4 : 0 < M3.1 0 20 (i * 5 + m) := h4
          have hf : fV (cV M3 e) m i = 1 := if_pos h4
          have e1 : wS (cV M3 e) (i + 1) m 1 = wS (cV M3 e) i m 1 + M3.1 e 5 i * vt_want (M3.1 0 18 4) (M3.1 0 20 (i * 5 + m)) (M3.1 e 7 i) (M3.1 e 2 i) (M3.1 e 8 (i * 5 + m)) := by
            show wS (cV M3 e) i m 1 + (if fV (cV M3 e) m i = 1 then M3.1 e 5 i * wV (cV M3 e) m i else 0) = _
            rw [if_pos hf]
            rfl
          have e0 : wS (cV M3 e) (i + 1) m 0 = wS (cV M3 e) i m 0 := by
            show wS (cV M3 e) i m 0 + (if fV (cV M3 e) m i = 0 then M3.1 e 5 i * wV (cV M3 e) m i else 0) = _
            rw [hf, if_neg (by decide), Int.add_zero]
          have go := ih (i + 1) (some (.inl (M3.1 e 5 i * vt_want (M3.1 0 18 4) (M3.1 0 20 (i * 5 + m)) (M3.1 e 7 i) (M3.1 e 2 i) (M3.1 e 8 (i * 5 + m))))) (by omega)
          rw [e1, e0] at go
          exact go
        · have h4 : ¬ 0 < M3.1 0 20 (i * 5 + m) := h4
          have hf : fV (cV M3 e) m i = 0 := if_neg h4
          have e0 : wS (cV M3 e) (i + 1) m 0 = wS (cV M3 e) i m 0 + M3.1 e 5 i * vt_want (M3.1 0 18 4) (M3.1 0 20 (i * 5 + m)) (M3.1 e 7 i) (M3.1 e 2 i) (M3.1 e 8 (i * 5 + m)) := by
            show wS (cV M3 e) i m 0 + (if fV (cV M3 e) m i = 0 then M3.1 e 5 i * wV (cV M3 e) m i else 0) = _
            rw [if_pos hf]
            rfl
          have e1 : wS (cV M3 e) (i + 1) m 1 = wS (cV M3 e) i m 1 := by
            show wS (cV M3 e) i m 1 + (if fV (cV M3 e) m i = 1 then M3.1 e 5 i * wV (cV M3 e) m i else 0) = _
            rw [hf, if_neg (by decide), Int.add_zero]
          have go := ih (i + 1) (some (.inl (M3.1 e 5 i * vt_want (M3.1 0 18 4) (M3.1 0 20 (i * 5 + m)) (M3.1 e 7 i) (M3.1 e 2 i) (M3.1 e 8 (i * 5 + m))))) (by omega)
          rw [e1, e0] at go
          exact go
      · exfalso
        have h : ¬ (i : Int) < M.1 e 1 4 := h
        omega
  refine am_ev_of (by decide) (am_le rfl) (am_go 60 [18] (by decide) ?_)
  refine And.intro (show 0 ≤ M.1 e 0 7 ∧ M.1 e 0 7 < 5 from ⟨by omega, by omega⟩) ?_
  have go := loop n 0 none (by omega)
  rw [← em] at go
  exact go
