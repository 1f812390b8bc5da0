/-! pairs: rows, told seconds, the text's end -/
/-- the first wrong row -/
def jdgL (due c : Nat → Int) : Nat → Nat → Int
  | 0, _ => -1
  | k + 1, i => if due i = (if c i = 1 then 1 else 0) then jdgL due c k (i + 1) else i
theorem c_judge {Γ : Am_G} {d : Nat} {M : Am_M} {n mt : Nat} (hR : RelN M n mt) : am_Ev Γ (d + 2) n_Hall_firstWrongRow [.inr (.inr (0, 18))] M (fun r M' => r = some (.inl (jdgL (fun i => vt_carI (M.1 0 19 (M.1 0 21 i).toNat) (M.1 0 22 i) (M.1 0 23 i)) (M.1 0 24) (M.1 0 18 9).toNat 0)) ∧ M' = M) := by
  obtain ⟨w1, w2⟩ := hR.2.2.2.1
  have hH := hR.H
  have b2 := hR.1.2.1
  have loop : ∀ (k i : Nat) (z : Option Am_V), i + k = (M.1 0 18 9).toNat → am_At Γ (d + 2) n_Hall_firstWrongRow 2 [some (.inr (.inr (0, 18))), some (.inl (i : Int)), z] [] M (fun r M' => r = some (.inl (jdgL (fun i => vt_carI (M.1 0 19 (M.1 0 21 i).toNat) (M.1 0 22 i) (M.1 0 23 i)) (M.1 0 24) k i)) ∧ M' = M) := by
    intro k
    induction k with
    | zero =>
      intro i z hi
      refine am_go 60 [2] (by decide) ?_
      refine And.intro ⟨⟨(by first | omega | (dsimp only [am_own]; omega)), (by first | omega | (dsimp only [am_own]; omega))⟩, (show am_R (M.1 0 18 9) from ⟨(by first | omega | (dsimp only [am_own]; omega)), (by first | omega | (dsimp only [am_own]; omega))⟩)⟩ (And.intro (fun h => ?_) (fun h => ⟨rfl, rfl⟩))
      exfalso
      have h : (i : Int) < M.1 0 18 9 := h
      omega
    | succ k ih =>
      intro i z hi
      obtain ⟨-, v1, v2, v3, v4⟩ := w2 i (by omega)
      have hnd := hH.2.2 (M.1 0 21 i).toNat (by omega)
      have p0 := mul_b (a := M.1 0 19 (M.1 0 21 i).toNat) (b := M.1 0 22 i + M.1 0 23 i) (A := 9) (B := 40000) (by omega) (by omega)
      refine am_go 60 [2] (by decide) ?_
      refine And.intro ⟨⟨(by first | omega | (dsimp only [am_own]; omega)), (by first | omega | (dsimp only [am_own]; omega))⟩, (show am_R (M.1 0 18 9) from ⟨(by first | omega | (dsimp only [am_own]; omega)), (by first | omega | (dsimp only [am_own]; omega))⟩)⟩ (And.intro (fun h => ?_) (fun h => ?_))
      · refine And.intro ⟨(by first | omega | (dsimp only [am_own]; omega)), (by first | omega | (dsimp only [am_own]; omega))⟩ ?_
        refine And.intro (show 0 ≤ M.1 0 21 i ∧ M.1 0 21 i < 5 from ⟨(by first | omega | (dsimp only [am_own]; omega)), (by first | omega | (dsimp only [am_own]; omega))⟩) ?_
        refine And.intro ⟨(by first | omega | (dsimp only [am_own]; omega)), (by first | omega | (dsimp only [am_own]; omega))⟩ ?_
        refine And.intro ⟨(by first | omega | (dsimp only [am_own]; omega)), (by first | omega | (dsimp only [am_own]; omega))⟩ ?_
        refine am_by (c_isCarried (d := d) (M.1 0 19 (M.1 0 21 i).toNat) (M.1 0 22 i) (M.1 0 23 i) ⟨by omega, by omega⟩ ⟨by omega, by omega⟩) (by omega) ?_
        rintro r M' ⟨rfl, rfl⟩
        rw [jdgL]
        have ce : vt_carI (M'.1 0 19 (M'.1 0 21 i).toNat) (M'.1 0 22 i) (M'.1 0 23 i) = (if M'.1 0 19 (M'.1 0 21 i).toNat * (M'.1 0 22 i + M'.1 0 23 i) < 10 * M'.1 0 22 i then 1 else 0) := rfl
        rw [ce]
        have c01 : (if M'.1 0 19 (M'.1 0 21 i).toNat * (M'.1 0 22 i + M'.1 0 23 i) < 10 * M'.1 0 22 i then (1 : Int) else 0) = 0 ∨ (if M'.1 0 19 (M'.1 0 21 i).toNat * (M'.1 0 22 i + M'.1 0 23 i) < 10 * M'.1 0 22 i then (1 : Int) else 0) = 1 := by split <;> simp
        generalize (if M'.1 0 19 (M'.1 0 21 i).toNat * (M'.1 0 22 i + M'.1 0 23 i) < 10 * M'.1 0 22 i then (1 : Int) else 0) = c at *
        refine And.intro ⟨(by first | omega | (dsimp only [am_own]; omega)), (by first | omega | (dsimp only [am_own]; omega))⟩ ?_
        refine And.intro ⟨(show am_R (M'.1 0 24 i) from ⟨(by first | omega | (dsimp only [am_own]; omega)), (by first | omega | (dsimp only [am_own]; omega))⟩), ⟨(by first | omega | (dsimp only [am_own]; omega)), (by first | omega | (dsimp only [am_own]; omega))⟩⟩ (And.intro (fun h2 => ?_) (fun h2 => ?_))
        · have h2 : M'.1 0 24 i = 1 := h2
          rw [if_pos h2]
          refine And.intro ⟨⟨(by first | omega | (dsimp only [am_own]; omega)), (by first | omega | (dsimp only [am_own]; omega))⟩, ⟨(by first | omega | (dsimp only [am_own]; omega)), (by first | omega | (dsimp only [am_own]; omega))⟩⟩ (And.intro (fun h3 => ?_) (fun h3 => ?_))
          · rw [if_pos h3]
            exact ih (i + 1) _ (by omega)
          · rw [if_neg h3]
            exact ⟨rfl, rfl⟩
        · have h2 : ¬ M'.1 0 24 i = 1 := h2
          rw [if_neg h2]
          refine And.intro ⟨⟨(by first | omega | (dsimp only [am_own]; omega)), (by first | omega | (dsimp only [am_own]; omega))⟩, ⟨(by first | omega | (dsimp only [am_own]; omega)), (by first | omega | (dsimp only [am_own]; omega))⟩⟩ (And.intro (fun h3 => ?_) (fun h3 => ?_))
          · rw [if_pos h3]
            exact ih (i + 1) _ (by omega)
          · rw [if_neg h3]
            exact ⟨rfl, rfl⟩
      · exfalso
        have h : ¬ (i : Int) < M.1 0 18 9 := h
        omega
  refine am_ev_of (by decide) (am_le rfl) (am_go 60 [2] (by decide) ?_)
  exact loop _ 0 _ (by omega)
theorem c_M_judge {Γ : Am_G} {d : Nat} {M : Am_M} {n mt : Nat} (hR : RelN M n mt) : am_Ev Γ (d + 2) n_M_judge [.inr (.inr (0, 41))] M (fun r M' => r = some (.inl (jdgL (fun i => vt_carI (M.1 0 19 (M.1 0 21 i).toNat) (M.1 0 22 i) (M.1 0 23 i)) (M.1 0 24) (M.1 0 18 9).toNat 0)) ∧ M' = M) := by
  obtain ⟨w1, w2⟩ := hR.2.2.2.1
  have hH := hR.H
  have b2 := hR.1.2.1
  have b5 := hR.1.2.2.2.2.1
  have loop : ∀ (k i : Nat), i + k = (M.1 0 18 9).toNat → am_At Γ (d + 2) n_M_judge 2 [some (.inr (.inr (0, 41))), some (.inl (i : Int))] [] M (fun r M' => r = some (.inl (jdgL (fun i => vt_carI (M.1 0 19 (M.1 0 21 i).toNat) (M.1 0 22 i) (M.1 0 23 i)) (M.1 0 24) k i)) ∧ M' = M) := by
    intro k
    induction k with
    | zero =>
      intro i hi
      refine am_go 60 [2] (by decide) ?_
      refine And.intro ⟨⟨(by first | omega | (dsimp only [am_own]; omega)), (by first | omega | (dsimp only [am_own]; omega))⟩, (show am_R (M.1 0 41 22) from ⟨(by first | omega | (dsimp only [am_own]; omega)), (by first | omega | (dsimp only [am_own]; omega))⟩)⟩ (And.intro (fun h => ?_) (fun h => ⟨rfl, rfl⟩))
      exfalso
      have h : (i : Int) < M.1 0 41 22 := h
      omega
    | succ k ih =>
      intro i hi
      obtain ⟨⟨u1, u2, u3, u4⟩, v1, v2, v3, v4⟩ := w2 i (by omega)
      have hnd := hH.2.2 (M.1 0 21 i).toNat (by omega)
      have e5 := (b5 (M.1 0 21 i).toNat (by omega)).1
      have p0 := mul_b (a := M.1 0 19 (M.1 0 21 i).toNat) (b := M.1 0 22 i + M.1 0 23 i) (A := 9) (B := 40000) (by omega) (by omega)
      have x0 : (4 * (i : Int)).toNat = i * 4 := by omega
      have x1 : (4 * (i : Int) + 1).toNat = i * 4 + 1 := by omega
      have x2 : (4 * (i : Int) + 2).toNat = i * 4 + 2 := by omega
      have x3 : (4 * (i : Int) + 3).toNat = i * 4 + 3 := by omega
      refine am_go 60 [2] (by decide) ?_
      refine And.intro ⟨⟨(by first | omega | (dsimp only [am_own]; omega)), (by first | omega | (dsimp only [am_own]; omega))⟩, (show am_R (M.1 0 41 22) from ⟨(by first | omega | (dsimp only [am_own]; omega)), (by first | omega | (dsimp only [am_own]; omega))⟩)⟩ (And.intro (fun h => ?_) (fun h => ?_))
      · refine And.intro ⟨(by first | omega | (dsimp only [am_own]; omega)), (by first | omega | (dsimp only [am_own]; omega))⟩ ?_
        refine And.intro ⟨(by first | omega | (dsimp only [am_own]; omega)), (by first | omega | (dsimp only [am_own]; omega))⟩ ?_
        refine And.intro ⟨(by first | omega | (dsimp only [am_own]; omega)), (by first | omega | (dsimp only [am_own]; omega))⟩ ?_
        have hc : am_Ev Γ (d + 1) n_M_isCarried [.inr (.inr (0, 41)), .inl (M.1 0 51 (4 * (i : Int)).toNat), .inl (M.1 0 51 (4 * (i : Int) + 1).toNat), .inl (M.1 0 51 (4 * (i : Int) + 2).toNat)] M (fun r M' => r = some (.inl (vt_carI (M.1 0 19 (M.1 0 21 i).toNat) (M.1 0 22 i) (M.1 0 23 i))) ∧ M' = M) := by
          rw [x0, x1, x2, ← u1, ← u2, ← u3, e5]
          exact c_M_isCarried (Γ := Γ) (d := d) (M := M) (m := (M.1 0 21 i).toNat) (M.1 0 21 i) (M.1 0 22 i) (M.1 0 23 i) (by omega) (by omega) ⟨by omega, by omega⟩ (by rw [← e5]; exact ⟨by omega, by omega⟩)
        refine am_by hc (by omega) ?_
        rintro r M' ⟨rfl, rfl⟩
        rw [jdgL]
        have c01 := vt_carI_01 (M'.1 0 19 (M'.1 0 21 i).toNat) (M'.1 0 22 i) (M'.1 0 23 i)
        generalize vt_carI (M'.1 0 19 (M'.1 0 21 i).toNat) (M'.1 0 22 i) (M'.1 0 23 i) = c at *
        refine And.intro ⟨(by first | omega | (dsimp only [am_own]; omega)), (by first | omega | (dsimp only [am_own]; omega))⟩ ?_
        have y3 : M'.1 0 51 (4 * (i : Int) + 3).toNat = M'.1 0 24 i := by rw [x3]; exact u4.symm
        refine And.intro ⟨am_Re y3 ⟨(by first | omega | (dsimp only [am_own]; omega)), (by first | omega | (dsimp only [am_own]; omega))⟩, ⟨(by first | omega | (dsimp only [am_own]; omega)), (by first | omega | (dsimp only [am_own]; omega))⟩⟩ (And.intro (fun h2 => ?_) (fun h2 => ?_))
        · have h2 : M'.1 0 24 i = 1 := y3.symm.trans h2
          rw [if_pos h2]
          refine And.intro ⟨⟨(by first | omega | (dsimp only [am_own]; omega)), (by first | omega | (dsimp only [am_own]; omega))⟩, ⟨(by first | omega | (dsimp only [am_own]; omega)), (by first | omega | (dsimp only [am_own]; omega))⟩⟩ (And.intro (fun h3 => ?_) (fun h3 => ?_))
          · rw [if_pos h3]
            exact ih (i + 1) (by omega)
          · rw [if_neg h3]
            exact ⟨rfl, rfl⟩
        · have h2 : ¬ M'.1 0 24 i = 1 := fun q => h2 (y3.trans q)
          rw [if_neg h2]
          refine And.intro ⟨⟨(by first | omega | (dsimp only [am_own]; omega)), (by first | omega | (dsimp only [am_own]; omega))⟩, ⟨(by first | omega | (dsimp only [am_own]; omega)), (by first | omega | (dsimp only [am_own]; omega))⟩⟩ (And.intro (fun h3 => ?_) (fun h3 => ?_))
          · rw [if_pos h3]
            exact ih (i + 1) (by omega)
          · rw [if_neg h3]
            exact ⟨rfl, rfl⟩
      · exfalso
        have h : ¬ (i : Int) < M.1 0 41 22 := h
        omega
  refine am_ev_of (by decide) (am_le rfl) (am_go 60 [2] (by decide) ?_)
  exact loop _ 0 (by omega)
theorem P_judge {Γ : Am_G} {M : Am_M} (h : Rel M) : Pair Γ 24 n_R_judge n_M_judge [] M := by
  obtain ⟨n, mt, hR⟩ := id h
  refine am_ev_of (by decide) (am_le rfl) (am_go 60 [] (by decide) ?_)
  refine am_by (c_judge (d := 10) hR) (by omega) ?_
  rintro r M1 ⟨rfl, rfl⟩
  exact Ans.ro h (c_M_judge (d := 22) hR) rfl
theorem RelN.rws {M M' : Am_M} {n mt : Nat} (h : RelN M n mt) (hs : ∀ e p k, relv e p k → ¬ (e = 0 ∧ ((p = 18 ∧ k = 9) ∨ (21 ≤ p ∧ p ≤ 24) ∨ (p = 41 ∧ k = 22) ∨ p = 51)) → M'.1 e p k = M.1 e p k) (hr : rwR M' mt) : RelN M' n mt := by
  obtain ⟨h1, h2, h3, h4, h5, h6⟩ := h
  have hn := h1.1.2.2
  have hm := h1.2.1.2.2
  unfold relv at hs
  exact ⟨h1.fr (fun p k a b => hs 9 p k (by omega) (by omega)) (fun p k a b c => hs 0 p k (by omega) (by omega)) (fun k a => hs 0 41 k (by omega) (by omega)) (fun p k a b => hs 0 p k (by omega) (by omega)), h2.fr hn hm (fun p k a => hs 0 p k (by omega) (by omega)) (fun p k a b => hs 9 p k (by omega) (by omega)) (fun k hk => hs 0 47 k (by omega) (by omega)), h3.fr hn hm (fun e p k a b c => hs e p k (by omega) (by omega)) (fun p k a b => hs 9 p k (by omega) (by omega)) (fun p k a => hs 0 p k (by omega) (by omega)), hr, h5.fr (hs 0 14 1 (by omega) (by omega)) (hs 0 41 6 (by omega) (by omega)) (fun p k a => hs 0 p k (by omega) (by omega)), by rw [hs 0 41 30 (by omega) (by omega), hs 0 41 31 (by omega) (by omega)]; exact h6⟩
theorem P_forget {Γ : Am_G} {M : Am_M} (h : Rel M) : Pair Γ 24 n_R_forget n_M_forget [] M := by
  obtain ⟨n, mt, hR⟩ := id h
  refine am_ev_of (by decide) (am_le rfl) (am_go 60 [] (by decide) ?_)
  refine am_by (c_clearRows (d := 10)) (by omega) ?_
  rintro r M1 ⟨rfl, rfl⟩
  refine ⟨_, rfl, ?_⟩
  refine am_ev_of (by decide) (am_le rfl) (am_go 60 [] (by decide) ?_)
  obtain ⟨w1, w2⟩ := hR.2.2.2.1
  refine ⟨?_, n, mt, hR.rws (fun e p k hr hn => ?_) ⟨?_, fun k hk => ?_⟩⟩
  · refine congrArg (fun z => some (Sum.inl z)) ?_
    show (am_set M 0 18 9 0).1 0 41 22 = _
    rw [set_p (by decide)]
    exact w1.1.symm
  · show (am_set (am_set M 0 18 9 0) 0 41 22 0).1 e p k = _
    unfold relv at hr
    rw [show (am_set (am_set M 0 18 9 0) 0 41 22 0).1 e p k = if k = 22 ∧ p = 41 ∧ e = 0 then 0 else if k = 9 ∧ p = 18 ∧ e = 0 then 0 else M.1 e p k from rfl, if_neg (by omega), if_neg (by omega)]
  · show ((am_set (am_set M 0 18 9 0) 0 41 22 0).1 0 18 9 = (am_set (am_set M 0 18 9 0) 0 41 22 0).1 0 41 22 ∧ _ ∧ _)
    have e1 : (am_set (am_set M 0 18 9 0) 0 41 22 0).1 0 18 9 = 0 := by rw [set_p (by decide)]; exact set_eq
    have e2 : (am_set (am_set M 0 18 9 0) 0 41 22 0).1 0 41 22 = 0 := set_eq
    rw [e1, e2]
    omega
  · exfalso
    have e1 : (am_set (am_set M 0 18 9 0) 0 41 22 0).1 0 18 9 = 0 := by rw [set_p (by decide)]; exact set_eq
    have hk : (k : Int) < (am_set (am_set M 0 18 9 0) 0 41 22 0).1 0 18 9 := hk
    omega
theorem RelN.txs {M M' : Am_M} {n mt : Nat} (h : RelN M n mt) (hs : ∀ e p k, relv e p k → ¬ (e = 0 ∧ (p = 14 ∨ p = 15 ∨ (p = 41 ∧ k = 6) ∨ p = 45)) → M'.1 e p k = M.1 e p k) (hr : txR M') : RelN M' n mt := by
  obtain ⟨h1, h2, h3, h4, h5, h6⟩ := h
  have hn := h1.1.2.2
  have hm := h1.2.1.2.2
  unfold relv at hs
  exact ⟨h1.fr (fun p k a b => hs 9 p k (by omega) (by omega)) (fun p k a b c => hs 0 p k (by omega) (by omega)) (fun k a => hs 0 41 k (by omega) (by omega)) (fun p k a b => hs 0 p k (by omega) (by omega)), h2.fr hn hm (fun p k a => hs 0 p k (by omega) (by omega)) (fun p k a b => hs 9 p k (by omega) (by omega)) (fun k hk => hs 0 47 k (by omega) (by omega)), h3.fr hn hm (fun e p k a b c => hs e p k (by omega) (by omega)) (fun p k a b => hs 9 p k (by omega) (by omega)) (fun p k a => hs 0 p k (by omega) (by omega)), h4.fr (hs 0 18 9 (by omega) (by omega)) (hs 0 41 22 (by omega) (by omega)) (fun p k a => hs 0 p k (by omega) (by omega)), hr, by rw [hs 0 41 30 (by omega) (by omega), hs 0 41 31 (by omega) (by omega)]; exact h6⟩
theorem P_erase {Γ : Am_G} {M : Am_M} (h : Rel M) : Pair Γ 24 n_R_erase n_M_erase [] M := by
  obtain ⟨n, mt, hR⟩ := id h
  refine am_ev_of (by decide) (am_le rfl) (am_go 60 [] (by decide) ?_)
  refine am_by (c_clear (d := 10)) (by omega) ?_
  rintro r M1 ⟨rfl, rfl⟩
  refine ⟨_, rfl, ?_⟩
  refine am_ev_of (by decide) (am_le rfl) (am_go 60 [] (by decide) ?_)
  obtain ⟨w1, w2⟩ := hR.2.2.2.2.1
  have e1 : (am_set (am_set M 0 14 1 0) 0 41 6 0).1 0 14 1 = 0 := by rw [set_p (by decide)]; exact set_eq
  have e2 : (am_set (am_set M 0 14 1 0) 0 41 6 0).1 0 41 6 = 0 := set_eq
  refine ⟨?_, n, mt, hR.txs (fun e p k hr hn => ?_) ⟨?_, fun k hk => ?_⟩⟩
  · refine congrArg (fun z => some (Sum.inl z)) ?_
    show (am_set M 0 14 1 0).1 0 41 6 = _
    rw [set_p (by decide)]
    exact w1.1.symm
  · show (am_set (am_set M 0 14 1 0) 0 41 6 0).1 e p k = _
    unfold relv at hr
    rw [show (am_set (am_set M 0 14 1 0) 0 41 6 0).1 e p k = if k = 6 ∧ p = 41 ∧ e = 0 then 0 else if k = 1 ∧ p = 14 ∧ e = 0 then 0 else M.1 e p k from rfl, if_neg (by omega), if_neg (by omega)]
  · show ((am_set (am_set M 0 14 1 0) 0 41 6 0).1 0 14 1 = (am_set (am_set M 0 14 1 0) 0 41 6 0).1 0 41 6 ∧ _ ∧ _)
    rw [e1, e2]
    omega
  · exfalso
    have hk : (k : Int) < (am_set (am_set M 0 14 1 0) 0 41 6 0).1 0 14 1 := hk
    omega
