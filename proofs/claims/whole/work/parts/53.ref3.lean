/-! the reference: settles, gain, putTo, turn -/
theorem am_R_of (x : Int32) : am_R x.toInt := ⟨by have := x.le_toInt; omega, by have := x.toInt_lt; omega⟩
theorem am_R_and (x y : Int) : am_R (am_and x y) := am_R_of _
theorem am_R_or (x y : Int) : am_R (am_or x y) := am_R_of _
theorem am_R_xor (x y : Int) : am_R (am_xor x y) := am_R_of _
theorem am_R_shl (x y : Int) : am_R (am_shl x y) := am_R_of _
theorem am_R_shr (x y : Int) : am_R (am_shr x y) := am_R_of _
theorem c_M_settles {Γ : Am_G} {d : Nat} {M : Am_M} {n mt : Nat} (hM : wfM M n mt) (hp : 0 ≤ M.1 0 47 0 ∧ M.1 0 47 0 ≤ mt) : am_Ev Γ (d + 4) n_M_settles [.inr (.inr (0, 41))] M (fun r M' => r = some (.inl (if M.1 0 47 0 = mt then -4 else setV (rV M) n)) ∧ msame M M') := by
  obtain ⟨⟨n1, n2, n3, n4⟩, n5, n6, n7, n8, n9, n10, n11⟩ := id hM
  refine am_ev_of (by decide) (am_le rfl) (am_go 60 [] (by decide) ?_)
  refine And.intro ⟨(by first | omega | (dsimp only [am_own]; omega)), (by first | omega | (dsimp only [am_own]; omega))⟩ ?_
  refine And.intro ⟨(show am_R (M.1 0 47 0) from ⟨(by first | omega | (dsimp only [am_own]; omega)), (by first | omega | (dsimp only [am_own]; omega))⟩), (show am_R (M.1 0 41 2) from ⟨(by first | omega | (dsimp only [am_own]; omega)), (by first | omega | (dsimp only [am_own]; omega))⟩)⟩ (And.intro (fun h => ?_) (fun h => ?_))
  · have h : M.1 0 47 0 = M.1 0 41 2 := h
    rw [if_pos (by omega)]
    exact ⟨rfl, rfl, fun _ _ _ _ _ => rfl, fun _ _ _ _ => rfl⟩
  · have h : ¬ M.1 0 47 0 = M.1 0 41 2 := h
    rw [if_neg (by omega)]
    refine And.intro ⟨(by first | omega | (dsimp only [am_own]; omega)), (by first | omega | (dsimp only [am_own]; omega))⟩ ?_
    refine And.intro (show 0 ≤ 1 + M.1 0 47 0 ∧ 1 + M.1 0 47 0 < 92 from ⟨(by first | omega | (dsimp only [am_own]; omega)), (by first | omega | (dsimp only [am_own]; omega))⟩) ?_
    have hb := n9 (M.1 0 47 0).toNat (by omega)
    have e1 : M.1 0 47 (1 + M.1 0 47 0).toNat = (mV (rV M) : Int) := by
      unfold mV
      show M.1 0 47 (1 + M.1 0 47 0).toNat = ((M.1 0 47 (1 + (M.1 0 47 0).toNat)).toNat : Int)
      rw [show (1 + M.1 0 47 0).toNat = 1 + (M.1 0 47 0).toNat by omega]
      omega
    have hmlt : mV (rV M) < mt := mV_lt (rV_wf hM hp) (show M.1 0 47 0 < mt by omega)
    refine am_by (c_M_layVote (d := d) _ hM hmlt e1) (by omega) ?_
    rintro r M1 ⟨rfl, hO⟩
    have hb2 := vtM_b hM hmlt
    refine And.intro ⟨by omega, by omega⟩ (And.intro (fun h2 => ?_) (fun h2 => ?_))
    · exfalso
      have h2 : (vtM M n (mV (rV M))).2.2.2.1 < 0 := h2
      omega
    · exact ⟨congrArg (fun z => some (Sum.inl z)) (show M1.1 0 41 26 = _ from hO.2.1.2.2), hO.1⟩
/-- what a set is worth -/
def gainL (w : Nat → Int) (set : Int) : Nat → Nat → Int → Int
  | 0, _, acc => acc
  | k + 1, m, acc => gainL w set k (m + 1) (if am_and (am_shr set m) 1 = 1 then acc + w m else acc)
theorem gainL_add (w : Nat → Int) (set c : Int) : ∀ (k m : Nat) (acc : Int), gainL w set k m (acc + c) = gainL w set k m acc + c
  | 0, _, _ => rfl
  | k + 1, m, acc => by
    rw [gainL, gainL, ← gainL_add w set c k]
    congr 1
    split <;> omega
theorem gainL_congr {w w' : Nat → Int} {set : Int} : ∀ (k m : Nat) (acc : Int), (∀ j, m ≤ j → j < m + k → w j = w' j) → gainL w set k m acc = gainL w' set k m acc
  | 0, _, _, _ => rfl
  | k + 1, m, acc, h => by
    rw [gainL, gainL, h m (Nat.le_refl m) (by omega)]
    exact gainL_congr k _ _ (fun j h1 h2 => h j (by omega) (by omega))
theorem c_M_gain {Γ : Am_G} {d : Nat} {M : Am_M} {n mt : Nat} {x : Int} (hx : am_R x) (hM : wfM M n mt) (hp : 0 ≤ M.1 0 47 0 ∧ M.1 0 47 0 ≤ mt) : am_Ev Γ (d + 7) n_M_gain [.inr (.inr (0, 41)), .inl x] M (fun r M' => r = some (.inl (if 0 ≤ x ∧ x < n then gainL (fun m => M.1 0 44 (x.toNat * 5 + m)) (carL n (mt - (M.1 0 47 0).toNat) 0 (rV M)) mt 0 100 else -2)) ∧ rF M M') := by
  obtain ⟨⟨n1, n2, n3, n4⟩, n5, n6, n7, n8, n9, n10, n11⟩ := id hM
  have hrf : rF M M := ⟨rfl, fun _ _ _ _ _ _ _ => rfl, fun _ _ _ _ => rfl, fun _ _ => rfl⟩
  refine am_ev_of (by decide) (am_le rfl) (am_go 60 [22] (by decide) ?_)
  refine am_by (c_M_isPerson (d := d) x hx (by omega)) (by omega) ?_
  rintro r M1 ⟨rfl, rfl⟩
  rw [n1]
  by_cases qx : 0 ≤ x ∧ x < n
  · rw [if_pos qx, if_pos qx]
    refine And.intro ⟨(by first | omega | (dsimp only [am_own]; omega)), (by first | omega | (dsimp only [am_own]; omega))⟩ (And.intro (fun h => absurd h (by decide)) (fun _ => ?_))
    refine am_by (c_M_carries (d := d) hM hp) (by omega) ?_
    rintro r M2 ⟨rfl, hF⟩
    generalize carL n (mt - (M1.1 0 47 0).toNat) 0 (rV M1) = set
    obtain ⟨i, rfl⟩ : ∃ i : Nat, x = i := ⟨x.toNat, by omega⟩
    have e2 : M2.1 0 41 2 = mt := (hF.2.2.1 2 (by omega) (by omega) (by omega)).trans n3
    have e44 : ∀ k, M2.1 0 44 k = M1.1 0 44 k := fun k => hF.2.1 0 44 k (by omega) (by omega) (by omega) (by omega)
    have loop : ∀ (k m : Nat) (acc : Int), m + k = mt → am_At Γ (d + 7) n_M_gain 22 [some (.inr (.inr (0, 41))), some (.inl (i : Int)), some (.inl set), some (.inl acc), some (.inl (m : Int))] [] M2 (fun r M' => r = some (.inl (gainL (fun m => M1.1 0 44 (((i : Int)).toNat * 5 + m)) set k m acc)) ∧ rF M1 M') := by
      intro k
      induction k with
      | zero =>
        intro m acc hm
        refine am_go 60 [22] (by decide) ?_
        refine And.intro ⟨⟨(by first | omega | (dsimp only [am_own]; omega)), (by first | omega | (dsimp only [am_own]; omega))⟩, (show am_R (M2.1 0 41 2) from ⟨(by first | omega | (dsimp only [am_own]; omega)), (by first | omega | (dsimp only [am_own]; omega))⟩)⟩ (And.intro (fun h => ?_) (fun h => ⟨rfl, hF⟩))
        exfalso
        have h : (m : Int) < M2.1 0 41 2 := h
        omega
      | succ k ih =>
        intro m acc hm
        rw [gainL]
        refine am_go 60 [22] (by decide) ?_
        refine And.intro ⟨⟨(by first | omega | (dsimp only [am_own]; omega)), (by first | omega | (dsimp only [am_own]; omega))⟩, (show am_R (M2.1 0 41 2) from ⟨(by first | omega | (dsimp only [am_own]; omega)), (by first | omega | (dsimp only [am_own]; omega))⟩)⟩ (And.intro (fun h => ?_) (fun h => ?_))
        · refine And.intro ⟨am_R_and _ _, ⟨(by first | omega | (dsimp only [am_own]; omega)), (by first | omega | (dsimp only [am_own]; omega))⟩⟩ (And.intro (fun h2 => ?_) (fun h2 => ?_))
          · have h2 : am_and (am_shr set m) 1 = 1 := h2
            rw [if_pos h2, ← e44, show ((i : Int)).toNat * 5 + m = (5 * (i : Int) + (m : Int)).toNat by omega]
            exact And.intro ⟨(by first | omega | (dsimp only [am_own]; omega)), (by first | omega | (dsimp only [am_own]; omega))⟩ (ih (m + 1) _ (by omega))
          · have h2 : ¬ am_and (am_shr set m) 1 = 1 := h2
            rw [if_neg h2]
            have := ih (m + 1) (acc + 0) (by omega)
            rw [show gainL (fun m => M1.1 0 44 (((i : Int)).toNat * 5 + m)) set k (m + 1) (acc + 0) = gainL (fun m => M1.1 0 44 (((i : Int)).toNat * 5 + m)) set k (m + 1) acc by rw [Int.add_zero]] at this
            exact this
        · exfalso
          have h : ¬ (m : Int) < M2.1 0 41 2 := h
          omega
    exact loop mt 0 100 (by omega)
  · rw [if_neg qx, if_neg qx]
    refine And.intro ⟨(by first | omega | (dsimp only [am_own]; omega)), (by first | omega | (dsimp only [am_own]; omega))⟩ (And.intro (fun _ => ⟨rfl, hrf⟩) (fun h => absurd rfl h))
/-- what is left of a putTo: q votes ahead, then the matter's own -/
def ppO (M : Am_M) (n mt q x : Nat) (M' : Am_M) : Prop := psame M M' ∧ veq n mt (rV M') (iterV n (q + 1) (rV M)) ∧ M'.1 0 41 24 = (vR (iterV n q (rV M)) n x).2.1 ∧ M'.1 0 41 25 = (vR (iterV n q (rV M)) n x).2.2.1
theorem c_M_putTo {Γ : Am_G} {d : Nat} {M : Am_M} {n mt pu q x : Nat} (hM : wfM M n mt) (hp : M.1 0 47 0 = pu) (hq : pu + q < mt) (hx : M.1 0 47 (1 + (pu + q)) = x) (hfirst : ∀ k, k < pu + q → M.1 0 47 (1 + k) ≠ x) : am_Ev Γ (d + 5) n_M_putTo [.inr (.inr (0, 41)), .inl (x : Int)] M (fun r M' => r = some (.inl (carV (iterV n q (rV M)) n)) ∧ ppO M n mt q x M') := by
  obtain ⟨⟨n1, n2, n3, n4⟩, n5, n6, n7, n8, n9, n10, n11⟩ := id hM
  have hV := rV_wf hM (by omega)
  have hxm : x < mt := by have := n9 (pu + q) hq; omega
  have c01 := carV_01 (iterV n q (rV M)) n
  have fact : ∀ (i : Nat) (M1 : Am_M), i ≤ q + 1 → veq n mt (rV M1) (iterV n i (rV M)) → psame M M1 → wfM M1 n mt ∧ M1.1 0 47 0 = ((pu + i : Nat) : Int) ∧ ∀ k, k < mt → M1.1 0 47 (1 + k) = M.1 0 47 (1 + k) := by
    intro i M1 hi hv hs
    have hW : wfV (iterV n i (rV M)) n mt := iterV_wf i _ hV (by show M.1 0 47 0 + _ ≤ _; omega)
    refine ⟨wfM_ps hM hs (veq_wf hv.symm hW), ?_, fun k hk => ?_⟩
    · refine (hv.1 3 (by omega)).trans ?_
      rw [iterV_03]
      show M.1 0 47 0 + _ = _
      rw [hp]; push_cast; rfl
    · exact ((hv.2.2.1 k hk).2).trans (iterV_7 n i _ _)
  have loop : ∀ (k i : Nat) (z : Int) (M1 : Am_M), i + k = q → veq n mt (rV M1) (iterV n i (rV M)) → psame M M1 → am_At Γ (d + 5) n_M_putTo 2 [some (.inr (.inr (0, 41))), some (.inl (x : Int)), some (.inl z)] [] M1 (fun r M' => r = some (.inl (carV (iterV n q (rV M)) n)) ∧ ppO M n mt q x M') := by
    intro k
    induction k with
    | zero | succ k ih =>
      intro i z M1 hi hv hs
      obtain ⟨f1, f2, f3⟩ := fact i M1 (by omega) hv hs
      have hW1 : wfV (rV M1) n mt := rV_wf f1 (by omega)
      refine am_go 60 [2] (by decide) ?_
      refine am_by (c_M_wasPut (d := d) (q := pu + q) (by omega) ((f3 _ (by omega)).trans hx) (fun k hk => by rw [f3 k (by omega)]; exact hfirst k hk) (fun k hk => by have := n9 k (by omega); have := f3 k (by omega); exact ⟨by omega, by omega⟩) ⟨by omega, by omega⟩) (by omega) ?_
      rintro r M1' ⟨rfl, rfl⟩
      rw [if_neg (by omega)]
      refine And.intro ⟨(by first | omega | (dsimp only [am_own]; omega)), (by first | omega | (dsimp only [am_own]; omega))⟩ (And.intro (fun _ => ?_) (fun h => absurd rfl h))
      refine am_by (c_putNextV (d := d) f1 (by omega) (by omega)) (by omega) ?_
      rintro r M2 ⟨rfl, ⟨M3, hI, rfl⟩, hv2⟩
      have hps := pn_ps (v := M1'.1 0 47 0 + 1) hI
      have hv3 : veq n mt (rV (am_set M3 0 47 0 (M1'.1 0 47 0 + 1))) (iterV n (i + 1) (rV M)) := by
        rw [iterV_succ]
        exact hv2.tr (voteV_congr hv hW1 (show M1'.1 0 47 0 < mt by omega))
      first
        | (have hiq : i = q := by omega
           subst hiq
           have e1 : mV (iterV n i (rV M)) = x := mV_at (V := rV M) hp hx
           have e2 : mV (rV M1') = x := (mV_congr hv ⟨hW1.1.2.2.2.2.1, show M1'.1 0 47 0 < mt by omega⟩).trans e1
           have hR := (vR_congr hv (m := x) hxm).1
           have hc := carV_congr hv hW1 (show M1'.1 0 47 0 < mt by omega)
           obtain ⟨g1, g2, g3⟩ := fact (i + 1) _ (by omega) hv3 (hs.tr hps)
           rw [hc]
           rw [e2] at hI
           refine am_go 60 [] (by decide) ?_
           refine am_by (c_M_wasPut (d := d) (q := pu + i) (by omega) ((g3 _ (by omega)).trans hx) (fun k hk => by rw [g3 k (by omega)]; exact hfirst k hk) (fun k hk => by have := n9 k (by omega); have := g3 k (by omega); exact ⟨by omega, by omega⟩) ⟨by omega, by omega⟩) (by omega) ?_
           rintro r M4 ⟨rfl, rfl⟩
           rw [if_pos (by omega)]
           refine And.intro ⟨(by first | omega | (dsimp only [am_own]; omega)), (by first | omega | (dsimp only [am_own]; omega))⟩ (And.intro (fun h => absurd h (by decide)) (fun _ => ?_))
           refine ⟨c01, rfl, hs.tr hps, hv3, ?_, ?_⟩
           · rw [set_p (by decide), hI.2.1.1, ← hR]
           · rw [set_p (by decide), hI.2.1.2.1, ← hR])
        | exact ih (i + 1) _ _ (by omega) hv3 (hs.tr hps)
  refine am_ev_of (by decide) (am_le rfl) (am_go 60 [2] (by decide) ?_)
  exact loop q 0 0 M (by omega) veq.rf psame.rf
