/-! pairs: foretold -/
theorem cV_same {M M1 : Am_M} {e : Nat} (hs : ∀ p k, p ≤ 8 → M1.1 e p k = M.1 e p k) (h18 : ∀ p k, 18 ≤ p → p ≤ 20 → M1.1 0 p k = M.1 0 p k) : cV M1 e = cV M e := by
  funext c k
  unfold cV
  split
  · split
    · exact hs _ _ (by omega)
    · exact hs _ _ (by omega)
    · exact h18 _ _ (by omega) (by omega)
    · exact hs _ _ (by omega)
    · rfl
  all_goals first | exact hs _ _ (by omega) | exact h18 _ _ (by omega) (by omega) | rfl
theorem cV_ff {M M1 : Am_M} (hs : am_same fF M M1) : cV M1 0 = cV M 0 := cV_same (fun p k h => hs.2 0 p k (by unfold fF vS; omega)) (fun p k h h' => hs.2 0 p k (by unfold fF vS; omega))
theorem RelN.pr {M : Am_M} {n mt : Nat} (h : RelN M n mt) : 0 ≤ M.1 0 47 0 ∧ M.1 0 47 0 ≤ mt := by have := h.2.1.2.2.1; omega
theorem RelN.p7 {M : Am_M} {n mt : Nat} (h : RelN M n mt) : M.1 0 47 0 = M.1 0 0 7 := h.2.1.2.2.1.1.symm
theorem RelN.car {M : Am_M} {n mt : Nat} (h : RelN M n mt) : carL n (mt - (M.1 0 47 0).toNat) 0 (rV M) = carL n (mt - (M.1 0 0 7).toNat) 0 (cV M 0) := by
  rw [h.p7]
  have hp := h.pr
  have h7 := h.p7
  exact carL_congr _ _ _ _ h.vq (veq_wf h.vq.symm h.V) (by show M.1 0 47 0 + _ ≤ _; omega)
theorem P_carries {Γ : Am_G} {M : Am_M} (h : Rel M) : Pair Γ 24 n_R_carries n_M_carries [] M := by
  obtain ⟨n, mt, hR⟩ := h
  refine am_ev_of (by decide) (am_le rfl) (am_go 60 [] (by decide) ?_)
  refine am_by (c_carriedOf (d := 16) hR.V hR.H) (by omega) ?_
  rintro r M1 ⟨rfl, hs⟩
  refine ⟨_, rfl, ?_⟩
  have hR1 := hR.ff hs
  refine am_mono (c_M_carries (d := 18) hR1.wM hR1.pr) (fun r M2 hr => ⟨?_, n, mt, hR1.rf2 hr.2⟩)
  rw [hr.1, hR1.car, cV_ff hs, hs.2 0 0 7 (by unfold fF vS; omega)]
theorem c_worthOfSet {Γ : Am_G} {d : Nat} {M : Am_M} {mt i : Nat} {set : Int} (hm : M.1 0 18 3 = mt) (hm5 : mt ≤ 5) (hi : i < 6) : am_Ev Γ (d + 3) n_Hall_worthOfSet [.inr (.inr (0, 18)), .inl (i : Int), .inl set] M (fun r M' => r = some (.inl (gainL (fun m => M.1 0 20 (i * 5 + m)) set mt 0 0)) ∧ M' = M) := by
  have loop : ∀ (k m : Nat) (acc : Int), m + k = mt → am_At Γ (d + 3) n_Hall_worthOfSet 5 [some (.inr (.inr (0, 18))), some (.inl (i : Int)), some (.inl set), some (.inl acc), some (.inl (m : Int))] [] M (fun r M' => r = some (.inl (gainL (fun m => M.1 0 20 (i * 5 + m)) set k m acc)) ∧ M' = M) := by
    intro k
    induction k with
    | zero =>
      intro m acc hm2
      refine am_go 60 [5] (by decide) ?_
      refine And.intro ⟨⟨(by first | omega | (dsimp only [am_own]; omega)), (by first | omega | (dsimp only [am_own]; omega))⟩, (show am_R (M.1 0 18 3) from ⟨(by first | omega | (dsimp only [am_own]; omega)), (by first | omega | (dsimp only [am_own]; omega))⟩)⟩ (And.intro (fun h => ?_) (fun h => ⟨rfl, rfl⟩))
      exfalso
      have h : (m : Int) < M.1 0 18 3 := h
      omega
    | succ k ih =>
      intro m acc hm2
      rw [gainL]
      refine am_go 60 [5] (by decide) ?_
      refine And.intro ⟨⟨(by first | omega | (dsimp only [am_own]; omega)), (by first | omega | (dsimp only [am_own]; omega))⟩, (show am_R (M.1 0 18 3) from ⟨(by first | omega | (dsimp only [am_own]; omega)), (by first | omega | (dsimp only [am_own]; omega))⟩)⟩ (And.intro (fun h => ?_) (fun h => ?_))
      · refine And.intro ⟨am_R_and _ _, ⟨(by first | omega | (dsimp only [am_own]; omega)), (by first | omega | (dsimp only [am_own]; omega))⟩⟩ (And.intro (fun h2 => ?_) (fun h2 => ?_))
        · have h2 : am_and (am_shr set m) 1 = 1 := h2
          refine am_by (c_worthTo (d := d) (i : Int) (m : Int) (by omega)) (by omega) ?_
          rintro r M' ⟨rfl, rfl⟩
          rw [if_pos h2, show i * 5 + m = ((i : Int) * 5 + (m : Int)).toNat by omega]
          exact ih (m + 1) _ (by omega)
        · have h2 : ¬ am_and (am_shr set m) 1 = 1 := h2
          rw [if_neg h2]
          exact ih (m + 1) _ (by omega)
      · exfalso
        have h : ¬ (m : Int) < M.1 0 18 3 := h
        omega
  refine am_ev_of (by decide) (am_le rfl) (am_go 60 [5] (by decide) ?_)
  exact loop mt 0 0 (by omega)
theorem P_gain {Γ : Am_G} {M : Am_M} {x : Int} (h : Rel M) (hx : am_R x) : Pair Γ 24 n_R_gain n_M_gain [.inl x] M := by
  obtain ⟨n, mt, hR⟩ := h
  have b1 := hR.1.1
  have b2 := hR.1.2.1
  refine am_ev_of (by decide) (am_le rfl) (am_go 60 [] (by decide) ?_)
  refine am_by (c_isPerson (d := 10) x hx ⟨by omega, by omega⟩) (by omega) ?_
  rintro r M0 ⟨rfl, rfl⟩
  rw [b1.1]
  by_cases qx : 0 ≤ x ∧ x < n
  · rw [if_pos qx]
    refine And.intro ⟨(by first | omega | (dsimp only [am_own]; omega)), (by first | omega | (dsimp only [am_own]; omega))⟩ (And.intro (fun h => absurd h (by decide)) (fun _ => ?_))
    refine am_by (c_carriedOf (d := 10) hR.V hR.H) (by omega) ?_
    rintro r M1 ⟨rfl, hs⟩
    have hR1 := hR.ff hs
    obtain ⟨i, rfl⟩ : ∃ i : Nat, x = i := ⟨x.toNat, by omega⟩
    refine am_by (c_worthOfSet (d := 10) (mt := mt) hR1.1.2.1.1 hR1.1.2.1.2.2 (by omega)) (by omega) ?_
    rintro r M1' ⟨rfl, rfl⟩
    refine ⟨_, rfl, ?_⟩
    refine am_mono (c_M_gain (d := 17) hx hR1.wM hR1.pr) (fun r M2 hr => ⟨?_, n, mt, hR1.rf2 hr.2⟩)
    rw [hr.1, if_pos qx, hR1.car, cV_ff hs, hs.2 0 0 7 (by unfold fF vS; omega), ← gainL_add]
    refine congrArg (fun z => some (Sum.inl z)) ?_
    exact gainL_congr _ _ _ (fun j _ hj => (hR1.1.2.2.2.2.2.1 i j (by omega) (by omega)).symm)
  · rw [if_neg qx]
    refine And.intro ⟨(by first | omega | (dsimp only [am_own]; omega)), (by first | omega | (dsimp only [am_own]; omega))⟩ (And.intro (fun _ => ?_) (fun h => absurd rfl h))
    refine ⟨_, rfl, ?_⟩
    refine am_mono (c_M_gain (d := 17) hx hR.wM hR.pr) (fun r M2 hr => ⟨?_, n, mt, hR.rf2 hr.2⟩)
    rw [hr.1, if_neg qx]
theorem setV_congr {n mt : Nat} {V V' : Vw} (h : veq n mt V V') (hV : wfV V n mt) (hp : V 0 3 < mt) : setV V n = setV V' n := by
  have hm := mV_lt hV hp
  have e1 := mV_congr h ⟨hV.1.2.2.2.2.1, hp⟩
  have hR := vR_congr h hm
  unfold setV
  rw [hR.1, ← e1]
theorem P_settles {Γ : Am_G} {M : Am_M} (h : Rel M) : Pair Γ 24 n_R_settles n_M_settles [] M := by
  obtain ⟨n, mt, hR⟩ := h
  have a1 := hR.2.1.1
  have a3 := hR.2.1.2.2.1
  have b2 := hR.1.2.1
  refine am_ev_of (by decide) (am_le rfl) (am_go 60 [] (by decide) ?_)
  refine am_by (c_toCome (d := 10) 0) (by omega) ?_
  rintro r M0 ⟨rfl, rfl⟩
  refine And.intro ⟨by omega, by omega⟩ (And.intro (fun h => ?_) (fun h => ?_))
  · have h : M0.1 0 0 6 - M0.1 0 0 7 = 0 := h
    refine ⟨_, rfl, ?_⟩
    refine am_mono (c_M_settles (d := 20) hR.wM hR.pr) (fun r M2 hr => ⟨?_, n, mt, hR.rf2 hr.2.rf2⟩)
    rw [hr.1, if_pos (by omega)]
  · have h : ¬ M0.1 0 0 6 - M0.1 0 0 7 = 0 := h
    refine am_by (c_settledAhead (d := 10) hR.V hR.H (by omega)) (by omega) ?_
    rintro r M1 ⟨rfl, hs⟩
    have hR1 := hR.ff hs
    have e7 : M1.1 0 0 7 = M0.1 0 0 7 := hs.2 0 0 7 (by unfold fF vS; omega)
    have e8 := hR1.p7
    refine ⟨_, rfl, ?_⟩
    refine am_mono (c_M_settles (d := 20) hR1.wM hR1.pr) (fun r M2 hr => ⟨?_, n, mt, hR1.rf2 hr.2.rf2⟩)
    rw [hr.1, if_neg (by omega), setV_congr hR1.vq (veq_wf hR1.vq.symm hR1.V) (show M1.1 0 47 0 < mt by omega), cV_ff hs]
theorem P_hour {Γ : Am_G} {M : Am_M} {x : Int} (h : Rel M) (hx : am_R x) : Pair Γ 24 n_R_hour n_M_hour [.inl x] M := by
  obtain ⟨n, mt, hR⟩ := h
  have out : ¬ (0 ≤ x ∧ x ≤ 99) → Ans Γ 24 n_M_hour [.inl x] (some (.inl (-3))) M := fun q => by
    refine ⟨_, rfl, ?_⟩
    refine am_mono (c_M_hour (d := 18) hx hR.wM hR.2.2.2.2.2.2 hR.pr) (fun r M2 hr => ⟨?_, n, mt, hR.rf2 hr.2⟩)
    rw [hr.1, if_neg q]
  refine am_ev_of (by decide) (am_le rfl) (am_go 60 [] (by decide) ?_)
  refine And.intro hx (And.intro (fun h => out (by omega)) (fun h => ?_))
  refine And.intro ⟨hx, ⟨(by first | omega | (dsimp only [am_own]; omega)), (by first | omega | (dsimp only [am_own]; omega))⟩⟩ (And.intro (fun h2 => out (by omega)) (fun h2 => ?_))
  refine am_by (c_hourC (d := 10) hR.V hR.H (by omega)) (by omega) ?_
  rintro r M1 ⟨rfl, hs⟩
  have hR1 := hR.ff hs
  refine ⟨_, rfl, ?_⟩
  refine am_mono (c_M_hour (d := 18) hx hR1.wM hR1.2.2.2.2.2.2 hR1.pr) (fun r M2 hr => ⟨?_, n, mt, hR1.rf2 hr.2⟩)
  rw [hr.1, if_pos (by omega), ← cV_ff hs]
  have hv : veq n mt (hV (rV M1) x) (hV (cV M1 0) x) := by
    obtain ⟨q1, q2, q3, q4⟩ := hR1.vq
    refine ⟨fun k hk => ?_, fun i hi => ?_, q3, q4⟩
    · rcases (show k = 0 ∨ k = 1 ∨ k = 2 ∨ k = 3 by omega) with rfl | rfl | rfl | rfl
      · exact q1 0 hk
      · exact q1 1 hk
      · exact q1 2 hk
      · rfl
    · obtain ⟨z1, z2, z3, z4, z5⟩ := q2 i hi
      exact ⟨z1, rfl, rfl, z4, rfl⟩
  refine congrArg (fun z => some (Sum.inl z)) ?_
  exact carL_congr _ _ _ _ hv (hV_wf (veq_wf hR1.vq.symm hR1.V) (by omega)) (by show (0 : Int) + _ ≤ _; omega)
