/-! the class: foretold, straight ahead -/
def eF (e : Nat) (e' p : Nat) : Prop := vS e' p ∨ (e' = e ∧ (p = 0 ∨ p = 7 ∨ p = 9 ∨ p = 10))
/-- all that come, by bits -/
def carL (n : Nat) : Nat → Int → Vw → Int
  | 0, acc, _ => acc
  | k + 1, acc, V => carL n k (am_or acc (am_shl (carV V n) (V 7 (V 0 3).toNat))) (voteV V n)
theorem voteV_7 (V : Vw) (n k : Nat) : voteV V n 7 k = V 7 k := rfl
theorem voteV_03 (V : Vw) (n : Nat) : voteV V n 0 3 = V 0 3 + 1 := rfl
theorem carL_congr {n mt : Nat} : ∀ (k : Nat) (acc : Int) (V V' : Vw), veq n mt V V' → wfV V n mt → V 0 3 + k ≤ mt → carL n k acc V = carL n k acc V'
  | 0, _, _, _, _, _, _ => rfl
  | k + 1, acc, V, V', h, hV, hp => by
    have hp0 := hV.1.2.2.2.2.1
    have hp1 : V 0 3 < mt := by push_cast at hp; omega
    have e3 := h.1 3 (by omega)
    rw [carL, carL, carV_congr h hV hp1, ← e3, (h.2.2.1 (V 0 3).toNat (by omega)).2]
    exact carL_congr k _ _ _ (voteV_congr h hV hp1) (voteV_wf hV hp1) (by rw [voteV_03]; push_cast at hp; omega)
theorem evC_view {M M' : Am_M} {a b n mt : Nat} (h : evC M a b M') (hn : n ≤ 6) (hm : mt ≤ 5) (hb : b ≤ 9) : veq n mt (cV M' a) (cV M b) := by
  obtain ⟨h1, ⟨h2, h3, h4⟩, h5, h6, h7, h8⟩ := h
  have gh : ∀ p k, 18 ≤ p → p ≤ 20 → M'.1 0 p k = M.1 0 p k := fun p k x y => h1.2 0 p k (by omega)
  refine ⟨fun k hk => ?_, fun i hi => h5 i (by omega), fun m hm2 => ⟨gh 19 m (by omega) (by omega), h6 m (by omega)⟩, fun i m hi hm2 => ⟨gh 20 _ (by omega) (by omega), (h7 _ (by omega)).1⟩⟩
  rcases (show k = 0 ∨ k = 1 ∨ k = 2 ∨ k = 3 by omega) with rfl | rfl | rfl | rfl
  · exact h4
  · exact h2
  · exact gh 18 4 (by omega) (by omega)
  · exact h3
theorem c_startFrom {Γ : Am_G} {d : Nat} {M : Am_M} {e : Nat} (hne : 3 ≠ e) : am_Ev Γ (d + 3) n_Foresight_startFrom [.inr (.inr (0, 34)), .inr (.inr (e, 0))] M (fun r M' => r = some (.inr (.inr (3, 0))) ∧ evC M 3 e M') := by
  refine am_ev_of (by decide) (am_le rfl) (am_go 60 [] (by decide) ?_)
  refine And.intro ⟨(by first | omega | (dsimp only [am_own]; omega)), (by first | omega | (dsimp only [am_own]; omega))⟩ ?_
  refine am_by (c_evCopy (d := d) (e := 3) (e2 := e) hne) (by omega) ?_
  rintro r M1 ⟨rfl, h⟩
  refine And.intro ⟨(by first | omega | (dsimp only [am_own]; omega)), (by first | omega | (dsimp only [am_own]; omega))⟩ ?_
  exact ⟨rfl, h⟩
theorem eF_hall (e p : Nat) (h : 18 ≤ p) (h' : p ≤ 20) : ¬ eF e 0 p := by unfold eF vS; omega
theorem c_carriedToEnd {Γ : Am_G} {d : Nat} {M : Am_M} {e n mt : Nat} (hV : wfV (cV M e) n mt) (hH : wfH M mt) : am_Ev Γ (d + 6) n_Foresight_carriedToEnd [.inr (.inr (0, 34)), .inr (.inr (e, 0))] M (fun r M' => r = some (.inl (carL n (mt - (M.1 e 0 7).toNat) 0 (cV M e))) ∧ am_same (eF e) M M') := by
  have loop : ∀ (k i : Nat) (acc : Int) (V : Vw) (M1 : Am_M), i + k = mt → V 0 3 = i → wfV V n mt → veq n mt (cV M1 e) V → am_same (eF e) M M1 → am_At Γ (d + 6) n_Foresight_carriedToEnd 7 [some (.inr (.inr (0, 34))), some (.inr (.inr (e, 0))), some (.inl acc), some (.inl (i : Int))] [] M1 (fun r M' => r = some (.inl (carL n k acc V)) ∧ am_same (eF e) M M') := by
    intro k
    induction k with
    | zero =>
      intro i acc V M1 hi h3 hW hv hs
      have hm6 : M1.1 e 0 6 = mt := (hv.1 1 (by omega)).trans hW.1.2.2.1
      have h5 := hW.1
      refine am_go 60 [7] (by decide) ?_
      refine And.intro ⟨⟨(by first | omega | (dsimp only [am_own]; omega)), (by first | omega | (dsimp only [am_own]; omega))⟩, (show am_R (M1.1 e 0 6) from ⟨(by first | omega | (dsimp only [am_own]; omega)), (by first | omega | (dsimp only [am_own]; omega))⟩)⟩ (And.intro (fun h => ?_) (fun h => ⟨rfl, hs⟩))
      exfalso
      have h : (i : Int) < M1.1 e 0 6 := h
      omega
    | succ k ih =>
      intro i acc V M1 hi h3 hW hv hs
      have hm6 : M1.1 e 0 6 = mt := (hv.1 1 (by omega)).trans hW.1.2.2.1
      have hp7 : M1.1 e 0 7 = i := (hv.1 3 (by omega)).trans h3
      have h5 := hW.1
      have hW1 : wfV (cV M1 e) n mt := veq_wf hv.symm hW
      have hH1 : wfH M1 mt := hH.same hs (eF_hall e)
      refine am_go 60 [7] (by decide) ?_
      refine And.intro ⟨⟨(by first | omega | (dsimp only [am_own]; omega)), (by first | omega | (dsimp only [am_own]; omega))⟩, (show am_R (M1.1 e 0 6) from ⟨(by first | omega | (dsimp only [am_own]; omega)), (by first | omega | (dsimp only [am_own]; omega))⟩)⟩ (And.intro (fun h => ?_) (fun h => ?_))
      · refine am_by (c_runV (d := d) (e := e) hW1 hH1 (by omega)) (by omega) ?_
        rintro r M2 ⟨rfl, hO, hv2⟩
        have ho : M2.1 e 6 i = V 7 i := ((hv2.2.2.1 i (by omega)).2).trans ((hv.2.2.1 i (by omega)).2)
        have hc : carV (cV M1 e) n = carV V n := carV_congr hv hW1 (show M1.1 e 0 7 < mt by omega)
        refine And.intro ⟨(by first | omega | (dsimp only [am_own]; omega)), (by first | omega | (dsimp only [am_own]; omega))⟩ ?_
        have go := ih (i + 1) (am_or acc (am_shl (carV V n) (V 7 (V 0 3).toNat))) (voteV V n) M2 (by omega) (by rw [voteV_03, h3]; rfl) (voteV_wf hW (by omega)) (hv2.tr (voteV_congr hv hW1 (show M1.1 e 0 7 < mt by omega))) (hs.tr hO.1)
        rw [h3, show ((i : Int)).toNat = i from rfl, ← ho, ← hc] at go
        rw [carL, h3, show ((i : Int)).toNat = i from rfl, ← ho, ← hc]
        exact go
      · exfalso
        have h : ¬ (i : Int) < M1.1 e 0 6 := h
        omega
  obtain ⟨pu, hpu⟩ : ∃ pu : Nat, M.1 e 0 7 = pu := ⟨(M.1 e 0 7).toNat, by have : 0 ≤ M.1 e 0 7 := hV.1.2.2.2.2.1; omega⟩
  have hple : M.1 e 0 7 ≤ mt := hV.1.2.2.2.2.2
  refine am_ev_of (by decide) (am_le rfl) (am_go 60 [7] (by decide) ?_)
  have go := loop (mt - pu) pu 0 (cV M e) M (by omega) hpu hV veq.rf am_same.rf
  rw [show (M.1 e 0 7).toNat = pu by omega]
  rw [← hpu] at go
  exact go
/-- cells that a foretelling may use -/
def fF (e' p : Nat) : Prop := vS e' p ∨ (3 ≤ e' ∧ e' ≤ 8 ∧ p ≤ 10) ∨ (34 ≤ p ∧ p ≤ 40)
theorem evC_H {M M' : Am_M} {a b mt : Nat} (h : evC M a b M') (hH : wfH M mt) : wfH M' mt := hH.same h.1 (fun p h1 h2 => by omega)
theorem evC_fF {M M' : Am_M} {b : Nat} (h : evC M 3 b M') : am_same fF M M' := h.1.wk (fun e' p hp => Or.inr (Or.inl (by omega)))
theorem eF_fF {e e' p : Nat} (he : 3 ≤ e ∧ e ≤ 8) (h : eF e e' p) : fF e' p := by
  rcases h with h | ⟨rfl, h⟩
  · exact Or.inl h
  · exact Or.inr (Or.inl (by omega))
theorem c_carriedOf {Γ : Am_G} {d : Nat} {M : Am_M} {n mt : Nat} (hV : wfV (cV M 0) n mt) (hH : wfH M mt) : am_Ev Γ (d + 7) n_Foresight_carriedOf [.inr (.inr (0, 34)), .inr (.inr (0, 0))] M (fun r M' => r = some (.inl (carL n (mt - (M.1 0 0 7).toNat) 0 (cV M 0))) ∧ am_same fF M M') := by
  refine am_ev_of (by decide) (am_le rfl) (am_go 60 [] (by decide) ?_)
  refine am_by (c_startFrom (d := d + 3) (e := 0) (by decide)) (by omega) ?_
  rintro r M1 ⟨rfl, hC⟩
  have hv := evC_view (n := n) (mt := mt) hC hV.1.2.1 hV.1.2.2.2.1 (by omega)
  have hV1 := veq_wf hv.symm hV
  refine am_by (c_carriedToEnd (d := d) (e := 3) hV1 (evC_H hC hH)) (by omega) ?_
  rintro r M2 ⟨rfl, hs⟩
  have e7 : M1.1 3 0 7 = M.1 0 0 7 := hC.2.1.2.1
  refine ⟨?_, (evC_fF hC).tr (hs.wk (fun e' p h => eF_fF (by omega) h))⟩
  rw [e7]
  have hp0 : 0 ≤ M.1 0 0 7 := hV.1.2.2.2.2.1
  have hp1 : M.1 0 0 7 ≤ mt := hV.1.2.2.2.2.2
  exact congrArg (fun z => some (Sum.inl z)) (carL_congr _ _ _ _ hv hV1 (show M1.1 3 0 7 + ((mt - (M.1 0 0 7).toNat : Nat) : Int) ≤ mt by omega))
/-- when the next vote is settled -/
def setV (V : Vw) (n : Nat) : Int := (vR V n (mV V)).2.2.2.2
theorem c_settledAhead {Γ : Am_G} {d : Nat} {M : Am_M} {n mt : Nat} (hV : wfV (cV M 0) n mt) (hH : wfH M mt) (hp : M.1 0 0 7 < mt) : am_Ev Γ (d + 6) n_Foresight_settledAhead [.inr (.inr (0, 34)), .inr (.inr (0, 0))] M (fun r M' => r = some (.inl (setV (cV M 0) n)) ∧ am_same fF M M') := by
  refine am_ev_of (by decide) (am_le rfl) (am_go 60 [] (by decide) ?_)
  refine am_by (c_startFrom (d := d + 2) (e := 0) (by decide)) (by omega) ?_
  rintro r M1 ⟨rfl, hC⟩
  have hv := evC_view (n := n) (mt := mt) hC hV.1.2.1 hV.1.2.2.2.1 (by omega)
  have hV1 := veq_wf hv.symm hV
  have e7 : M1.1 3 0 7 = M.1 0 0 7 := hC.2.1.2.1
  refine am_by (c_runV (d := d) (e := 3) hV1 (evC_H hC hH) (by omega)) (by omega) ?_
  rintro r M2 ⟨rfl, hO, hv2⟩
  refine ⟨?_, (evC_fF hC).tr (hO.1.wk (fun e' p h => eF_fF (e := 3) (by omega) h))⟩
  have hm := mV_lt hV1 (show M1.1 3 0 7 < mt by omega)
  have e1 := mV_congr hv ⟨hV1.1.2.2.2.2.1, show M1.1 3 0 7 < mt by omega⟩
  have hR := vR_congr hv hm
  refine congrArg (fun z => some (Sum.inl z)) ?_
  refine hO.2.2.2.2.2.2.2.trans ?_
  show (vR (cV M1 3) n (mV (cV M1 3))).2.2.2.2 = setV (cV M 0) n
  unfold setV
  rw [hR.1, ← e1]
