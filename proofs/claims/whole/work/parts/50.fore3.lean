/-! the class: bought, hour -/
/-- seconds s, s + 1 ..: the first that makes it carried -/
def boughtS (need f a : Int) : Nat → Int → Int
  | 0, _ => -1
  | k + 1, s => if need * (f + s + a) < 10 * (f + s) then s else boughtS need f a k (s + 1)
theorem c_bought {Γ : Am_G} {d : Nat} {M : Am_M} {n mt pu q x : Nat} (hV : wfV (cV M 0) n mt) (hH : wfH M mt) (hp : M.1 0 0 7 = pu) (hq : pu + q < mt) (hx : M.1 0 6 (pu + q) = x) (hfirst : ∀ k, k < q → M.1 0 6 (pu + k) ≠ x) : am_Ev Γ (d + 7) n_Foresight_boughtSeconds [.inr (.inr (0, 34)), .inr (.inr (0, 0)), .inl (x : Int)] M (fun r M' => r = some (.inl (boughtS (M.1 0 19 x) (vR (iterV n q (cV M 0)) n x).2.1 (vR (iterV n q (cV M 0)) n x).2.2.1 201 0)) ∧ am_same fF M M') := by
  have hb := hV.1
  have hxm : x < mt := by have := (hV.2.2.2.1 (pu + q) hq).2; have h2 : cV M 0 7 (pu + q) = x := hx; omega
  have hWq : wfV (iterV n q (cV M 0)) n mt := iterV_wf q _ hV (by show M.1 0 0 7 + _ ≤ _; omega)
  obtain ⟨-, bF, bA, -⟩ := vR_b hWq hxm
  have hnd := hH.2.2 x hxm
  generalize hF : (vR (iterV n q (cV M 0)) n x).2.1 = F at *
  generalize hA : (vR (iterV n q (cV M 0)) n x).2.2.1 = A at *
  have loop : ∀ (k : Nat) (s : Int) (M1 : Am_M), s + k = 201 → 0 ≤ s → am_same fF M M1 → am_At Γ (d + 7) n_Foresight_boughtSeconds 31 [some (.inr (.inr (0, 34))), some (.inr (.inr (0, 0))), some (.inl (x : Int)), some (.inr (.inr (3, 0))), some (.inl F), some (.inl A), some (.inl s)] [] M1 (fun r M' => r = some (.inl (boughtS (M.1 0 19 x) F A k s)) ∧ am_same fF M M') := by
    intro k
    induction k with
    | zero =>
      intro s M1 hs h0 hsm
      refine am_go 60 [31] (by decide) ?_
      refine And.intro ⟨⟨(by first | omega | (dsimp only [am_own]; omega)), (by first | omega | (dsimp only [am_own]; omega))⟩, ⟨(by first | omega | (dsimp only [am_own]; omega)), (by first | omega | (dsimp only [am_own]; omega))⟩⟩ (And.intro (fun h => ⟨rfl, hsm⟩) (fun h => ?_))
      exfalso; omega
    | succ k ih =>
      intro s M1 hs h0 hsm
      have e19 : M1.1 0 19 x = M.1 0 19 x := hsm.2 0 19 x (by unfold fF vS; omega)
      have p0 := mul_b (a := M.1 0 19 x) (b := F + s + A) (A := 9) (B := 40000) (by omega) (by omega)
      refine am_go 60 [31] (by decide) ?_
      refine And.intro ⟨⟨(by first | omega | (dsimp only [am_own]; omega)), (by first | omega | (dsimp only [am_own]; omega))⟩, ⟨(by first | omega | (dsimp only [am_own]; omega)), (by first | omega | (dsimp only [am_own]; omega))⟩⟩ (And.intro (fun h => ?_) (fun h => ?_))
      · exfalso; omega
      · refine And.intro ⟨(by first | omega | (dsimp only [am_own]; omega)), (by first | omega | (dsimp only [am_own]; omega))⟩ ?_
        have hc := c_isCarried (Γ := Γ) (d := d) (M := M1) (M.1 0 19 x) (F + s) A ⟨by omega, by omega⟩ ⟨by omega, by omega⟩
        rw [← e19] at hc
        refine am_by hc (by omega) ?_
        rintro r M2 ⟨rfl, rfl⟩
        rw [e19, boughtS]
        by_cases qq : M.1 0 19 x * (F + s + A) < 10 * (F + s)
        · rw [if_pos qq, if_pos qq]
          refine And.intro ⟨(by first | omega | (dsimp only [am_own]; omega)), (by first | omega | (dsimp only [am_own]; omega))⟩ (And.intro (fun h3 => absurd h3 (by decide)) (fun _ => ⟨rfl, hsm⟩))
        · rw [if_neg qq, if_neg qq]
          refine And.intro ⟨(by first | omega | (dsimp only [am_own]; omega)), (by first | omega | (dsimp only [am_own]; omega))⟩ (And.intro (fun _ => ih (s + 1) M2 (by omega) (by omega) hsm) (fun h3 => absurd rfl h3))
  refine am_ev_of (by decide) (am_le rfl) (am_go 60 [31] (by decide) ?_)
  refine am_by (c_startFrom (d := d + 3) (e := 0) (by decide)) (by omega) ?_
  rintro r M1 ⟨rfl, hC⟩
  have hv1 := evC_view (n := n) (mt := mt) hC hb.2.1 hb.2.2.2.1 (by omega)
  have hW1 : wfV (cV M1 3) n mt := veq_wf hv1.symm hV
  have p3 : M1.1 3 0 7 = pu := (hv1.1 3 (by omega)).trans hp
  have o3 : ∀ j, j < mt → M1.1 3 6 j = M.1 0 6 j := fun j hj => (hv1.2.2.1 j hj).2
  refine am_by (c_putTill (d := d) (M := M1) (e := 3) (q := q) (x := x) hW1 (evC_H hC hH) p3 hq ((o3 _ hq).trans hx) (fun k hk => by rw [o3 _ (by omega)]; exact hfirst k hk)) (by omega) ?_
  rintro r M2 ⟨rfl, hO⟩
  have hit : veq n mt (iterV n q (cV M1 3)) (iterV n q (cV M 0)) := iterV_congr q _ _ hv1 hW1 (by show M1.1 3 0 7 + _ ≤ _; omega)
  have hR := (vR_congr hit (m := x) hxm).1
  have r0 : M2.1 3 10 ((x : Int) * 4 + 0).toNat = F := by rw [show ((x : Int) * 4 + 0).toNat = x * 4 + 0 by omega, hO.2.2.1, hR]; exact hF
  have r1 : M2.1 3 10 ((x : Int) * 4 + 1).toNat = A := by rw [show ((x : Int) * 4 + 1).toNat = x * 4 + 1 by omega, hO.2.2.2.1, hR]; exact hA
  have hs2 : am_same fF M M2 := (evC_fF hC).tr (hO.1.wk (fun e' p h => eF_fF (by omega) h))
  refine am_by (c_resultOf (d := d) 3 (x : Int) 0 (by omega)) (by omega) ?_
  rintro r M3 ⟨rfl, rfl⟩
  refine am_by (c_resultOf (d := d) 3 (x : Int) 1 (by omega)) (by omega) ?_
  rintro r M4 ⟨rfl, rfl⟩
  rw [r0, r1]
  exact loop 201 0 M4 (by omega) (by omega) hs2
/-- a view of one hour each -/
def hV (V : Vw) (h : Int) : Vw := fun c k => if c = 0 ∧ k = 3 then 0 else if c = 2 then h else if c = 3 then 0 else if c = 8 then h else V c k
theorem hV_wf {V : Vw} {n mt : Nat} {h : Int} (hW : wfV V n mt) (hh : 0 ≤ h ∧ h ≤ 99) : wfV (hV V h) n mt := by
  obtain ⟨h1, h2, h3, h4, h5⟩ := hW
  refine ⟨⟨h1.1, h1.2.1, h1.2.2.1, h1.2.2.2.1, Int.le_refl 0, ?_⟩, h2, fun j hj => ?_, h4, h5⟩
  · show (0 : Int) ≤ mt
    omega
  · obtain ⟨a, b, c1, d, e⟩ := h3 j hj
    exact ⟨a, hh, by show (0 : Int) ≤ 0 ∧ (0 : Int) ≤ 9; omega, d, hh⟩
theorem c_hourC {Γ : Am_G} {d : Nat} {M : Am_M} {n mt : Nat} {h : Int} (hW : wfV (cV M 0) n mt) (hH : wfH M mt) (hh : 0 ≤ h ∧ h ≤ 99) : am_Ev Γ (d + 7) n_Foresight_carriedInHour [.inr (.inr (0, 34)), .inr (.inr (0, 0)), .inl h] M (fun r M' => r = some (.inl (carL n mt 0 (hV (cV M 0) h))) ∧ am_same fF M M') := by
  have hb := hW.1
  refine am_ev_of (by decide) (am_le rfl) (am_go 60 [14] (by decide) ?_)
  refine am_by (c_startFrom (d := d + 3) (e := 0) (by decide)) (by omega) ?_
  rintro r M1 ⟨rfl, hC⟩
  have hv1 := evC_view (n := n) (mt := mt) hC hb.2.1 hb.2.2.2.1 (by omega)
  have hn1 : M1.1 3 1 4 = n := (hv1.1 0 (by omega)).trans hb.1
  have loop : ∀ (k i : Nat) (M2 : Am_M), i + k = n → am_same (fun e' p => e' = 3 ∧ (p = 0 ∨ p = 7 ∨ p = 4 ∨ p = 3)) M1 M2 → M2.1 3 0 7 = 0 → M2.1 3 0 6 = M1.1 3 0 6 → (∀ j, j < i → M2.1 3 7 j = h ∧ M2.1 3 4 j = 0 ∧ M2.1 3 3 j = h) → am_At Γ (d + 7) n_Foresight_carriedInHour 14 [some (.inr (.inr (0, 34))), some (.inr (.inr (0, 0))), some (.inl h), some (.inr (.inr (3, 0))), some (.inl (i : Int))] [] M2 (fun r M' => r = some (.inl (carL n mt 0 (hV (cV M 0) h))) ∧ am_same fF M M') := by
    intro k
    induction k with
    | zero =>
      intro i M2 hi hs h07 h06 hj
      have : i = n := by omega
      subst this
      have hn2 : M2.1 3 1 4 = i := (hs.2 3 1 4 (by omega)).trans hn1
      have hv2 : veq i mt (cV M2 3) (hV (cV M 0) h) := by
        refine ⟨fun k hk => ?_, fun j hj2 => ?_, fun m hm => ?_, fun j m hj2 hm => ?_⟩
        · have := hv1.1 k hk
          rcases (show k = 0 ∨ k = 1 ∨ k = 2 ∨ k = 3 by omega) with rfl | rfl | rfl | rfl
          · exact (hs.2 3 1 4 (by omega)).trans this
          · exact h06.trans this
          · exact (hs.2 0 18 4 (by omega)).trans this
          · exact h07
        · obtain ⟨a, b, c1, d4, e5⟩ := hv1.2.1 j hj2
          obtain ⟨x1, x2, x3⟩ := hj j hj2
          exact ⟨(hs.2 3 2 j (by omega)).trans a, x3, x2, (hs.2 3 5 j (by omega)).trans d4, x1⟩
        · obtain ⟨a, b⟩ := hv1.2.2.1 m hm
          exact ⟨(hs.2 0 19 m (by omega)).trans a, (hs.2 3 6 m (by omega)).trans b⟩
        · obtain ⟨a, b⟩ := hv1.2.2.2 j m hj2 hm
          exact ⟨(hs.2 0 20 _ (by omega)).trans a, (hs.2 3 8 _ (by omega)).trans b⟩
      have hW2 : wfV (cV M2 3) i mt := veq_wf hv2.symm (hV_wf hW hh)
      have hH2 : wfH M2 mt := (evC_H hC hH).same hs (fun p a b => by omega)
      refine am_go 60 [14] (by decide) ?_
      refine And.intro ⟨⟨(by first | omega | (dsimp only [am_own]; omega)), (by first | omega | (dsimp only [am_own]; omega))⟩, (show am_R (M2.1 3 1 4) from ⟨(by first | omega | (dsimp only [am_own]; omega)), (by first | omega | (dsimp only [am_own]; omega))⟩)⟩ (And.intro (fun hz => ?_) (fun hz => ?_))
      · exfalso
        have hz : (i : Int) < M2.1 3 1 4 := hz
        omega
      · refine am_by (c_carriedToEnd (d := d) (e := 3) hW2 hH2) (by omega) ?_
        rintro r M3 ⟨rfl, hs3⟩
        rw [h07]
        refine ⟨congrArg (fun z => some (Sum.inl z)) ?_, ((evC_fF hC).tr (hs.wk (fun e' p hp => Or.inr (Or.inl (by omega))))).tr (hs3.wk (fun e' p hp => eF_fF (by omega) hp))⟩
        exact carL_congr mt 0 _ _ hv2 hW2 (by show M2.1 3 0 7 + _ ≤ _; omega)
    | succ k ih =>
      intro i M2 hi hs h07 h06 hj
      have hn2 : M2.1 3 1 4 = n := (hs.2 3 1 4 (by omega)).trans hn1
      refine am_go 60 [14] (by decide) ?_
      refine And.intro ⟨⟨(by first | omega | (dsimp only [am_own]; omega)), (by first | omega | (dsimp only [am_own]; omega))⟩, (show am_R (M2.1 3 1 4) from ⟨(by first | omega | (dsimp only [am_own]; omega)), (by first | omega | (dsimp only [am_own]; omega))⟩)⟩ (And.intro (fun hz => ?_) (fun hz => ?_))
      · refine And.intro ⟨(by first | omega | (dsimp only [am_own]; omega)), (by first | omega | (dsimp only [am_own]; omega))⟩ ?_
        refine And.intro ⟨(by first | omega | (dsimp only [am_own]; omega)), (by first | omega | (dsimp only [am_own]; omega))⟩ ?_
        refine And.intro ⟨(by first | omega | (dsimp only [am_own]; omega)), (by first | omega | (dsimp only [am_own]; omega))⟩ ?_
        refine ih (i + 1) (am_set (am_set (am_set M2 3 7 i h) 3 4 i 0) 3 3 i h) (by omega) (((hs.set ⟨rfl, by omega⟩).set ⟨rfl, by omega⟩).set ⟨rfl, by omega⟩) ?_ ?_ (fun j hj2 => ?_)
        · rw [set_p (by decide), set_p (by decide), set_p (by decide)]; exact h07
        · rw [set_p (by decide), set_p (by decide), set_p (by decide)]; exact h06
        · by_cases qj : j = i
          · subst qj
            refine ⟨?_, ?_, set_eq⟩
            · rw [set_p (by decide), set_p (by decide)]; exact set_eq
            · rw [set_p (by decide)]; exact set_eq
          · rw [set_k qj, set_k qj, set_k qj, set_k qj, set_k qj, set_k qj, set_k qj, set_k qj, set_k qj]
            exact hj j (by omega)
      · exfalso
        have hz : ¬ (i : Int) < M2.1 3 1 4 := hz
        omega
  exact loop n 0 (am_set M1 3 0 7 0) (by omega) (am_same.rf.set ⟨rfl, Or.inl rfl⟩) set_eq (set_k (by decide)) (fun j hj => absurd hj (by omega))
