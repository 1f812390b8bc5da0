/-! the class: hour, turn, bought -/
def iterV (n : Nat) : Nat → Vw → Vw
  | 0, V => V
  | k + 1, V => iterV n k (voteV V n)
theorem iterV_succ (n : Nat) : ∀ (k : Nat) (V : Vw), iterV n (k + 1) V = voteV (iterV n k V) n
  | 0, _ => rfl
  | k + 1, V => iterV_succ n k (voteV V n)
theorem iterV_03 (n : Nat) : ∀ (k : Nat) (V : Vw), iterV n k V 0 3 = V 0 3 + k
  | 0, V => (Int.add_zero _).symm
  | k + 1, V => by rw [iterV, iterV_03 n k, voteV_03]; push_cast; omega
theorem iterV_7 (n : Nat) : ∀ (k : Nat) (V : Vw) (j : Nat), iterV n k V 7 j = V 7 j
  | 0, _, _ => rfl
  | k + 1, V, j => iterV_7 n k (voteV V n) j
theorem iterV_wf {n mt : Nat} : ∀ (k : Nat) (V : Vw), wfV V n mt → V 0 3 + k ≤ mt → wfV (iterV n k V) n mt
  | 0, _, h, _ => h
  | k + 1, V, h, hp => by
    have h3 : V 0 3 < mt := by push_cast at hp; omega
    exact iterV_wf k (voteV V n) (voteV_wf h h3) (by rw [voteV_03]; push_cast at hp; omega)
theorem iterV_congr {n mt : Nat} : ∀ (k : Nat) (V V' : Vw), veq n mt V V' → wfV V n mt → V 0 3 + k ≤ mt → veq n mt (iterV n k V) (iterV n k V')
  | 0, _, _, h, _, _ => h
  | k + 1, V, V', h, hV, hp => by
    have h3 : V 0 3 < mt := by push_cast at hp; omega
    exact iterV_congr k _ _ (voteV_congr h hV h3) (voteV_wf hV h3) (by rw [voteV_03]; push_cast at hp; omega)
/-- what is left of a putTill: q votes ahead, then the matter's own -/
def ptO (M : Am_M) (e n mt q x : Nat) (M' : Am_M) : Prop := am_same (eF e) M M' ∧ veq n mt (cV M' e) (iterV n (q + 1) (cV M e)) ∧ M'.1 e 10 (x * 4 + 0) = (vR (iterV n q (cV M e)) n x).2.1 ∧ M'.1 e 10 (x * 4 + 1) = (vR (iterV n q (cV M e)) n x).2.2.1 ∧ M'.1 e 10 (x * 4 + 2) = carV (iterV n q (cV M e)) n
theorem mV_at {V : Vw} {n k q : Nat} {x : Nat} (h3 : V 0 3 = q) (h7 : V 7 (q + k) = x) : mV (iterV n k V) = x := by
  unfold mV
  rw [iterV_03, h3, iterV_7, show ((q : Int) + (k : Int)).toNat = q + k by omega, h7]
  rfl
theorem c_putTill {Γ : Am_G} {d : Nat} {M : Am_M} {e n mt pu q x : Nat} (hV : wfV (cV M e) n mt) (hH : wfH M mt) (hp : M.1 e 0 7 = pu) (hq : pu + q < mt) (hx : M.1 e 6 (pu + q) = x) (hfirst : ∀ k, k < q → M.1 e 6 (pu + k) ≠ x) : am_Ev Γ (d + 6) n_Foresight_putTill [.inr (.inr (0, 34)), .inr (.inr (e, 0)), .inl (x : Int)] M (fun r M' => r = none ∧ ptO M e n mt q x M') := by
  have hb := hV.1
  have hxm : x < mt := by have := (hV.2.2.2.1 (pu + q) hq).2; have h2 : cV M e 7 (pu + q) = x := hx; omega
  have loop : ∀ (k i : Nat) (M1 : Am_M), i + k = q → veq n mt (cV M1 e) (iterV n i (cV M e)) → am_same (eF e) M M1 → am_At Γ (d + 6) n_Foresight_putTill 5 [some (.inr (.inr (0, 34))), some (.inr (.inr (e, 0))), some (.inl (x : Int)), some (.inl ((pu + i : Nat) : Int))] [] M1 (fun r M' => r = none ∧ ptO M e n mt q x M') := by
    intro k
    induction k with
    | zero | succ k ih =>
      intro i M1 hi hv hs
      have hi3 : iterV n i (cV M e) 0 3 = ((pu + i : Nat) : Int) := by rw [iterV_03]; show M.1 e 0 7 + _ = _; rw [hp]; push_cast; rfl
      have hW : wfV (iterV n i (cV M e)) n mt := iterV_wf i _ hV (by show M.1 e 0 7 + _ ≤ _; omega)
      have hW1 : wfV (cV M1 e) n mt := veq_wf hv.symm hW
      have hm6 : M1.1 e 0 6 = mt := (hv.1 1 (by omega)).trans hW.1.2.2.1
      have hp7 : M1.1 e 0 7 = ((pu + i : Nat) : Int) := (hv.1 3 (by omega)).trans hi3
      have hH1 : wfH M1 mt := hH.same hs (eF_hall e)
      have ho1 : M1.1 e 6 (pu + i) = M.1 e 6 (pu + i) := ((hv.2.2.1 (pu + i) (by omega)).2).trans (iterV_7 n i _ _)
      refine am_go 60 [5] (by decide) ?_
      refine And.intro ⟨⟨(by first | omega | (dsimp only [am_own]; omega)), (by first | omega | (dsimp only [am_own]; omega))⟩, (show am_R (M1.1 e 0 6) from ⟨(by first | omega | (dsimp only [am_own]; omega)), (by first | omega | (dsimp only [am_own]; omega))⟩)⟩ (And.intro (fun h => ?_) (fun h => ?_))
      · refine am_by (c_runV (d := d) (e := e) hW1 hH1 (by omega)) (by omega) ?_
        rintro r M2 ⟨rfl, hO, hv2⟩
        have ho : M2.1 e 6 (pu + i) = M.1 e 6 (pu + i) := ((hv2.2.2.1 (pu + i) (by omega)).2).trans ho1
        have hob := (hV.2.2.2.1 (pu + i) (by omega)).2
        have hob2 : cV M e 7 (pu + i) = M.1 e 6 (pu + i) := rfl
        have hv3 : veq n mt (cV M2 e) (iterV n (i + 1) (cV M e)) := by
          rw [iterV_succ]
          exact hv2.tr (voteV_congr hv hW1 (show M1.1 e 0 7 < mt by omega))
        refine And.intro ⟨(by first | omega | (dsimp only [am_own]; omega)), (by first | omega | (dsimp only [am_own]; omega))⟩ ?_
        refine And.intro ⟨am_Re ho ⟨(by first | omega | (dsimp only [am_own]; omega)), (by first | omega | (dsimp only [am_own]; omega))⟩, ⟨(by first | omega | (dsimp only [am_own]; omega)), (by first | omega | (dsimp only [am_own]; omega))⟩⟩ ?_
        first
          | (have hiq : i = q := by omega
             subst hiq
             refine And.intro (fun _ => ?_) (fun h3 => absurd (ho.trans hx) h3)
             have e1 : mV (iterV n i (cV M e)) = x := mV_at hp hx
             have e2 : mV (cV M1 e) = x := (mV_congr hv ⟨hW1.1.2.2.2.2.1, show M1.1 e 0 7 < mt by omega⟩).trans e1
             have hR := vR_congr hv (m := x) hxm
             have hc := carV_congr hv hW1 (show M1.1 e 0 7 < mt by omega)
             rw [e2] at hO
             refine ⟨rfl, hs.tr hO.1, hv3, ?_, ?_, ?_⟩
             · rw [hO.2.2.2.1.1, ← hR.1]; rfl
             · rw [hO.2.2.2.1.2.1, ← hR.1]; rfl
             · rw [hO.2.2.2.1.2.2.1, ← hc]
               unfold carV
               rw [e2]
               rfl)
          | (refine And.intro (fun h3 => absurd (ho.symm.trans h3) (hfirst i (by omega))) (fun h3 => ?_)
             exact ih (i + 1) M2 (by omega) hv3 (hs.tr hO.1))
      · exfalso
        have h : ¬ ((pu + i : Nat) : Int) < M1.1 e 0 6 := h
        omega
  refine am_ev_of (by decide) (am_le rfl) (am_go 60 [5] (by decide) ?_)
  have go := loop q 0 M (by omega) veq.rf am_same.rf
  rw [show ((pu + 0 : Nat) : Int) = M.1 e 0 7 by omega] at go
  exact go
/-- a view with other counts for one -/
def tV (V : Vw) (i : Nat) (c : Int) : Vw := fun c' k => if c' = 4 ∧ k = i then c else V c' k
/-- counts c, c + 1 .. 9: the first by which the matter q votes ahead is carried -/
def turnS (V : Vw) (n i q : Nat) : Nat → Int → Int
  | 0, _ => -1
  | k + 1, c => if carV (iterV n q (tV V i c)) n = 1 then c else turnS V n i q k (c + 1)
theorem tV_wf {V : Vw} {n mt i : Nat} {c : Int} (h : wfV V n mt) (hc : 1 ≤ c ∧ c ≤ 9) : wfV (tV V i c) n mt := by
  obtain ⟨h1, h2, h3, h4, h5⟩ := h
  refine ⟨h1, h2, fun j hj => ?_, h4, h5⟩
  obtain ⟨a, b, c1, d, e⟩ := h3 j hj
  refine ⟨a, b, c1, ?_, e⟩
  show 1 ≤ (if (4 : Nat) = 4 ∧ j = i then c else V 4 j) ∧ (if (4 : Nat) = 4 ∧ j = i then c else V 4 j) ≤ 9
  split
  · exact hc
  · exact d
theorem carV_01 (V : Vw) (n : Nat) : carV V n = 0 ∨ carV V n = 1 := vt_carI_01 _ _ _
theorem c_turning {Γ : Am_G} {d : Nat} {M : Am_M} {n mt pu q x i : Nat} (hV : wfV (cV M 0) n mt) (hH : wfH M mt) (hi : i < n) (hp : M.1 0 0 7 = pu) (hq : pu + q < mt) (hx : M.1 0 6 (pu + q) = x) (hfirst : ∀ k, k < q → M.1 0 6 (pu + k) ≠ x) : am_Ev Γ (d + 7) n_Foresight_turningCounts [.inr (.inr (0, 34)), .inr (.inr (0, 0)), .inl (i : Int), .inl (x : Int)] M (fun r M' => r = some (.inl (turnS (cV M 0) n i q 9 1)) ∧ am_same fF M M') := by
  have hb := hV.1
  have hxm : x < mt := by have := (hV.2.2.2.1 (pu + q) hq).2; have h2 : cV M 0 7 (pu + q) = x := hx; omega
  have loop : ∀ (k : Nat) (c : Int) (z : Option Am_V) (M1 : Am_M), c + k = 10 → 1 ≤ c → am_same fF M M1 → am_At Γ (d + 7) n_Foresight_turningCounts 3 [some (.inr (.inr (0, 34))), some (.inr (.inr (0, 0))), some (.inl (i : Int)), some (.inl (x : Int)), some (.inl c), z] [] M1 (fun r M' => r = some (.inl (turnS (cV M 0) n i q k c)) ∧ am_same fF M M') := by
    intro k
    induction k with
    | zero =>
      intro c z M1 hc h1 hs
      refine am_go 60 [3] (by decide) ?_
      refine And.intro ⟨⟨(by first | omega | (dsimp only [am_own]; omega)), (by first | omega | (dsimp only [am_own]; omega))⟩, ⟨(by first | omega | (dsimp only [am_own]; omega)), (by first | omega | (dsimp only [am_own]; omega))⟩⟩ (And.intro (fun h => ⟨rfl, hs⟩) (fun h => ?_))
      exfalso; omega
    | succ k ih =>
      intro c z M1 hc h1 hs
      have h0 : ∀ p j, p ≤ 10 → M1.1 0 p j = M.1 0 p j := fun p j hpj => hs.2 0 p j (by unfold fF vS; omega)
      have hH1 : wfH M1 mt := hH.same hs (fun p a b => by unfold fF vS; omega)
      have hv0 : veq n mt (cV M1 0) (cV M 0) := by
        have gh : ∀ p k, 18 ≤ p → p ≤ 20 → M1.1 0 p k = M.1 0 p k := fun p k a b => hs.2 0 p k (by unfold fF vS; omega)
        refine ⟨fun k hk => ?_, fun j hj => ⟨h0 2 j (by omega), h0 3 j (by omega), h0 4 j (by omega), h0 5 j (by omega), h0 7 j (by omega)⟩, fun m hm => ⟨gh 19 m (by omega) (by omega), h0 6 m (by omega)⟩, fun j m hj hm => ⟨gh 20 _ (by omega) (by omega), h0 8 _ (by omega)⟩⟩
        rcases (show k = 0 ∨ k = 1 ∨ k = 2 ∨ k = 3 by omega) with rfl | rfl | rfl | rfl
        · exact h0 1 4 (by omega)
        · exact h0 0 6 (by omega)
        · exact gh 18 4 (by omega) (by omega)
        · exact h0 0 7 (by omega)
      refine am_go 60 [3] (by decide) ?_
      refine And.intro ⟨⟨(by first | omega | (dsimp only [am_own]; omega)), (by first | omega | (dsimp only [am_own]; omega))⟩, ⟨(by first | omega | (dsimp only [am_own]; omega)), (by first | omega | (dsimp only [am_own]; omega))⟩⟩ (And.intro (fun h => ?_) (fun h => ?_))
      · exfalso; omega
      · refine am_by (c_startFrom (d := d + 3) (e := 0) (by decide)) (by omega) ?_
        rintro r M2 ⟨rfl, hC⟩
        refine And.intro ⟨(by first | omega | (dsimp only [am_own]; omega)), (by first | omega | (dsimp only [am_own]; omega))⟩ ?_
        have hv1 : veq n mt (cV M2 3) (cV M 0) := (evC_view (n := n) (mt := mt) hC hb.2.1 hb.2.2.2.1 (by omega)).tr hv0
        have hv2 : veq n mt (cV (am_set M2 3 5 i c) 3) (tV (cV M 0) i c) := by
          have g3 : ∀ p k, p ≠ 5 → (am_set M2 3 5 i c).1 3 p k = M2.1 3 p k := fun p k hpp => set_p hpp
          have gh : ∀ p k, 18 ≤ p → (am_set M2 3 5 i c).1 0 p k = M2.1 0 p k := fun p k hpp => set_p (by omega)
          refine ⟨fun k hk => ?_, fun j hj => ?_, fun m hm => ?_, fun j m hj hm => ?_⟩
          · have := hv1.1 k hk
            rcases (show k = 0 ∨ k = 1 ∨ k = 2 ∨ k = 3 by omega) with rfl | rfl | rfl | rfl
            · exact (g3 1 4 (by omega)).trans this
            · exact (g3 0 6 (by omega)).trans this
            · exact (gh 18 4 (by omega)).trans this
            · exact (g3 0 7 (by omega)).trans this
          · obtain ⟨a, b, c1, d4, e5⟩ := hv1.2.1 j hj
            refine ⟨(g3 2 j (by omega)).trans a, (g3 3 j (by omega)).trans b, (g3 4 j (by omega)).trans c1, ?_, (g3 7 j (by omega)).trans e5⟩
            show (am_set M2 3 5 i c).1 3 5 j = if (4 : Nat) = 4 ∧ j = i then c else cV M 0 4 j
            by_cases qj : j = i
            · subst qj
              rw [if_pos ⟨rfl, rfl⟩]; exact set_eq
            · rw [if_neg (fun z => qj z.2), set_k qj]; exact d4
          · obtain ⟨a, b⟩ := hv1.2.2.1 m hm
            exact ⟨(gh 19 m (by omega)).trans a, (g3 6 m (by omega)).trans b⟩
          · obtain ⟨a, b⟩ := hv1.2.2.2 j m hj hm
            exact ⟨(gh 20 _ (by omega)).trans a, (g3 8 _ (by omega)).trans b⟩
        have hT : wfV (tV (cV M 0) i c) n mt := tV_wf hV (by omega)
        have hW3 : wfV (cV (am_set M2 3 5 i c) 3) n mt := veq_wf hv2.symm hT
        have hH3 : wfH (am_set M2 3 5 i c) mt := (evC_H hC hH1).same (am_same.rf.set (P := fun _ p => p = 5) rfl) (fun p a b => by omega)
        have p3 : (am_set M2 3 5 i c).1 3 0 7 = pu := (hv2.1 3 (by omega)).trans hp
        have o3 : ∀ j, j < mt → (am_set M2 3 5 i c).1 3 6 j = M.1 0 6 j := fun j hj => (hv2.2.2.1 j hj).2
        refine am_by (c_putTill (d := d) (M := am_set M2 3 5 i c) (e := 3) (q := q) (x := x) hW3 hH3 p3 hq ((o3 _ hq).trans hx) (fun k hk => by rw [o3 _ (by omega)]; exact hfirst k hk)) (by omega) ?_
        rintro r M3 ⟨rfl, hO⟩
        have hit : veq n mt (iterV n q (cV (am_set M2 3 5 i c) 3)) (iterV n q (tV (cV M 0) i c)) := iterV_congr q _ _ hv2 hW3 (by show (am_set M2 3 5 i c).1 3 0 7 + _ ≤ _; omega)
        have hc2 : carV (iterV n q (cV (am_set M2 3 5 i c) 3)) n = carV (iterV n q (tV (cV M 0) i c)) n := carV_congr hit (iterV_wf q _ hW3 (by show (am_set M2 3 5 i c).1 3 0 7 + _ ≤ _; omega)) (by rw [iterV_03]; show (am_set M2 3 5 i c).1 3 0 7 + _ < _; omega)
        have hres : M3.1 3 10 ((x : Int) * 4 + 2).toNat = carV (iterV n q (tV (cV M 0) i c)) n := by rw [show ((x : Int) * 4 + 2).toNat = x * 4 + 2 by omega, hO.2.2.2.2]; exact hc2
        have hs3 : am_same fF M M3 := ((hs.tr (evC_fF hC)).set (Or.inr (Or.inl (by omega)))).tr (hO.1.wk (fun e' p h => eF_fF (by omega) h))
        refine am_by (c_resultOf (d := d) 3 (x : Int) 2 (by omega)) (by omega) ?_
        rintro r M4 ⟨rfl, rfl⟩
        rw [hres]
        have c01 := carV_01 (iterV n q (tV (cV M 0) i c)) n
        refine And.intro ⟨⟨(by first | omega | (dsimp only [am_own]; omega)), (by first | omega | (dsimp only [am_own]; omega))⟩, ⟨(by first | omega | (dsimp only [am_own]; omega)), (by first | omega | (dsimp only [am_own]; omega))⟩⟩ (And.intro (fun h4 => ?_) (fun h4 => ?_))
        · refine ⟨?_, hs3⟩
          rw [turnS, if_pos h4]
        · rw [turnS, if_neg h4]
          exact ih (c + 1) _ M4 (by omega) (by omega) hs3
  refine am_ev_of (by decide) (am_le rfl) (am_go 60 [3] (by decide) ?_)
  exact loop 9 1 _ M (by omega) (by omega) am_same.rf
