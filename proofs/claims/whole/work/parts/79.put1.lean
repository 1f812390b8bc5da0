/-! orders: the class -/
/-- cells that the search from depth j on may use -/
def sF (j e' p : Nat) : Prop := vS e' p ∨ (4 + j ≤ e' ∧ e' ≤ 8 ∧ p ≤ 10) ∨ (e' = 0 ∧ p = 36)
/-- the evening tried at depth j, behind the matters w -/
def nodeP (M : Am_M) (V0 : Vw) (n mt pu j : Nat) (w : List Nat) : Prop := wfV (cV M (3 + j)) n mt ∧ M.1 (3 + j) 0 7 = ((pu + j : Nat) : Int) ∧ permO (M.1 (3 + j) 6) mt ∧ (∀ i, i < pu → M.1 (3 + j) 6 i = V0 7 i) ∧ (∀ i (m : Nat), w[i]? = some m → M.1 (3 + j) 6 (pu + i) = m) ∧ veq n mt (cV M (3 + j)) (swO (viewW n w V0) (M.1 (3 + j) 6))
theorem nodeP.fr {M M' : Am_M} {V0 : Vw} {n mt pu j : Nat} {w : List Nat} (h : nodeP M V0 n mt pu j w) (hs : am_same (sF j) M M') : nodeP M' V0 n mt pu j w := by
  have g : ∀ p k, p ≤ 10 → M'.1 (3 + j) p k = M.1 (3 + j) p k := fun p k hp => hs.2 _ p k (by unfold sF vS; omega)
  have gh : ∀ p k, 18 ≤ p → p ≤ 20 → M'.1 0 p k = M.1 0 p k := fun p k a b => hs.2 0 p k (by unfold sF vS; omega)
  have ev : cV M' (3 + j) = cV M (3 + j) := cV_same (fun p k hp => g p k (by omega)) gh
  have e6 : M'.1 (3 + j) 6 = M.1 (3 + j) 6 := funext (fun k => g 6 k (by omega))
  obtain ⟨h1, h2, h3, h4, h5, h6⟩ := h
  unfold nodeP
  rw [ev, e6, g 0 7 (by omega)]
  exact ⟨h1, h2, h3, h4, h5, h6⟩
/-- one matter more -/
theorem nodeP.next {M1 M2 M3 M4 : Am_M} {V0 : Vw} {n mt pu j m q : Nat} {w : List Nat} (hN : nodeP M1 V0 n mt pu j w) (hw : w.length = j) (hj : pu + j < mt) (hC : evC M1 (4 + j) (3 + j) M2) (hq : pu + j ≤ q) (hqm : q < mt) (hqx : M1.1 (3 + j) 6 q = m) (hs3 : am_same (fun e' p => e' = 4 + j ∧ p = 6) M2 M3) (ho3 : ∀ k, M3.1 (4 + j) 6 k = brO (M2.1 (4 + j) 6) (pu + j) q k) : (wfV (cV M3 (4 + j)) n mt ∧ M3.1 (4 + j) 0 7 = ((pu + j : Nat) : Int) ∧ carV (cV M3 (4 + j)) n = carM (viewW n w V0) n m ∧ m < mt) ∧ (runO M3 (4 + j) n (mV (cV M3 (4 + j))) M4 → veq n mt (cV M4 (4 + j)) (voteV (cV M3 (4 + j)) n) → nodeP M4 V0 n mt pu (j + 1) (w ++ [m])) := by
  obtain ⟨h1, h2, h3, h4, h5, h6⟩ := hN
  have hb := h1.1
  have v2 := evC_view (n := n) (mt := mt) hC hb.2.1 hb.2.2.2.1 (by omega)
  have o2 : ∀ k, k < mt → M2.1 (4 + j) 6 k = M1.1 (3 + j) 6 k := fun k hk => hC.2.2.2.1 k (by omega)
  have g3 : ∀ p k, p ≠ 6 → M3.1 (4 + j) p k = M2.1 (4 + j) p k := fun p k hp => hs3.2 _ p k (by omega)
  have gh : ∀ p k, 18 ≤ p → p ≤ 20 → M3.1 0 p k = M2.1 0 p k := fun p k a b => hs3.2 0 p k (by omega)
  have hq2 : M2.1 (4 + j) 6 q = m := (o2 q hqm).trans hqx
  have hoB : ∀ k, k < mt → M3.1 (4 + j) 6 k = brO (M1.1 (3 + j) 6) (pu + j) q k := fun k hk => (ho3 k).trans (brO_congr o2 hqm k hk)
  have hbd : ∀ k, k < mt → 0 ≤ M1.1 (3 + j) 6 k ∧ M1.1 (3 + j) 6 k < mt := fun k hk => (h1.2.2.2.1 k hk).2
  have hmt : m < mt := by have := hbd q hqm; omega
  have v3 : veq n mt (cV M3 (4 + j)) (swO (viewW n w V0) (M3.1 (4 + j) 6)) := by
    have v := v2.tr h6
    obtain ⟨q1, q2, q3, q4⟩ := v
    refine ⟨fun k hk => ?_, fun i hi => ?_, fun m2 hm2 => ⟨(gh 19 m2 (by omega) (by omega)).trans (q3 m2 hm2).1, rfl⟩, fun i m2 hi hm2 => ⟨(gh 20 _ (by omega) (by omega)).trans (q4 i m2 hi hm2).1, (g3 8 _ (by omega)).trans (q4 i m2 hi hm2).2⟩⟩
    · have := q1 k hk
      rcases (show k = 0 ∨ k = 1 ∨ k = 2 ∨ k = 3 by omega) with rfl | rfl | rfl | rfl
      · exact (g3 1 4 (by omega)).trans this
      · exact (g3 0 6 (by omega)).trans this
      · exact (gh 18 4 (by omega) (by omega)).trans this
      · exact (g3 0 7 (by omega)).trans this
    · obtain ⟨a, b, c, d, e⟩ := q2 i hi
      exact ⟨(g3 2 i (by omega)).trans a, (g3 3 i (by omega)).trans b, (g3 4 i (by omega)).trans c, (g3 5 i (by omega)).trans d, (g3 7 i (by omega)).trans e⟩
  have w2 : wfV (cV M2 (4 + j)) n mt := veq_wf v2.symm h1
  have e7 : M3.1 (4 + j) 0 7 = ((pu + j : Nat) : Int) := (g3 0 7 (by omega)).trans (hC.2.1.2.1.trans h2)
  have hp0 : M3.1 (4 + j) 6 (pu + j) = m := by
    rw [hoB _ hj]
    unfold brO
    rw [if_pos rfl]; exact hqx
  have w3 : wfV (cV M3 (4 + j)) n mt := by
    obtain ⟨x1, x2, x3, x4, x5⟩ := w2
    refine ⟨⟨(g3 1 4 (by omega)).trans x1.1, x1.2.1, (g3 0 6 (by omega)).trans x1.2.2.1, x1.2.2.2.1, ?_, ?_⟩, ?_, fun i hi => ?_, fun k hk => ⟨?_, ?_⟩, fun i m2 hi hm2 => ⟨?_, ?_⟩⟩
    · show 0 ≤ M3.1 (4 + j) 0 7
      omega
    · show M3.1 (4 + j) 0 7 ≤ mt
      omega
    · show 1 ≤ M3.1 0 18 4 ∧ M3.1 0 18 4 ≤ 9
      rw [gh 18 4 (by omega) (by omega)]; exact x2
    · show (0 ≤ M3.1 (4 + j) 2 i ∧ M3.1 (4 + j) 2 i ≤ 3) ∧ (0 ≤ M3.1 (4 + j) 3 i ∧ M3.1 (4 + j) 3 i ≤ 99) ∧ (0 ≤ M3.1 (4 + j) 4 i ∧ M3.1 (4 + j) 4 i ≤ 9) ∧ (1 ≤ M3.1 (4 + j) 5 i ∧ M3.1 (4 + j) 5 i ≤ 9) ∧ (0 ≤ M3.1 (4 + j) 7 i ∧ M3.1 (4 + j) 7 i ≤ 99)
      rw [g3 2 i (by omega), g3 3 i (by omega), g3 4 i (by omega), g3 5 i (by omega), g3 7 i (by omega)]
      exact x3 i hi
    · show 1 ≤ M3.1 0 19 k ∧ M3.1 0 19 k ≤ 9
      rw [gh 19 k (by omega) (by omega)]; exact (x4 k hk).1
    · show 0 ≤ M3.1 (4 + j) 6 k ∧ M3.1 (4 + j) 6 k < mt
      rw [hoB k hk]
      exact brO_b (P := fun z => 0 ≤ z ∧ z < mt) hbd hqm k hk
    · show -9 ≤ M3.1 0 20 (i * 5 + m2) ∧ M3.1 0 20 (i * 5 + m2) ≤ 9
      rw [gh 20 _ (by omega) (by omega)]; exact (x5 i m2 hi hm2).1
    · show 0 ≤ M3.1 (4 + j) 8 (i * 5 + m2) ∧ M3.1 (4 + j) 8 (i * 5 + m2) ≤ 99
      rw [g3 8 _ (by omega)]; exact (x5 i m2 hi hm2).2
  have emv : mV (cV M3 (4 + j)) = m := by
    show (M3.1 (4 + j) 6 (M3.1 (4 + j) 0 7).toNat).toNat = m
    rw [e7, show (((pu + j : Nat) : Int)).toNat = pu + j from rfl, hp0]
    rfl
  have hlt : cV M3 (4 + j) 0 3 < mt := by
    show M3.1 (4 + j) 0 7 < mt
    omega
  refine ⟨⟨w3, e7, ?_, hmt⟩, fun hO hv => ?_⟩
  · rw [carV_M, emv, carM_congr v3 hmt, swO_car]
  · have g4 : ∀ k, M4.1 (4 + j) 6 k = M3.1 (4 + j) 6 k := fun k => hO.1.2 _ 6 k (by unfold vS; omega)
    have e46 : M4.1 (4 + j) 6 = M3.1 (4 + j) 6 := funext g4
    have hv2 : veq n mt (voteV (cV M3 (4 + j)) n) (swO (viewW n (w ++ [m]) V0) (M4.1 (4 + j) 6)) := by
      rw [voteV_M, emv, e46, viewW_app]
      show veq n mt _ (swO (vtm (viewW n w V0) n m) (M3.1 (4 + j) 6))
      rw [← swO_vtm]
      exact vtm_congr v3 hmt
    unfold nodeP
    rw [show 3 + (j + 1) = 4 + j by omega]
    refine ⟨veq_wf hv.symm (voteV_wf w3 hlt), ?_, ?_, fun i hi => ?_, fun i m2 hi => ?_, hv.tr hv2⟩
    · rw [hO.2.2.2.2.2.1, e7]
      push_cast
      omega
    · rw [e46]
      intro m2 hm2
      obtain ⟨k, hk, he⟩ := brO_perm h3 hq hqm m2 hm2
      exact ⟨k, hk, (hoB k hk).trans he⟩
    · rw [g4, hoB i (by omega)]
      unfold brO
      rw [if_neg (by omega), if_neg (by omega)]
      exact h4 i hi
    · by_cases qi : i < w.length
      · rw [List.getElem?_append_left qi] at hi
        rw [g4, hoB (pu + i) (by omega)]
        unfold brO
        rw [if_neg (by omega), if_neg (by omega)]
        exact h5 i m2 hi
      · have hil := (List.getElem?_eq_some_iff.mp hi).1
        rw [List.length_append, List.length_singleton] at hil
        have : i = w.length := by omega
        rw [this, List.getElem?_append_right (Nat.le_refl _), Nat.sub_self] at hi
        have : m = m2 := by simpa using hi
        rw [g4, show pu + i = pu + j by omega, ← this]
        exact hp0
