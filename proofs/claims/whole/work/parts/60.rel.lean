/-! class and reference, side by side -/
def ppR (M : Am_M) (i : Nat) : Prop := (M.1 9 2 i = M.1 0 42 (i * 4) ∧ M.1 9 3 i = M.1 0 42 (i * 4 + 1) ∧ M.1 9 4 i = M.1 0 42 (i * 4 + 2) ∧ M.1 9 5 i = M.1 0 42 (i * 4 + 3)) ∧ (0 ≤ M.1 9 2 i ∧ M.1 9 2 i ≤ 3) ∧ (0 ≤ M.1 9 3 i ∧ M.1 9 3 i ≤ 30) ∧ (0 ≤ M.1 9 4 i ∧ M.1 9 4 i ≤ 9) ∧ (1 ≤ M.1 9 5 i ∧ M.1 9 5 i ≤ 9)
def hlR (M : Am_M) (n mt : Nat) : Prop := (M.1 9 1 4 = n ∧ M.1 0 41 0 = n ∧ n ≤ 6) ∧ (M.1 0 18 3 = mt ∧ M.1 0 41 2 = mt ∧ mt ≤ 5) ∧ (M.1 0 18 4 = M.1 0 41 5 ∧ 1 ≤ M.1 0 18 4 ∧ M.1 0 18 4 ≤ 9) ∧ (∀ i, i < n → ppR M i) ∧ (∀ m, m < mt → M.1 0 19 m = M.1 0 43 m ∧ 1 ≤ M.1 0 19 m ∧ M.1 0 19 m ≤ 9) ∧ (∀ i m, i < n → m < mt → M.1 0 20 (i * 5 + m) = M.1 0 44 (i * 5 + m)) ∧ (∀ i m, i < 6 → m < 5 → n ≤ i ∨ mt ≤ m → M.1 0 20 (i * 5 + m) = 0) ∧ (∀ k, k < 30 → -9 ≤ M.1 0 20 k ∧ M.1 0 20 k ≤ 9)
def evR (M : Am_M) (n mt e : Nat) (f : Nat → Int) : Prop := (M.1 e 0 6 = mt ∧ M.1 e 1 4 = n) ∧ (∀ i, i < n → M.1 e 2 i = M.1 9 2 i ∧ M.1 e 3 i = M.1 9 3 i ∧ M.1 e 4 i = M.1 9 4 i ∧ M.1 e 5 i = M.1 9 5 i) ∧ (M.1 e 0 7 = f 0 ∧ 0 ≤ M.1 e 0 7 ∧ M.1 e 0 7 ≤ mt) ∧ (∀ k, k < mt → M.1 e 6 k = f (1 + k) ∧ 0 ≤ M.1 e 6 k ∧ M.1 e 6 k < mt) ∧ permO (M.1 e 6) mt ∧ (∀ i, i < n → M.1 e 7 i = f (6 + i) ∧ 0 ≤ M.1 e 7 i ∧ M.1 e 7 i ≤ M.1 9 3 i) ∧ (∀ k, k < 30 → M.1 e 8 k = f (12 + k) ∧ 0 ≤ M.1 e 8 k ∧ M.1 e 8 k ≤ 99) ∧ (∀ k m : Nat, (k : Int) < M.1 e 0 7 → M.1 e 6 k = m → (∀ w, w < 4 → M.1 e 10 (m * 4 + w) = f (42 + (m * 4 + w))) ∧ (∀ i, i < n → M.1 e 9 (i * 5 + m) = f (62 + (i * 5 + m))))
def kpR (M : Am_M) (n mt : Nat) : Prop := ∀ k, k < 2 → M.1 0 13 k = M.1 0 50 k ∧ (M.1 0 13 k = 0 ∨ M.1 0 13 k = 1) ∧ (M.1 0 13 k = 1 → evR M n mt (1 + k) (fun j => M.1 0 49 (92 * k + j)))
def rwR (M : Am_M) (mt : Nat) : Prop := (M.1 0 18 9 = M.1 0 41 22 ∧ 0 ≤ M.1 0 18 9 ∧ M.1 0 18 9 ≤ 8) ∧ ∀ k : Nat, (k : Int) < M.1 0 18 9 → (M.1 0 21 k = M.1 0 51 (k * 4) ∧ M.1 0 22 k = M.1 0 51 (k * 4 + 1) ∧ M.1 0 23 k = M.1 0 51 (k * 4 + 2) ∧ M.1 0 24 k = M.1 0 51 (k * 4 + 3)) ∧ (0 ≤ M.1 0 21 k ∧ M.1 0 21 k < mt) ∧ (0 ≤ M.1 0 22 k ∧ M.1 0 22 k ≤ 999) ∧ (0 ≤ M.1 0 23 k ∧ M.1 0 23 k ≤ 999) ∧ (0 ≤ M.1 0 24 k ∧ M.1 0 24 k ≤ 1)
def txR (M : Am_M) : Prop := (M.1 0 14 1 = M.1 0 41 6 ∧ 0 ≤ M.1 0 14 1 ∧ M.1 0 14 1 ≤ 200) ∧ ∀ k : Nat, (k : Int) < M.1 0 14 1 → M.1 0 15 k = M.1 0 45 k ∧ 0 ≤ M.1 0 15 k ∧ M.1 0 15 k ≤ 255
def RelN (M : Am_M) (n mt : Nat) : Prop := hlR M n mt ∧ evR M n mt 0 (M.1 0 47) ∧ kpR M n mt ∧ rwR M mt ∧ txR M ∧ (M.1 0 41 30 = -1 ∧ M.1 0 41 31 = 0)
def Rel (M : Am_M) : Prop := ∃ n mt : Nat, RelN M n mt
-- frames
theorem hlR.fr {M M' : Am_M} {n mt : Nat} (h : hlR M n mt) (h9 : ∀ p k, 1 ≤ p → p ≤ 5 → M'.1 9 p k = M.1 9 p k) (h18 : ∀ p k, 18 ≤ p → p ≤ 20 → (p = 18 → k = 3 ∨ k = 4) → M'.1 0 p k = M.1 0 p k) (h41 : ∀ k, k = 0 ∨ k = 2 ∨ k = 5 → M'.1 0 41 k = M.1 0 41 k) (h42 : ∀ p k, 42 ≤ p → p ≤ 44 → M'.1 0 p k = M.1 0 p k) : hlR M' n mt := by
  obtain ⟨a1, a2, a3, a4, a5, a6, a7, a8⟩ := h
  refine ⟨by rw [h9 1 4 (by omega) (by omega), h41 0 (by omega)]; exact a1, by rw [h18 18 3 (by omega) (by omega) (by omega), h41 2 (by omega)]; exact a2, by rw [h18 18 4 (by omega) (by omega) (by omega), h41 5 (by omega)]; exact a3, fun i hi => ?_, fun m hm => ?_, fun i m hi hm => ?_, fun i m hi hm ho => ?_, fun k hk => ?_⟩
  · have := a4 i hi
    unfold ppR at this ⊢
    rw [h9 2 _ (by omega) (by omega), h9 3 _ (by omega) (by omega), h9 4 _ (by omega) (by omega), h9 5 _ (by omega) (by omega), h42 42 _ (by omega) (by omega), h42 42 _ (by omega) (by omega), h42 42 _ (by omega) (by omega), h42 42 _ (by omega) (by omega)]
    exact this
  · rw [h18 19 _ (by omega) (by omega) (by omega), h42 43 _ (by omega) (by omega)]; exact a5 m hm
  · rw [h18 20 _ (by omega) (by omega) (by omega), h42 44 _ (by omega) (by omega)]; exact a6 i m hi hm
  · rw [h18 20 _ (by omega) (by omega) (by omega)]; exact a7 i m hi hm ho
  · rw [h18 20 _ (by omega) (by omega) (by omega)]; exact a8 k hk
theorem evR.fr {M M' : Am_M} {n mt e : Nat} {f f' : Nat → Int} (h : evR M n mt e f) (hn : n ≤ 6) (hm5 : mt ≤ 5) (hE : ∀ p k, p ≤ 10 → M'.1 e p k = M.1 e p k) (h9 : ∀ p k, 2 ≤ p → p ≤ 5 → M'.1 9 p k = M.1 9 p k) (hf : ∀ k, k < 92 → f' k = f k) : evR M' n mt e f' := by
  obtain ⟨a1, a2, a3, a4, a5, a6, a7, a8⟩ := h
  refine ⟨by rw [hE 0 6 (by omega), hE 1 4 (by omega)]; exact a1, fun i hi => ?_, by rw [hE 0 7 (by omega), hf 0 (by omega)]; exact a3, fun k hk => ?_, fun m hm => ?_, fun i hi => ?_, fun k hk => ?_, fun k m hk hm => ?_⟩
  · rw [hE 2 _ (by omega), hE 3 _ (by omega), hE 4 _ (by omega), hE 5 _ (by omega), h9 2 _ (by omega) (by omega), h9 3 _ (by omega) (by omega), h9 4 _ (by omega) (by omega), h9 5 _ (by omega) (by omega)]; exact a2 i hi
  · rw [hE 6 _ (by omega), hf _ (by omega)]; exact a4 k hk
  · obtain ⟨k, hk, he⟩ := a5 m hm
    exact ⟨k, hk, by rw [hE 6 _ (by omega)]; exact he⟩
  · rw [hE 7 _ (by omega), hf _ (by omega), h9 3 _ (by omega) (by omega)]; exact a6 i hi
  · rw [hE 8 _ (by omega), hf _ (by omega)]; exact a7 k hk
  · rw [hE 0 7 (by omega)] at hk
    rw [hE 6 _ (by omega)] at hm
    have hk5 := (a4 k (by omega)).2
    obtain ⟨b1, b2⟩ := a8 k m hk hm
    refine ⟨fun w hw => ?_, fun i hi => ?_⟩
    · rw [hE 10 _ (by omega), hf _ (by omega)]; exact b1 w hw
    · rw [hE 9 _ (by omega), hf _ (by omega)]; exact b2 i hi
theorem kpR.fr {M M' : Am_M} {n mt : Nat} (h : kpR M n mt) (hn : n ≤ 6) (hm5 : mt ≤ 5) (hE : ∀ e p k, 1 ≤ e → e ≤ 2 → p ≤ 10 → M'.1 e p k = M.1 e p k) (h9 : ∀ p k, 2 ≤ p → p ≤ 5 → M'.1 9 p k = M.1 9 p k) (h0 : ∀ p k, p = 13 ∨ p = 49 ∨ p = 50 → M'.1 0 p k = M.1 0 p k) : kpR M' n mt := by
  intro k hk
  obtain ⟨b1, b2, b3⟩ := h k hk
  rw [h0 13 k (by omega), h0 50 k (by omega)]
  refine ⟨b1, b2, fun hk1 => (b3 hk1).fr hn hm5 (fun p j hp => hE _ p j (by omega) (by omega) hp) h9 (fun j _ => h0 49 _ (by omega))⟩
theorem rwR.fr {M M' : Am_M} {mt : Nat} (h : rwR M mt) (h18 : M'.1 0 18 9 = M.1 0 18 9) (h41 : M'.1 0 41 22 = M.1 0 41 22) (h0 : ∀ p k, (21 ≤ p ∧ p ≤ 24) ∨ p = 51 → M'.1 0 p k = M.1 0 p k) : rwR M' mt := by
  obtain ⟨a1, a2⟩ := h
  refine ⟨by rw [h18, h41]; exact a1, fun k hk => ?_⟩
  rw [h18] at hk
  rw [h0 21 _ (by omega), h0 22 _ (by omega), h0 23 _ (by omega), h0 24 _ (by omega), h0 51 _ (by omega), h0 51 _ (by omega), h0 51 _ (by omega), h0 51 _ (by omega)]
  exact a2 k hk
theorem txR.fr {M M' : Am_M} (h : txR M) (h14 : M'.1 0 14 1 = M.1 0 14 1) (h41 : M'.1 0 41 6 = M.1 0 41 6) (h0 : ∀ p k, p = 15 ∨ p = 45 → M'.1 0 p k = M.1 0 p k) : txR M' := by
  obtain ⟨a1, a2⟩ := h
  refine ⟨by rw [h14, h41]; exact a1, fun k hk => ?_⟩
  rw [h14] at hk
  rw [h0 15 _ (by omega), h0 45 _ (by omega)]
  exact a2 k hk
/-- what Rel speaks of -/
def relv (e p k : Nat) : Prop := (e ≤ 2 ∧ p ≤ 10) ∨ (e = 9 ∧ 1 ≤ p ∧ p ≤ 5) ∨ (e = 0 ∧ (p = 13 ∨ (p = 14 ∧ k = 1) ∨ p = 15 ∨ (18 ≤ p ∧ p ≤ 24) ∨ (p = 41 ∧ (k = 0 ∨ k = 2 ∨ k = 5 ∨ k = 6 ∨ k = 22 ∨ k = 30 ∨ k = 31)) ∨ (42 ≤ p ∧ p ≤ 45) ∨ (p = 47 ∧ k < 92) ∨ (49 ≤ p ∧ p ≤ 51)))
theorem RelN.fr {M M' : Am_M} {n mt : Nat} (h : RelN M n mt) (hs : ∀ e p k, relv e p k → M'.1 e p k = M.1 e p k) : RelN M' n mt := by
  obtain ⟨h1, h2, h3, h4, h5, h6⟩ := h
  have hn := h1.1.2.2
  have hm := h1.2.1.2.2
  unfold relv at hs
  exact ⟨h1.fr (fun p k a b => hs 9 p k (by omega)) (fun p k a b c => hs 0 p k (by omega)) (fun k a => hs 0 41 k (by omega)) (fun p k a b => hs 0 p k (by omega)), h2.fr hn hm (fun p k a => hs 0 p k (by omega)) (fun p k a b => hs 9 p k (by omega)) (fun k hk => hs 0 47 k (by omega)), h3.fr hn hm (fun e p k a b c => hs e p k (by omega)) (fun p k a b => hs 9 p k (by omega)) (fun p k a => hs 0 p k (by omega)), h4.fr (hs 0 18 9 (by omega)) (hs 0 41 22 (by omega)) (fun p k a => hs 0 p k (by omega)), h5.fr (hs 0 14 1 (by omega)) (hs 0 41 6 (by omega)) (fun p k a => hs 0 p k (by omega)), by rw [hs 0 41 30 (by omega), hs 0 41 31 (by omega)]; exact h6⟩
theorem RelN.ff {M M' : Am_M} {n mt : Nat} (h : RelN M n mt) (hs : am_same fF M M') : RelN M' n mt := h.fr (fun e p k hr => hs.2 e p k (by unfold relv at hr; unfold fF vS; omega))
theorem RelN.rf2 {M M' : Am_M} {n mt : Nat} (h : RelN M n mt) (hs : rF M M') : RelN M' n mt := h.fr (fun e p k hr => by
  unfold relv at hr
  by_cases q1 : p = 41 ∧ e = 0
  · obtain ⟨rfl, rfl⟩ := q1
    exact hs.2.2.1 k (by omega) (by omega) (by omega)
  · by_cases q2 : p = 47 ∧ e = 0
    · obtain ⟨rfl, rfl⟩ := q2
      exact hs.2.2.2 k (by omega)
    · exact hs.2.1 e p k (by omega) (by omega) (by omega) (by omega))
theorem msame.rf2 {M M' : Am_M} (h : msame M M') : rF M M' := ⟨h.1, fun e p k a _ _ c => h.2.1 e p k a c, h.2.2, fun k _ => h.2.1 0 47 k (by omega) (by omega)⟩
-- what follows
theorem RelN.H {M : Am_M} {n mt : Nat} (h : RelN M n mt) : wfH M mt := ⟨h.1.2.2.1.2, h.1.2.2.2.2.2.2.2, fun k hk => (h.1.2.2.2.2.1 k hk).2⟩
theorem evR.V {M : Am_M} {n mt e : Nat} {f : Nat → Int} (h : evR M n mt e f) (h1 : hlR M n mt) : wfV (cV M e) n mt := by
  obtain ⟨a1, a2, a3, a4, a5, a6, a7, a8⟩ := h
  obtain ⟨b1, b2, b3, b4, b5, b6, b7, b8⟩ := h1
  refine ⟨⟨a1.2, b1.2.2, a1.1, b2.2.2, a3.2.1, a3.2.2⟩, b3.2, fun i hi => ?_, fun m hm => ⟨(b5 m hm).2, (a4 m hm).2⟩, fun i m hi hm => ⟨b8 _ (by omega), (a7 _ (by omega)).2⟩⟩
  obtain ⟨c1, c2, c3, c4⟩ := a2 i hi
  obtain ⟨-, d1, d2, d3, d4⟩ := b4 i hi
  show (0 ≤ M.1 e 2 i ∧ M.1 e 2 i ≤ 3) ∧ (0 ≤ M.1 e 3 i ∧ M.1 e 3 i ≤ 99) ∧ (0 ≤ M.1 e 4 i ∧ M.1 e 4 i ≤ 9) ∧ (1 ≤ M.1 e 5 i ∧ M.1 e 5 i ≤ 9) ∧ (0 ≤ M.1 e 7 i ∧ M.1 e 7 i ≤ 99)
  have := (a6 i hi).2
  omega
theorem RelN.V {M : Am_M} {n mt : Nat} (h : RelN M n mt) : wfV (cV M 0) n mt := h.2.1.V h.1
theorem RelN.wM {M : Am_M} {n mt : Nat} (h : RelN M n mt) : wfM M n mt := by
  obtain ⟨⟨b1, b2, b3, b4, b5, b6, b7, b8⟩, ⟨a1, a2, a3, a4, a5, a6, a7, a8⟩, -, -, -, h6⟩ := h
  refine ⟨⟨b1.2.1, b1.2.2, b2.2.1, b2.2.2⟩, by omega, fun i hi => ?_, fun m hm => by have := b5 m hm; omega, fun i m hi hm => ?_, fun k hk => by have := a4 k hk; omega, by omega, by omega⟩
  · obtain ⟨c1, d1, d2, d3, d4⟩ := b4 i hi
    have := a6 i hi
    omega
  · have x1 := b6 i m hi hm
    have x2 := b8 (i * 5 + m) (by omega)
    have x3 := a7 (i * 5 + m) (by omega)
    omega
theorem RelN.vq {M : Am_M} {n mt : Nat} (h : RelN M n mt) : veq n mt (rV M) (cV M 0) := by
  obtain ⟨⟨b1, b2, b3, b4, b5, b6, b7, b8⟩, ⟨a1, a2, a3, a4, a5, a6, a7, a8⟩, -, -, -, h6, h7⟩ := h
  refine ⟨fun k hk => ?_, fun i hi => ?_, fun m hm => ⟨(b5 m hm).1.symm, (a4 m hm).1.symm⟩, fun i m hi hm => ⟨(b6 i m hi hm).symm, (a7 _ (by omega)).1.symm⟩⟩
  · rcases (show k = 0 ∨ k = 1 ∨ k = 2 ∨ k = 3 by omega) with rfl | rfl | rfl | rfl
    · exact b1.2.1.trans a1.2.symm
    · exact b2.2.1.trans a1.1.symm
    · exact b3.1.symm
    · exact a3.1.symm
  · obtain ⟨c1, c2, c3, c4⟩ := a2 i hi
    obtain ⟨⟨e1, e2, e3, e4⟩, -⟩ := b4 i hi
    refine ⟨?_, ?_, ?_, (c4.trans e4).symm, (a6 i hi).1.symm⟩
    · show mkd M i = M.1 0 2 i
      unfold mkd
      rw [if_neg (by omega)]
      exact (c1.trans e1).symm
    · show (if M.1 0 41 31 = 1 then 99 else M.1 0 42 (i * 4 + 1)) = M.1 0 3 i
      rw [if_neg (by omega)]
      exact (c2.trans e2).symm
    · show (if M.1 0 41 31 = 1 then 0 else M.1 0 42 (i * 4 + 2)) = M.1 0 4 i
      rw [if_neg (by omega)]
      exact (c3.trans e3).symm
theorem RelN.ord {M : Am_M} {n mt : Nat} (h : RelN M n mt) : ∀ k, k < mt → oM M k = M.1 0 6 k := fun k hk => (h.2.1.2.2.2.1 k hk).1.symm
theorem RelN.perm {M : Am_M} {n mt : Nat} (h : RelN M n mt) : permO (oM M) mt := fun m hm => by
  obtain ⟨k, hk, he⟩ := h.2.1.2.2.2.2.1 m hm
  exact ⟨k, hk, (h.ord k hk).trans he⟩
theorem RelN.pos {M : Am_M} {n mt : Nat} (h : RelN M n mt) (x : Int) : posO (oM M) x mt = posO (M.1 0 6) x mt := posO_congr mt h.ord
theorem RelN.p {M : Am_M} {n mt : Nat} (h : RelN M n mt) : ∃ pu : Nat, M.1 0 0 7 = pu ∧ M.1 0 47 0 = pu ∧ pu ≤ mt := ⟨(M.1 0 0 7).toNat, by have := h.2.1.2.2.1; omega, by have := h.2.1.2.2.1; omega, by have := h.2.1.2.2.1; omega⟩
/-- the reference's answer, and Rel behind it -/
def Ans (Γ : Am_G) (D nM : Nat) (as : List Am_V) (r : Option Am_V) (M1 : Am_M) : Prop := ∃ v : Int, r = some (.inl v) ∧ am_Ev Γ D nM (.inr (.inr (0, 41)) :: as) M1 (fun r' M2 => r' = some (.inl v) ∧ Rel M2)
/-- a call of both: one answer, and Rel behind it -/
def Pair (Γ : Am_G) (D nX nM : Nat) (as : List Am_V) (M : Am_M) : Prop := am_Ev Γ D nX (.inr (.inr (0, 11)) :: as) M (Ans Γ D nM as)
