/-! one's best seconds: the class's search -/
theorem vwB_c (n i : Nat) (c k : Nat) (hc : c = 1 ∨ c = 2 ∨ c = 6 ∨ c = 7) : ∀ (p : List Nat) (V : Vw), vwB n i p V c k = V c k
  | [], _ => rfl
  | s :: p, V => by
    show vwB n i p (nxB n i V s) c k = V c k
    rw [vwB_c n i c k hc p]
    rcases hc with rfl | rfl | rfl | rfl <;> rfl
theorem vwB_03 (n i : Nat) : ∀ (p : List Nat) (V : Vw), vwB n i p V 0 3 = V 0 3 + (p.length : Int)
  | [], V => (Int.add_zero _).symm
  | s :: p, V => by
    show vwB n i p (nxB n i V s) 0 3 = _
    rw [vwB_03 n i p, nxB_03, List.length_cons]
    push_cast
    omega
theorem clL_le (l h r a : Int) : clL l h r a ≤ a := by
  unfold clL
  split <;> omega
theorem vwB_8 (n i : Nat) : ∀ (p : List Nat) (V : Vw), V 8 i ≤ V 2 i → vwB n i p V 8 i ≤ V 2 i
  | [], _, h => h
  | s :: p, V, _ => vwB_8 n i p (nxB n i V s) (clL_le _ _ _ _)
/-- the evening tried at depth j, behind the seconds pre -/
def nodeB (M : Am_M) (V0 : Vw) (n mt pu i j : Nat) (pre : List Nat) : Prop := wfV (cV M (3 + j)) n mt ∧ M.1 (3 + j) 0 7 = ((pu + j : Nat) : Int) ∧ veq n mt (cV M (3 + j)) (vwB n i pre V0) ∧ ∀ k (s : Nat), pre[k]? = some s → M.1 0 37 k = s
/-- the evening tried at depth j, whatever is told of its next matter -/
def nodeX (M : Am_M) (W : Vw) (n mt i j : Nat) (pre : List Nat) : Prop := wfV (cV M (3 + j)) n mt ∧ (∃ x : Int, veq n mt (cV M (3 + j)) (tS W i (mV W) x)) ∧ ∀ k (s : Nat), pre[k]? = some s → M.1 0 37 k = s
theorem nodeX.fr {M M' : Am_M} {W : Vw} {n mt i j : Nat} {pre : List Nat} (h : nodeX M W n mt i j pre) (hl : pre.length = j) (g : ∀ p k, p ≤ 8 → M'.1 (3 + j) p k = M.1 (3 + j) p k) (gh : ∀ p k, 18 ≤ p → p ≤ 20 → M'.1 0 p k = M.1 0 p k) (h37 : ∀ q, q < j → M'.1 0 37 q = M.1 0 37 q) : nodeX M' W n mt i j pre := by
  have ev : cV M' (3 + j) = cV M (3 + j) := cV_same g gh
  obtain ⟨h1, h2, h3⟩ := h
  unfold nodeX
  rw [ev]
  refine ⟨h1, h2, fun k s hk => ?_⟩
  have := (List.getElem?_eq_some_iff.mp hk).1
  rw [h37 k (by omega)]
  exact h3 k s hk
theorem nodeX.f {M : Am_M} {W : Vw} {n mt i j : Nat} {pre : List Nat} (h : nodeX M W n mt i j pre) (hi : i < n) (hp : W 0 3 < mt) (hWv : wfV W n mt) : (M.1 (3 + j) 0 7 = W 0 3 ∧ mV (cV M (3 + j)) = mV W ∧ M.1 (3 + j) 7 i = W 8 i ∧ M.1 0 20 (i * 5 + mV W) = W 6 (i * 5 + mV W)) ∧ ∀ s : Nat, (s : Int) ≤ W 8 i → veq n mt (nxB n i (cV M (3 + j)) s) (nxB n i W s) ∧ caB n i (cV M (3 + j)) s = caB n i W s := by
  obtain ⟨h1, ⟨x, hx⟩, h3⟩ := h
  have e7 : M.1 (3 + j) 0 7 = W 0 3 := hx.1 3 (by omega)
  have em0 : mV (cV M (3 + j)) = mV (tS W i (mV W) x) := mV_congr hx ⟨h1.1.2.2.2.2.1, (show M.1 (3 + j) 0 7 < mt by omega)⟩
  have em : mV (cV M (3 + j)) = mV W := em0
  have e8 : M.1 (3 + j) 7 i = W 8 i := (hx.2.1 i hi).2.2.2.2
  have e6 : M.1 0 20 (i * 5 + mV W) = W 6 (i * 5 + mV W) := (hx.2.2.2 i (mV W) hi (mV_lt hWv hp)).1
  refine ⟨⟨e7, em, e8, e6⟩, fun s hs => ?_⟩
  have hc := nxB_congr (s := s) hx h1 (show M.1 (3 + j) 0 7 < mt by omega) hi (show (s : Int) ≤ M.1 (3 + j) 7 i by omega)
  rw [(nxB_tS n i W x s).1, (nxB_tS n i W x s).2] at hc
  exact hc
theorem nodeX.tell {M : Am_M} {W : Vw} {n mt i j : Nat} {pre : List Nat} {s : Int} (h : nodeX M W n mt i j pre) (hl : pre.length = j) (hs : 0 ≤ s ∧ s ≤ 99) : nodeX (tellM M j i (mV W) s) W n mt i j pre := by
  obtain ⟨h1, ⟨x, hx⟩, h3⟩ := h
  have hv : cV (tellM M j i (mV W) s) (3 + j) = tS (cV M (3 + j)) i (mV W) s := tellM_view
  refine ⟨by rw [hv]; exact tS_wf h1 hs, ⟨s, ?_⟩, fun k t hk => ?_⟩
  · rw [hv]
    have := tS_congr (i := i) (m := mV W) (s := s) hx
    rw [tS_tS] at this
    exact this
  · have := (List.getElem?_eq_some_iff.mp hk).1
    rw [tellM_37n (by omega)]
    exact h3 k t hk
theorem nodeB.x {M : Am_M} {V0 W : Vw} {n mt pu i j : Nat} {pre : List Nat} (h : nodeB M V0 n mt pu i j pre) (hW : W = vwB n i pre V0) : nodeX M W n mt i j pre := ⟨h.1, ⟨W 9 (i * 5 + mV W), by rw [tS_self, hW]; exact h.2.2.1⟩, h.2.2.2⟩
/-- where the search at depth j has come to -/
def okT (M : Am_M) (W : Vw) (n mt i j : Nat) (pre : List Nat) (M1 : Am_M) : Prop := wfH M1 mt ∧ nodeX M1 W n mt i j pre ∧ am_same (gF j) M M1 ∧ ∀ q, q < j → M1.1 0 37 q = M.1 0 37 q
theorem okT.step {P : Nat → Nat → Prop} {M M1 M2 : Am_M} {W : Vw} {n mt i j : Nat} {pre : List Nat} (h : okT M W n mt i j pre M1) (hl : pre.length = j) (hs : am_same P M1 M2) (hg : ∀ e p, P e p → gF j e p) (h3 : ∀ p, p ≤ 8 → ¬ P (3 + j) p) (hh : ∀ p, 18 ≤ p → p ≤ 20 → ¬ P 0 p) (h37 : ∀ q, q < j → M2.1 0 37 q = M1.1 0 37 q) : okT M W n mt i j pre M2 :=
  ⟨h.1.same hs hh, h.2.1.fr hl (fun p k hp => hs.2 _ p k (h3 p hp)) (fun p k a b => hs.2 0 p k (hh p a b)) h37, h.2.2.1.tr (hs.wk hg), fun q hq => (h37 q hq).trans (h.2.2.2 q hq)⟩
theorem okT.tell {M M1 : Am_M} {W : Vw} {n mt i j : Nat} {pre : List Nat} {s : Int} (h : okT M W n mt i j pre M1) (hl : pre.length = j) (hj : j ≤ 2) (hs : 0 ≤ s ∧ s ≤ 99) : okT M W n mt i j pre (tellM M1 j i (mV W) s) :=
  ⟨tellM_H h.1, h.2.1.tell hl hs, h.2.2.1.tr (tellM_same.wk (fun e p hp => by
    rcases hp with hp | hp
    · exact Or.inr (Or.inl ⟨Or.inr hp, by omega, by omega⟩)
    · exact Or.inr (Or.inr ⟨hp.1, Or.inr (Or.inl hp.2)⟩))), fun q hq => (tellM_37n (by omega)).trans (h.2.2.2 q hq)⟩
theorem okT.note {M M1 M2 : Am_M} {W : Vw} {n mt i j : Nat} {pre : List Nat} (h : okT M W n mt i j pre M1) (hl : pre.length = j) (hs : am_same (fun e p => e = 0 ∧ (p = 34 ∨ p = 38)) M1 M2) : okT M W n mt i j pre M2 :=
  h.step hl hs (fun e p hp => Or.inr (Or.inr (by omega))) (fun p hp => by omega) (fun p a b => by omega) (fun q hq => hs.2 0 37 q (by omega))
theorem pre_t {M : Am_M} {pre : List Nat} {j t : Nat} (hl : pre.length = j) (h : ∀ k (s : Nat), pre[k]? = some s → M.1 0 37 k = s) (ht : M.1 0 37 j = t) : ∀ k (s : Nat), (pre ++ [t])[k]? = some s → M.1 0 37 k = s := by
  intro q s hq
  by_cases qj : q < pre.length
  · rw [List.getElem?_append_left qj] at hq
    exact h q s hq
  · have hql := (List.getElem?_eq_some_iff.mp hq).1
    rw [List.length_append, List.length_singleton] at hql
    have hqe : q = pre.length := by omega
    rw [hqe, List.getElem?_append_right (Nat.le_refl _), Nat.sub_self] at hq
    have : t = s := by simpa using hq
    rw [hqe, hl, ← this]
    exact ht
theorem bM.has {M : Am_M} {V0 : Vw} {n i b many c x : Nat} {v : Int} (h : bM M V0 n i b many c) (hx : x < c) (he : evX V0 n i b many x = some v) : M.1 0 34 12 = 1 ∧ (v < M.1 0 34 6 ∨ (v = M.1 0 34 6 ∧ M.1 0 34 7 ≤ smX b many x)) := by
  rcases h with ⟨h1, h2⟩ | ⟨h1, f, h2, h3, h4, h5, h6⟩
  · rw [h2 x hx] at he; cases he
  · have := h6 x hx v he
    exact ⟨h1, by omega⟩
/-- a row of seconds is noted, if it is better -/
theorem c_noteB {Γ : Am_G} {d : Nat} {M : Am_M} {V0 : Vw} {n mt i b many x : Nat} {w s : Int} (hi : i < n) (hV0 : wfV V0 n mt) (hp : V0 0 3 + (many : Int) ≤ mt) (hm : many ≤ 3) (hb : 0 < b) (hb2 : b ≤ 100) (hx : x < b ^ many) (hB : bM M V0 n i b many x) (hev : evX V0 n i b many x = some w) (hsm : smX b many x = s) (h37 : ∀ k (s' : Nat), (dgH b many x)[k]? = some s' → M.1 0 37 k = s') : am_Ev Γ (d + 2) n_Foresight_noteIfBetter [.inr (.inr (0, 34)), .inl w, .inl s] M (fun r M' => r = none ∧ am_same (fun e p => e = 0 ∧ (p = 34 ∨ p = 38)) M M' ∧ bM M' V0 n i b many (x + 1)) := by
  have hBR := bM_R hB hi hV0 hp hm hb hb2 (by omega)
  have hwb : -27 ≤ w ∧ w ≤ 27 := by
    have q := evB_b (mt := mt) hi _ _ _ _ hV0 (by rw [dgH_len]; exact hp) hev
    rw [dgH_len] at q
    omega
  have hsb : 0 ≤ s ∧ s ≤ 300 := by
    have q2 := smL_nn (dgH b many x)
    have q3 := smL_le _ (dgH_b hb many x hx)
    rw [dgH_len] at q3
    have q4 := mul_b (a := (b : Int)) (b := (many : Int)) (A := 100) (B := 3) (by omega) (by omega)
    unfold smX at hsm
    omega
  refine am_mono (c_note (Γ := Γ) (d := d) (w := w) (s := s) ⟨by omega, by omega⟩ ⟨by omega, by omega⟩ hBR) (fun r M1 h => ?_)
  obtain ⟨rfl, hr⟩ := h
  rcases hr with ⟨hno, rfl⟩ | ⟨hyes, hs1, h12, h6, h7, h38⟩
  · refine ⟨rfl, am_same.rf, hB.skip (by omega) (fun y hy1 hy2 w' he => ?_)⟩
    have : y = x := by omega
    subst this
    rw [hev] at he
    have : w = w' := Option.some.inj he
    subst this
    rw [hsm]
    unfold canB at hno
    omega
  · refine ⟨rfl, hs1, Or.inr ⟨h12, x, by omega, by rw [h6]; exact hev, by rw [h7]; exact hsm, fun k s hk => ?_, fun y hy w' he => ?_⟩⟩
    · have hkl := (List.getElem?_eq_some_iff.mp hk).1
      rw [dgH_len] at hkl
      rw [h38 k (by omega)]
      exact h37 k s hk
    · rw [h6, h7]
      by_cases qx : y = x
      · subst qx
        rw [hev] at he
        have : w = w' := Option.some.inj he
        subst this
        rw [hsm]
        exact Or.inr ⟨rfl, Or.inr ⟨rfl, Nat.le_refl _⟩⟩
      · rcases hB with ⟨b1, b2⟩ | ⟨b1, f, b2, b3, b4, b5, b6⟩
        · rw [b2 y (by omega)] at he; cases he
        · have := b6 y (by omega) w' he
          unfold canB at hyes
          omega
theorem code_t {V0 W : Vw} {n i b many j t : Nat} {pre : List Nat} {w : Int} (hb : 0 < b) (hpl : pre.length = j) (hpb : ∀ m, m ∈ pre → m < b) (hjm : j + 1 = many) (hev : evB n i pre V0 0 = some w) (hW : W = vwB n i pre V0) (ht : t < b) : dgH b many (cdH b pre * b + t) = pre ++ [t] ∧ evX V0 n i b many (cdH b pre * b + t) = (if (t : Int) ≤ W 8 i then some (w + caB n i W t * W 6 (i * 5 + mV W)) else none) ∧ smX b many (cdH b pre * b + t) = smL pre + t := by
  have hall : ∀ m, m ∈ pre ++ [t] → m < b := fun m hm => by
    rcases List.mem_append.mp hm with h | h
    · exact hpb m h
    · have : m = t := by simpa using h
      omega
  have hcd : cdH b (pre ++ [t]) = cdH b pre * b + t := by
    rw [cdH_app]
    show cdH b pre * b ^ 1 + (t * b ^ 0 + 0) = _
    rw [Nat.pow_one, Nat.pow_zero, Nat.mul_one, Nat.add_zero]
  have e := dgH_cdH hb _ hall
  rw [List.length_append, List.length_singleton, hpl, hjm, hcd] at e
  refine ⟨e, ?_, ?_⟩
  · unfold evX
    rw [e, evB_app _ _ _ _ _ hev, ← hW]
    rfl
  · unfold smX
    rw [e, smL_app]
    show smL pre + ((t : Int) + 0) = _
    omega
