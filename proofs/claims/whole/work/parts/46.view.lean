/-! views: what a vote is made of; both sides meet them -/
abbrev Vw : Type := Nat → Nat → Int
def cV (M : Am_M) (e : Nat) : Vw := fun c k => match c with
  | 0 => (match k with | 0 => M.1 e 1 4 | 1 => M.1 e 0 6 | 2 => M.1 0 18 4 | 3 => M.1 e 0 7 | _ => 0)
  | 1 => M.1 e 2 k
  | 2 => M.1 e 3 k
  | 3 => M.1 e 4 k
  | 4 => M.1 e 5 k
  | 5 => M.1 0 19 k
  | 6 => M.1 0 20 k
  | 7 => M.1 e 6 k
  | 8 => M.1 e 7 k
  | 9 => M.1 e 8 k
  | _ => 0
def rV (M : Am_M) : Vw := fun c k => match c with
  | 0 => (match k with | 0 => M.1 0 41 0 | 1 => M.1 0 41 2 | 2 => M.1 0 41 5 | 3 => M.1 0 47 0 | _ => 0)
  | 1 => mkd M k
  | 2 => if M.1 0 41 31 = 1 then 99 else M.1 0 42 (k * 4 + 1)
  | 3 => if M.1 0 41 31 = 1 then 0 else M.1 0 42 (k * 4 + 2)
  | 4 => M.1 0 42 (k * 4 + 3)
  | 5 => M.1 0 43 k
  | 6 => M.1 0 44 k
  | 7 => M.1 0 47 (1 + k)
  | 8 => M.1 0 47 (6 + k)
  | 9 => M.1 0 47 (12 + k)
  | _ => 0
def wV (V : Vw) (m i : Nat) : Int := vt_want (V 0 2) (V 6 (i * 5 + m)) (V 8 i) (V 1 i) (V 9 (i * 5 + m))
def fV (V : Vw) (m i : Nat) : Int := if 0 < V 6 (i * 5 + m) then 1 else 0
def vR (V : Vw) (n m : Nat) : (Nat → Int) × Int × Int × Int × Int := vt_go n (V 5 m) (wV V m) (fV V m) (V 1) (V 4) (V 8) 100 1 (fun _ => 0) (fun i => if 0 < wV V m i then 1 else 0) 0 0 (-1)
/-- the matter that comes next -/
def mV (V : Vw) : Nat := (V 7 (V 0 3).toNat).toNat
def carV (V : Vw) (n : Nat) : Int := vt_carI (V 5 (mV V)) (vR V n (mV V)).2.1 (vR V n (mV V)).2.2.1
def voteV (V : Vw) (n : Nat) : Vw := fun c k => if c = 0 ∧ k = 3 then V 0 3 + 1 else if c = 8 then clL (V 8 k) ((vR V n (mV V)).1 k) (V 3 k) (V 2 k) else V c k
/-- a view of n people and mt matters, in its bounds -/
def wfV (V : Vw) (n mt : Nat) : Prop := (V 0 0 = n ∧ n ≤ 6 ∧ V 0 1 = mt ∧ mt ≤ 5 ∧ 0 ≤ V 0 3 ∧ V 0 3 ≤ mt) ∧ (1 ≤ V 0 2 ∧ V 0 2 ≤ 9) ∧ (∀ i, i < n → (0 ≤ V 1 i ∧ V 1 i ≤ 3) ∧ (0 ≤ V 2 i ∧ V 2 i ≤ 99) ∧ (0 ≤ V 3 i ∧ V 3 i ≤ 9) ∧ (1 ≤ V 4 i ∧ V 4 i ≤ 9) ∧ (0 ≤ V 8 i ∧ V 8 i ≤ 99)) ∧ (∀ m, m < mt → (1 ≤ V 5 m ∧ V 5 m ≤ 9) ∧ (0 ≤ V 7 m ∧ V 7 m < mt)) ∧ (∀ i m, i < n → m < mt → (-9 ≤ V 6 (i * 5 + m) ∧ V 6 (i * 5 + m) ≤ 9) ∧ (0 ≤ V 9 (i * 5 + m) ∧ V 9 (i * 5 + m) ≤ 99))
/-- two views are the same, as far as it matters -/
def veq (n mt : Nat) (V V' : Vw) : Prop := (∀ k, k < 4 → V 0 k = V' 0 k) ∧ (∀ i, i < n → V 1 i = V' 1 i ∧ V 2 i = V' 2 i ∧ V 3 i = V' 3 i ∧ V 4 i = V' 4 i ∧ V 8 i = V' 8 i) ∧ (∀ m, m < mt → V 5 m = V' 5 m ∧ V 7 m = V' 7 m) ∧ (∀ i m, i < n → m < mt → V 6 (i * 5 + m) = V' 6 (i * 5 + m) ∧ V 9 (i * 5 + m) = V' 9 (i * 5 + m))
theorem veq.rf {n mt : Nat} {V : Vw} : veq n mt V V := ⟨fun _ _ => rfl, fun _ _ => ⟨rfl, rfl, rfl, rfl, rfl⟩, fun _ _ => ⟨rfl, rfl⟩, fun _ _ _ _ => ⟨rfl, rfl⟩⟩
theorem veq.symm {n mt : Nat} {V V' : Vw} (h : veq n mt V V') : veq n mt V' V := ⟨fun k hk => (h.1 k hk).symm, fun i hi => by obtain ⟨a, b, c, d, e⟩ := h.2.1 i hi; exact ⟨a.symm, b.symm, c.symm, d.symm, e.symm⟩, fun m hm => by obtain ⟨a, b⟩ := h.2.2.1 m hm; exact ⟨a.symm, b.symm⟩, fun i m hi hm => by obtain ⟨a, b⟩ := h.2.2.2 i m hi hm; exact ⟨a.symm, b.symm⟩⟩
theorem veq.tr {n mt : Nat} {V V' V'' : Vw} (h : veq n mt V V') (h' : veq n mt V' V'') : veq n mt V V'' := ⟨fun k hk => (h.1 k hk).trans (h'.1 k hk), fun i hi => by
  obtain ⟨a, b, c, d, e⟩ := h.2.1 i hi
  obtain ⟨a', b', c', d', e'⟩ := h'.2.1 i hi
  exact ⟨a.trans a', b.trans b', c.trans c', d.trans d', e.trans e'⟩, fun m hm => by
  obtain ⟨a, b⟩ := h.2.2.1 m hm
  obtain ⟨a', b'⟩ := h'.2.2.1 m hm
  exact ⟨a.trans a', b.trans b'⟩, fun i m hi hm => by
  obtain ⟨a, b⟩ := h.2.2.2 i m hi hm
  obtain ⟨a', b'⟩ := h'.2.2.2 i m hi hm
  exact ⟨a.trans a', b.trans b'⟩⟩
theorem vt_go_congr {n : Nat} {need : Int} {w w' fr fr' kd kd' ct ct' lf lf' : Nat → Int} (h : ∀ i, i < n → w i = w' i ∧ fr i = fr' i ∧ kd i = kd' i ∧ ct i = ct' i ∧ lf i = lf' i) : ∀ (k : Nat) (sec : Int) (held held' up up' : Nat → Int) (f a set : Int), (∀ i, i < n → held i = held' i ∧ up i = up' i) → (vt_go n need w fr kd ct lf k sec held up f a set).2 = (vt_go n need w' fr' kd' ct' lf' k sec held' up' f a set).2 ∧ ∀ i, i < n → (vt_go n need w fr kd ct lf k sec held up f a set).1 i = (vt_go n need w' fr' kd' ct' lf' k sec held' up' f a set).1 i := by
  intro k
  induction k with
  | zero => intro sec held held' up up' f a set hh; exact ⟨rfl, fun i hi => (hh i hi).1⟩
  | succ k ih =>
    intro sec held held' up up' f a set hh
    have hs : vt_setI need f a up fr ct lf held n = vt_setI need f a up' fr' ct' lf' held' n := vt_setI_congr (fun i hi => ⟨(hh i hi).2, (h i hi).2.1, (h i hi).2.2.2.1, (h i hi).2.2.2.2, (hh i hi).1⟩)
    have hgo : ∀ (w fr kd ct lf held up : Nat → Int) (sI : Int), vt_setI need f a up fr ct lf held n = sI → vt_go n need w fr kd ct lf (k + 1) sec held up f a set = if vt_some (vt_up (if set = -1 ∧ sI = 1 then sec else set) w kd held up) n = 1 then vt_go n need w fr kd ct lf k (sec + 1) (fun i => held i + vt_up (if set = -1 ∧ sI = 1 then sec else set) w kd held up i) (vt_up (if set = -1 ∧ sI = 1 then sec else set) w kd held up) (f + vt_add 1 (vt_up (if set = -1 ∧ sI = 1 then sec else set) w kd held up) fr ct n) (a + vt_add 0 (vt_up (if set = -1 ∧ sI = 1 then sec else set) w kd held up) fr ct n) (if set = -1 ∧ sI = 1 then sec else set) else (held, f, a, sec - 1, (if set = -1 ∧ sI = 1 then sec else set)) := by
      intro w fr kd ct lf held up sI hsI
      subst hsI
      rfl
    rw [hgo w fr kd ct lf held up _ rfl, hgo w' fr' kd' ct' lf' held' up' _ rfl, hs]
    generalize (if set = -1 ∧ vt_setI need f a up' fr' ct' lf' held' n = 1 then sec else set) = set'
    have hup : ∀ i, i < n → vt_up set' w kd held up i = vt_up set' w' kd' held' up' i := fun i hi => by
      unfold vt_up
      rw [(hh i hi).1, (hh i hi).2, (h i hi).1, (h i hi).2.2.1]
    rw [vt_some_congr n hup, vt_add_congr (b := 1) (fun i hi => ⟨hup i hi, (h i hi).2.1, (h i hi).2.2.2.1⟩), vt_add_congr (b := 0) (fun i hi => ⟨hup i hi, (h i hi).2.1, (h i hi).2.2.2.1⟩)]
    by_cases q : vt_some (vt_up set' w' kd' held' up') n = 1
    · rw [if_pos q, if_pos q]
      exact ih _ _ _ _ _ _ _ _ (fun i hi => ⟨by rw [(hh i hi).1, hup i hi], hup i hi⟩)
    · rw [if_neg q, if_neg q]
      exact ⟨rfl, fun i hi => (hh i hi).1⟩
theorem vR_congr {n mt m : Nat} {V V' : Vw} (h : veq n mt V V') (hm : m < mt) : (vR V n m).2 = (vR V' n m).2 ∧ ∀ i, i < n → (vR V n m).1 i = (vR V' n m).1 i := by
  have hw : ∀ i, i < n → wV V m i = wV V' m i := fun i hi => by
    unfold wV
    rw [h.1 2 (by omega), (h.2.2.2 i m hi hm).1, (h.2.2.2 i m hi hm).2, (h.2.1 i hi).1, (h.2.1 i hi).2.2.2.2]
  unfold vR
  rw [(h.2.2.1 m hm).1]
  exact vt_go_congr (fun i hi => ⟨hw i hi, by unfold fV; rw [(h.2.2.2 i m hi hm).1], (h.2.1 i hi).1, (h.2.1 i hi).2.2.2.1, (h.2.1 i hi).2.2.2.2⟩) 100 1 _ _ _ _ 0 0 (-1) (fun i hi => ⟨rfl, by rw [hw i hi]⟩)
theorem mV_congr {n mt : Nat} {V V' : Vw} (h : veq n mt V V') (hp : 0 ≤ V 0 3 ∧ V 0 3 < mt) : mV V = mV V' := by
  unfold mV
  rw [h.1 3 (by omega), (h.2.2.1 (V' 0 3).toNat (by have := h.1 3 (by omega); omega)).2]
theorem mV_lt {n mt : Nat} {V : Vw} (h : wfV V n mt) (hp : V 0 3 < mt) : mV V < mt := by
  have h1 := h.1
  have h2 := (h.2.2.2.1 (V 0 3).toNat (by omega)).2
  unfold mV
  omega
theorem carV_congr {n mt : Nat} {V V' : Vw} (h : veq n mt V V') (hV : wfV V n mt) (hp : V 0 3 < mt) : carV V n = carV V' n := by
  have hm := mV_lt hV hp
  have e := mV_congr h ⟨hV.1.2.2.2.2.1, hp⟩
  have hR := vR_congr h hm
  unfold carV
  rw [← e, (h.2.2.1 _ hm).1, hR.1]
theorem voteV_congr {n mt : Nat} {V V' : Vw} (h : veq n mt V V') (hV : wfV V n mt) (hp : V 0 3 < mt) : veq n mt (voteV V n) (voteV V' n) := by
  have hm := mV_lt hV hp
  have e := mV_congr h ⟨hV.1.2.2.2.2.1, hp⟩
  have hR := vR_congr h hm
  refine ⟨fun k hk => ?_, fun i hi => ?_, fun m hm2 => ?_, fun i m hi hm2 => ?_⟩
  · unfold voteV
    by_cases q : k = 3
    · rw [if_pos ⟨rfl, q⟩, if_pos ⟨rfl, q⟩, h.1 3 (by omega)]
    · have hx : ∀ W : Vw, voteV W n 0 k = W 0 k := fun W => by
        unfold voteV
        rw [if_neg (fun z => q z.2), if_neg (by omega)]
      exact (hx V).trans ((h.1 k hk).trans (hx V').symm)
  · obtain ⟨a, b, c, d, e5⟩ := h.2.1 i hi
    refine ⟨a, b, c, d, ?_⟩
    show clL (V 8 i) ((vR V n (mV V)).1 i) (V 3 i) (V 2 i) = clL (V' 8 i) ((vR V' n (mV V')).1 i) (V' 3 i) (V' 2 i)
    rw [← e, hR.2 i hi, b, c, e5]
  · exact h.2.2.1 m hm2
  · exact h.2.2.2 i m hi hm2
theorem clL_b {l h r a : Int} (h1 : 0 ≤ h ∧ h ≤ l) (h2 : 0 ≤ r) (h3 : 0 ≤ a) : 0 ≤ clL l h r a ∧ clL l h r a ≤ a := by
  unfold clL
  split <;> omega
theorem vR_b {n mt m : Nat} {V : Vw} (h : wfV V n mt) (hm : m < mt) : (∀ j, j < n → 0 ≤ (vR V n m).1 j ∧ (vR V n m).1 j ≤ V 8 j) ∧ (0 ≤ (vR V n m).2.1 ∧ (vR V n m).2.1 ≤ 5400) ∧ (0 ≤ (vR V n m).2.2.1 ∧ (vR V n m).2.2.1 ≤ 5400) ∧ (0 ≤ (vR V n m).2.2.2.1 ∧ (vR V n m).2.2.2.1 ≤ 100) ∧ -1 ≤ (vR V n m).2.2.2.2 ∧ (vR V n m).2.2.2.2 ≤ 100 := by
  obtain ⟨h1, h2, h3, h4, h5⟩ := h
  have hw : ∀ j, j < n → 0 ≤ wV V m j ∧ wV V m j ≤ V 8 j := fun j hj => vt_want_b h2 (h5 j m hj hm).1 (h3 j hj).2.2.2.2 (h5 j m hj hm).2
  obtain ⟨g1, g2, g3, g4, g5⟩ := vt_go_b (n := n) (need := V 5 m) (w := wV V m) (fr := fV V m) (kd := V 1) (ct := V 4) (lf := V 8) (fun j hj => (h3 j hj).2.2.2.1) h1.2.1 100 1 (fun _ => 0) (fun i => if 0 < wV V m i then 1 else 0) 0 0 (-1) (fun j hj => ⟨Int.le_refl 0, (hw j hj).1⟩) (by omega) (by omega)
  exact ⟨fun j hj => ⟨(g1 j hj).1, Int.le_trans (g1 j hj).2 (hw j hj).2⟩, g2, g3, g4, by unfold vR; omega, by unfold vR; omega⟩
theorem voteV_wf {n mt : Nat} {V : Vw} (h : wfV V n mt) (hp : V 0 3 < mt) : wfV (voteV V n) n mt := by
  have hm := mV_lt h hp
  have hR := (vR_b h hm).1
  obtain ⟨h1, h2, h3, h4, h5⟩ := h
  refine ⟨⟨h1.1, h1.2.1, h1.2.2.1, h1.2.2.2.1, ?_, ?_⟩, h2, fun i hi => ?_, h4, h5⟩
  · show 0 ≤ V 0 3 + 1
    omega
  · show V 0 3 + 1 ≤ mt
    omega
  · obtain ⟨a, b, c, d, e⟩ := h3 i hi
    refine ⟨a, b, c, d, ?_⟩
    show 0 ≤ clL (V 8 i) ((vR V n (mV V)).1 i) (V 3 i) (V 2 i) ∧ clL (V 8 i) ((vR V n (mV V)).1 i) (V 3 i) (V 2 i) ≤ 99
    have := clL_b (l := V 8 i) (h := (vR V n (mV V)).1 i) (r := V 3 i) (a := V 2 i) (hR i hi) c.1 b.1
    omega
theorem veq_wf {n mt : Nat} {V V' : Vw} (h : veq n mt V V') (hV : wfV V n mt) : wfV V' n mt := by
  obtain ⟨h1, h2, h3, h4, h5⟩ := hV
  have e0 := h.1 0 (by omega)
  have e1 := h.1 1 (by omega)
  have e2 := h.1 2 (by omega)
  have e3 := h.1 3 (by omega)
  refine ⟨by omega, by omega, fun i hi => ?_, fun m hm => ?_, fun i m hi hm => ?_⟩
  · obtain ⟨a, b, c, d, e⟩ := h.2.1 i hi
    rw [← a, ← b, ← c, ← d, ← e]
    exact h3 i hi
  · obtain ⟨a, b⟩ := h.2.2.1 m hm
    rw [← a, ← b]
    exact h4 m hm
  · obtain ⟨a, b⟩ := h.2.2.2 i m hi hm
    rw [← a, ← b]
    exact h5 i m hi hm
theorem am_mono {Γ : Am_G} {d n : Nat} {as : List Am_V} {M : Am_M} {K K' : Option Am_V → Am_M → Prop} (h : am_Ev Γ d n as M K) (hk : ∀ r M', K r M' → K' r M') : am_Ev Γ d n as M K' := by
  intro l p e h1 h2 h3 s m args below h4 h5 h6 h7
  obtain ⟨nn, o, a1, a2, a3, ⟨⟨⟨r, M', b1, b2, b3⟩, b4⟩, b5⟩⟩ := h l p e h1 h2 h3 s m args below h4 h5 h6 h7
  exact ⟨nn, o, a1, a2, a3, ⟨⟨⟨r, M', b1, hk r M' b2, b3⟩, b4⟩, b5⟩⟩
-- the class
theorem cV_wf {M : Am_M} {e n mt : Nat} (hE : wfE M e n mt) (hH : wfH M mt) (hp : 0 ≤ M.1 e 0 7 ∧ M.1 e 0 7 ≤ mt) : wfV (cV M e) n mt := ⟨⟨hE.1.1, hE.1.2.1, hE.1.2.2.1, hE.1.2.2.2, hp.1, hp.2⟩, hH.1, hE.2.1, fun m hm => ⟨hH.2.2 m hm, hE.2.2.1 m hm⟩, fun i m hi hm => ⟨hH.2.1 _ (by have := hE.1; omega), hE.2.2.2 i m hi hm⟩⟩
theorem wfE_of {M : Am_M} {e n mt : Nat} (h : wfV (cV M e) n mt) : wfE M e n mt := ⟨⟨h.1.1, h.1.2.1, h.1.2.2.1, h.1.2.2.2.1⟩, h.2.2.1, fun k hk => (h.2.2.2.1 k hk).2, fun i m hi hm => (h.2.2.2.2 i m hi hm).2⟩
theorem runO_view {M M' : Am_M} {e n mt pu m : Nat} (hE : wfE M e n mt) (hp : M.1 e 0 7 = pu) (hm : M.1 e 6 pu = m) (h : runO M e n m M') : mV (cV M e) = m ∧ veq n mt (cV M' e) (voteV (cV M e) n) := by
  have e1 : mV (cV M e) = m := by
    show (M.1 e 6 (M.1 e 0 7).toNat).toNat = m
    rw [hp]
    show (M.1 e 6 pu).toNat = m
    rw [hm]
    rfl
  obtain ⟨h1, h2, h3, h4, h5, h6, h7, h8⟩ := h
  have g : ∀ p k, p ≤ 8 → p ≠ 0 → p ≠ 7 → M'.1 e p k = M.1 e p k := fun p k a b c => h1.2 e p k (by unfold vS; omega)
  have gh : ∀ p k, 18 ≤ p → p ≤ 20 → M'.1 0 p k = M.1 0 p k := fun p k a b => h1.2 0 p k (by unfold vS; omega)
  refine ⟨e1, fun k hk => ?_, fun i hi => ⟨g 2 i (by omega) (by omega) (by omega), g 3 i (by omega) (by omega) (by omega), g 4 i (by omega) (by omega) (by omega), g 5 i (by omega) (by omega) (by omega), ?_⟩, fun m hm => ⟨gh 19 m (by omega) (by omega), g 6 m (by omega) (by omega) (by omega)⟩, fun i m hi hm => ⟨gh 20 _ (by omega) (by omega), g 8 _ (by omega) (by omega) (by omega)⟩⟩
  · rcases (show k = 0 ∨ k = 1 ∨ k = 2 ∨ k = 3 by omega) with rfl | rfl | rfl | rfl
    · exact g 1 4 (by omega) (by omega) (by omega)
    · exact h7
    · exact gh 18 4 (by omega) (by omega)
    · exact h6
  · show M'.1 e 7 i = clL (M.1 e 7 i) ((vR (cV M e) n (mV (cV M e))).1 i) (M.1 e 4 i) (M.1 e 3 i)
    rw [e1]
    exact (h2 i hi).2
/-- the class's vote, by views -/
theorem c_runV {Γ : Am_G} {d : Nat} {M : Am_M} {e n mt : Nat} (hV : wfV (cV M e) n mt) (hH : wfH M mt) (hp : M.1 e 0 7 < mt) : am_Ev Γ (d + 5) n_Vote_run [.inr (.inr (0, 25)), .inr (.inr (e, 0))] M (fun r M' => r = some (.inl (carV (cV M e) n)) ∧ runO M e n (mV (cV M e)) M' ∧ veq n mt (cV M' e) (voteV (cV M e) n)) := by
  have hE := wfE_of hV
  have hp0 : 0 ≤ M.1 e 0 7 := hV.1.2.2.2.2.1
  obtain ⟨pu, hpu⟩ : ∃ pu : Nat, M.1 e 0 7 = pu := ⟨(M.1 e 0 7).toNat, by omega⟩
  have hb := hE.2.2.1 pu (by omega)
  obtain ⟨m, hm⟩ : ∃ m : Nat, M.1 e 6 pu = m := ⟨(M.1 e 6 pu).toNat, by omega⟩
  have h := c_run (Γ := Γ) (d := d) hE hH hpu (by omega) hm
  have e1 : mV (cV M e) = m := by
    show (M.1 e 6 (M.1 e 0 7).toNat).toNat = m
    rw [hpu]
    show (M.1 e 6 pu).toNat = m
    rw [hm]
    rfl
  refine am_mono h (fun r M' hr => ?_)
  obtain ⟨rfl, hO⟩ := hr
  refine ⟨?_, by rw [e1]; exact hO, (runO_view hE hpu hm hO).2⟩
  unfold carV
  rw [e1]
  rfl
-- the reference
theorem rV_wf {M : Am_M} {n mt : Nat} (h : wfM M n mt) (hp : 0 ≤ M.1 0 47 0 ∧ M.1 0 47 0 ≤ mt) : wfV (rV M) n mt := by
  obtain ⟨⟨n1, n2, n3, n4⟩, n5, n6, n7, n8, n9, n10, n11⟩ := id h
  refine ⟨⟨n1, n2, n3, n4, hp.1, hp.2⟩, n5, fun i hi => ?_, fun m hm => ⟨n7 m hm, n9 m hm⟩, fun i m hi hm => n8 i m hi hm⟩
  obtain ⟨a, b, c, d, e⟩ := n6 i hi
  refine ⟨mkd_b h hi, ?_, ?_, d, e⟩
  · show 0 ≤ (if M.1 0 41 31 = 1 then 99 else M.1 0 42 (i * 4 + 1)) ∧ (if M.1 0 41 31 = 1 then 99 else M.1 0 42 (i * 4 + 1)) ≤ 99
    split <;> omega
  · show 0 ≤ (if M.1 0 41 31 = 1 then 0 else M.1 0 42 (i * 4 + 2)) ∧ (if M.1 0 41 31 = 1 then 0 else M.1 0 42 (i * 4 + 2)) ≤ 9
    split <;> omega
theorem pnI_view {M M2 : Am_M} {n mt pu m : Nat} (h : wfM M n mt) (hp : M.1 0 47 0 = pu) (hpu : pu < mt) (hm : M.1 0 47 (1 + pu) = m) (hI : pnI M m n n (vtM M n m) M2) : mV (rV M) = m ∧ veq n mt (rV (am_set M2 0 47 0 (M.1 0 47 0 + 1))) (voteV (rV M) n) := by
  obtain ⟨⟨n1, n2, n3, n4⟩, n5, n6, n7, n8, n9, n10, n11⟩ := id h
  have hmt : m < mt := by have := n9 pu hpu; omega
  have e1 : mV (rV M) = m := by
    show (M.1 0 47 (1 + (M.1 0 47 0).toNat)).toNat = m
    rw [hp]
    show (M.1 0 47 (1 + pu)).toNat = m
    rw [hm]
    rfl
  obtain ⟨i1, ⟨i2, i2b, i2c⟩, i3, i4, i5, i6, i7, i8, i9, i10, i11⟩ := id hI
  have f : ∀ k, k ≠ 24 → k ≠ 25 → k ≠ 26 → (am_set M2 0 47 0 (M.1 0 47 0 + 1)).1 0 41 k = M.1 0 41 k := fun k a b c => by rw [set_p (by decide)]; exact i1.2.2 k a b c
  have g : ∀ p k, 42 ≤ p → p ≤ 44 → (am_set M2 0 47 0 (M.1 0 47 0 + 1)).1 0 p k = M.1 0 p k := fun p k a b => by rw [set_p (by omega)]; exact i1.2.1 0 p k (by omega) (by omega) (by omega)
  have g47 : ∀ k, k ≠ 0 → (am_set M2 0 47 0 (M.1 0 47 0 + 1)).1 0 47 k = M2.1 0 47 k := fun k hk => set_k hk
  refine ⟨e1, fun k hk => ?_, fun i hi => ⟨?_, ?_, ?_, g 42 _ (by omega) (by omega), ?_⟩, fun m2 hm2 => ⟨g 43 m2 (by omega) (by omega), ?_⟩, fun i m2 hi hm2 => ⟨g 44 _ (by omega) (by omega), ?_⟩⟩
  · rcases (show k = 0 ∨ k = 1 ∨ k = 2 ∨ k = 3 by omega) with rfl | rfl | rfl | rfl
    · exact f 0 (by omega) (by omega) (by omega)
    · exact f 2 (by omega) (by omega) (by omega)
    · exact f 5 (by omega) (by omega) (by omega)
    · exact set_eq
  · show mkd (am_set M2 0 47 0 (M.1 0 47 0 + 1)) i = mkd M i
    unfold mkd
    rw [f 30 (by omega) (by omega) (by omega), g 42 _ (by omega) (by omega)]
  · show (if (am_set M2 0 47 0 (M.1 0 47 0 + 1)).1 0 41 31 = 1 then 99 else (am_set M2 0 47 0 (M.1 0 47 0 + 1)).1 0 42 (i * 4 + 1)) = if M.1 0 41 31 = 1 then 99 else M.1 0 42 (i * 4 + 1)
    rw [f 31 (by omega) (by omega) (by omega), g 42 _ (by omega) (by omega)]
  · show (if (am_set M2 0 47 0 (M.1 0 47 0 + 1)).1 0 41 31 = 1 then 0 else (am_set M2 0 47 0 (M.1 0 47 0 + 1)).1 0 42 (i * 4 + 2)) = if M.1 0 41 31 = 1 then 0 else M.1 0 42 (i * 4 + 2)
    rw [f 31 (by omega) (by omega) (by omega), g 42 _ (by omega) (by omega)]
  · show (am_set M2 0 47 0 (M.1 0 47 0 + 1)).1 0 47 (6 + i) = clL (M.1 0 47 (6 + i)) ((vR (rV M) n (mV (rV M))).1 i) (if M.1 0 41 31 = 1 then 0 else M.1 0 42 (i * 4 + 2)) (if M.1 0 41 31 = 1 then 99 else M.1 0 42 (i * 4 + 1))
    rw [g47 (6 + i) (by omega), i5 i hi, e1]
    show (if M.1 0 41 31 = 1 then M.1 0 47 (6 + i) - (vtM M n m).1 i else clL (M.1 0 47 (6 + i)) ((vtM M n m).1 i) (M.1 0 42 (i * 4 + 2)) (M.1 0 42 (i * 4 + 1))) = clL (M.1 0 47 (6 + i)) ((vtM M n m).1 i) (if M.1 0 41 31 = 1 then 0 else M.1 0 42 (i * 4 + 2)) (if M.1 0 41 31 = 1 then 99 else M.1 0 42 (i * 4 + 1))
    have hb := (vtM_b h hmt).1 i hi
    have hw := mwant_b h hi hmt
    have hl := (n6 i hi).2.2.2.2
    by_cases q : M.1 0 41 31 = 1
    · rw [if_pos q, if_pos q, if_pos q]
      unfold clL
      rw [if_neg (by omega)]
      omega
    · rw [if_neg q, if_neg q, if_neg q]
  · show (am_set M2 0 47 0 (M.1 0 47 0 + 1)).1 0 47 (1 + m2) = M.1 0 47 (1 + m2)
    rw [g47 _ (by omega)]
    exact i4 (1 + m2) (by omega)
  · show (am_set M2 0 47 0 (M.1 0 47 0 + 1)).1 0 47 (12 + (i * 5 + m2)) = M.1 0 47 (12 + (i * 5 + m2))
    rw [g47 _ (by omega)]
    exact i7 _ (by omega) (by omega)
/-- the reference's vote, by views -/
theorem c_putNextV {Γ : Am_G} {d : Nat} {M : Am_M} {n mt : Nat} (hM : wfM M n mt) (hp0 : 0 ≤ M.1 0 47 0) (hp : M.1 0 47 0 < mt) : am_Ev Γ (d + 4) n_M_putNext [.inr (.inr (0, 41))] M (fun r M' => r = some (.inl (carV (rV M) n)) ∧ (∃ M2, pnI M (mV (rV M)) n n (vR (rV M) n (mV (rV M))) M2 ∧ M' = am_set M2 0 47 0 (M.1 0 47 0 + 1)) ∧ veq n mt (rV M') (voteV (rV M) n)) := by
  obtain ⟨pu, hpu⟩ : ∃ pu : Nat, M.1 0 47 0 = pu := ⟨(M.1 0 47 0).toNat, by omega⟩
  have hb := hM.2.2.2.2.2.1 pu (by omega)
  obtain ⟨m, hm⟩ : ∃ m : Nat, M.1 0 47 (1 + pu) = m := ⟨(M.1 0 47 (1 + pu)).toNat, by omega⟩
  refine am_mono (c_M_putNext (d := d) hM hpu (by omega) hm) (fun r M' hr => ?_)
  obtain ⟨rfl, M2, hI, rfl⟩ := hr
  obtain ⟨e1, hv⟩ := pnI_view hM hpu (by omega) hm hI
  refine ⟨?_, ⟨M2, ?_, rfl⟩, hv⟩
  · unfold carV
    rw [e1]
    rfl
  · rw [e1]
    exact hI
