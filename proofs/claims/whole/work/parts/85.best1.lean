/-! one's best seconds: what both seek -/
def tS (V : Vw) (i m : Nat) (s : Int) : Vw := fun c k => if c = 9 ∧ k = i * 5 + m then s else V c k
theorem tS_o (V : Vw) (i m : Nat) (s : Int) (c k : Nat) (h : c ≠ 9) : tS V i m s c k = V c k := by
  unfold tS
  rw [if_neg (fun z => h z.1)]
theorem tS_n (V : Vw) (i m : Nat) (s : Int) (k : Nat) (h : k ≠ i * 5 + m) : tS V i m s 9 k = V 9 k := by
  unfold tS
  rw [if_neg (fun z => h z.2)]
theorem tS_e (V : Vw) (i m : Nat) (s : Int) : tS V i m s 9 (i * 5 + m) = s := by
  unfold tS
  rw [if_pos ⟨rfl, rfl⟩]
theorem tS_congr {V V' : Vw} {n mt i m : Nat} {s : Int} (h : veq n mt V V') : veq n mt (tS V i m s) (tS V' i m s) := by
  obtain ⟨h1, h2, h3, h4⟩ := h
  refine ⟨fun k hk => h1 k hk, fun j hj => h2 j hj, fun m2 hm2 => h3 m2 hm2, fun j m2 hj hm2 => ⟨(h4 j m2 hj hm2).1, ?_⟩⟩
  show (if (9 : Nat) = 9 ∧ j * 5 + m2 = i * 5 + m then s else V 9 (j * 5 + m2)) = (if (9 : Nat) = 9 ∧ j * 5 + m2 = i * 5 + m then s else V' 9 (j * 5 + m2))
  rw [(h4 j m2 hj hm2).2]
theorem tS_wf {V : Vw} {n mt i m : Nat} {s : Int} (h : wfV V n mt) (hs : 0 ≤ s ∧ s ≤ 99) : wfV (tS V i m s) n mt := by
  obtain ⟨h1, h2, h3, h4, h5⟩ := h
  refine ⟨h1, h2, h3, h4, fun j m2 hj hm2 => ⟨(h5 j m2 hj hm2).1, ?_⟩⟩
  show 0 ≤ (if (9 : Nat) = 9 ∧ j * 5 + m2 = i * 5 + m then s else V 9 (j * 5 + m2)) ∧ (if (9 : Nat) = 9 ∧ j * 5 + m2 = i * 5 + m then s else V 9 (j * 5 + m2)) ≤ 99
  split
  · exact hs
  · exact (h5 j m2 hj hm2).2
/-- the evening behind a row of seconds -/
def nxB (n i : Nat) (V : Vw) (s : Nat) : Vw := voteV (tS V i (mV V) s) n
def caB (n i : Nat) (V : Vw) (s : Nat) : Int := carV (tS V i (mV V) s) n
def evB (n i : Nat) : List Nat → Vw → Int → Option Int
  | [], _, w => some w
  | s :: l, V, w => if (s : Int) ≤ V 8 i then evB n i l (nxB n i V s) (w + caB n i V s * V 6 (i * 5 + mV V)) else none
def vwB (n i : Nat) : List Nat → Vw → Vw
  | [], V => V
  | s :: l, V => vwB n i l (nxB n i V s)
theorem caB_01 (n i : Nat) (V : Vw) (s : Nat) : caB n i V s = 0 ∨ caB n i V s = 1 := carV_01 _ _
theorem evB_app {n i : Nat} : ∀ (p l : List Nat) (V : Vw) (w w' : Int), evB n i p V w = some w' → evB n i (p ++ l) V w = evB n i l (vwB n i p V) w'
  | [], l, V, w, w', h => by
    have : w = w' := Option.some.inj h
    subst this
    rfl
  | s :: p, l, V, w, w', h => by
    show (if (s : Int) ≤ V 8 i then evB n i (p ++ l) (nxB n i V s) (w + caB n i V s * V 6 (i * 5 + mV V)) else none) = _
    have h : (if (s : Int) ≤ V 8 i then evB n i p (nxB n i V s) (w + caB n i V s * V 6 (i * 5 + mV V)) else none) = some w' := h
    by_cases q : (s : Int) ≤ V 8 i
    · rw [if_pos q] at h ⊢
      exact evB_app p l _ _ _ h
    · rw [if_neg q] at h; cases h
theorem nxB_wf {V : Vw} {n mt i s : Nat} (h : wfV V n mt) (hp : V 0 3 < mt) (hi : i < n) (hs : (s : Int) ≤ V 8 i) : wfV (nxB n i V s) n mt := voteV_wf (tS_wf h (by have := (h.2.2.1 i hi).2.2.2.2; omega)) hp
theorem nxB_03 (n i : Nat) (V : Vw) (s : Nat) : nxB n i V s 0 3 = V 0 3 + 1 := rfl
theorem nxB_7 (n i : Nat) (V : Vw) (s k : Nat) : nxB n i V s 7 k = V 7 k := rfl
theorem nxB_6 (n i : Nat) (V : Vw) (s k : Nat) : nxB n i V s 6 k = V 6 k := rfl
theorem nxB_1 (n i : Nat) (V : Vw) (s k : Nat) : nxB n i V s 1 k = V 1 k := rfl
theorem nxB_congr {V V' : Vw} {n mt i s : Nat} (h : veq n mt V V') (hV : wfV V n mt) (hp : V 0 3 < mt) (hi : i < n) (hs : (s : Int) ≤ V 8 i) : veq n mt (nxB n i V s) (nxB n i V' s) ∧ caB n i V s = caB n i V' s := by
  have em : mV V = mV V' := mV_congr h ⟨hV.1.2.2.2.2.1, hp⟩
  have hw : wfV (tS V i (mV V) s) n mt := tS_wf hV (by have := (hV.2.2.1 i hi).2.2.2.2; omega)
  unfold nxB caB
  rw [← em]
  exact ⟨voteV_congr (tS_congr h) hw hp, carV_congr (tS_congr h) hw hp⟩
theorem evB_congr {n mt i : Nat} (hi : i < n) : ∀ (l : List Nat) (V V' : Vw) (w : Int), veq n mt V V' → wfV V n mt → V 0 3 + (l.length : Int) ≤ mt → evB n i l V w = evB n i l V' w
  | [], _, _, _, _, _, _ => rfl
  | s :: l, V, V', w, h, hV, hp => by
    have hp1 : V 0 3 < mt := by rw [List.length_cons] at hp; push_cast at hp; omega
    have em : mV V = mV V' := mV_congr h ⟨hV.1.2.2.2.2.1, hp1⟩
    have e8 := (h.2.1 i hi).2.2.2.2
    show (if (s : Int) ≤ V 8 i then evB n i l (nxB n i V s) (w + caB n i V s * V 6 (i * 5 + mV V)) else none) = (if (s : Int) ≤ V' 8 i then evB n i l (nxB n i V' s) (w + caB n i V' s * V' 6 (i * 5 + mV V')) else none)
    by_cases q : (s : Int) ≤ V 8 i
    · obtain ⟨c1, c2⟩ := nxB_congr h hV hp1 hi q
      rw [if_pos q, if_pos (by omega), c2, ← em, (h.2.2.2 i (mV V) hi (mV_lt hV hp1)).1]
      exact evB_congr hi l _ _ _ c1 (nxB_wf hV hp1 hi q) (by rw [nxB_03]; rw [List.length_cons] at hp; push_cast at hp; omega)
    · rw [if_neg q, if_neg (by omega)]
/-- what was told of a matter already put does not count -/
theorem vR_tS {V : Vw} {n i m m2 : Nat} {x : Int} (hm : m < 5) (hm2 : m2 < 5) (hne : m ≠ m2) : vR (tS V i m x) n m2 = vR V n m2 := by
  have hw : wV (tS V i m x) m2 = wV V m2 := by
    funext j
    unfold wV
    rw [tS_n V i m x (j * 5 + m2) (by omega), tS_o _ _ _ _ _ _ (by omega), tS_o _ _ _ _ _ _ (by omega), tS_o _ _ _ _ _ _ (by omega), tS_o _ _ _ _ _ _ (by omega)]
  unfold vR
  rw [hw]
  rfl
theorem tS_comm {V : Vw} {i m m2 : Nat} {x s : Int} (hm : m < 5) (hm2 : m2 < 5) (hne : m ≠ m2) : tS (tS V i m x) i m2 s = tS (tS V i m2 s) i m x := by
  funext c k
  unfold tS
  by_cases q : c = 9 ∧ k = i * 5 + m2
  · rw [if_pos q, if_neg (by omega), if_pos q]
  · rw [if_neg q]
    by_cases q2 : c = 9 ∧ k = i * 5 + m
    · rw [if_pos q2, if_pos q2]
    · rw [if_neg q2, if_neg q2, if_neg q]
theorem voteV_tS {V : Vw} {n i m : Nat} {x : Int} (hm : m < 5) (hm2 : mV V < 5) (hne : m ≠ mV V) : voteV (tS V i m x) n = tS (voteV V n) i m x ∧ carV (tS V i m x) n = carV V n := by
  have em : mV (tS V i m x) = mV V := rfl
  have hR := vR_tS (V := V) (n := n) (i := i) (x := x) hm hm2 hne
  constructor
  · funext c k
    rw [voteV_M, voteV_M, em]
    unfold vtm
    rw [hR]
    by_cases q1 : c = 0 ∧ k = 3
    · rw [if_pos q1, tS_o _ _ _ _ _ _ (by omega), tS_o _ _ _ _ _ _ (by omega), if_pos q1]
    · rw [if_neg q1]
      by_cases q2 : c = 8
      · rw [if_pos q2, tS_o _ _ _ _ _ _ (by omega), tS_o _ _ _ _ _ _ (by omega), tS_o _ _ _ _ _ _ (by omega), tS_o _ _ _ _ _ _ (by omega), if_neg q1, if_pos q2]
      · rw [if_neg q2]
        unfold tS
        by_cases q3 : c = 9 ∧ k = i * 5 + m
        · rw [if_pos q3, if_pos q3]
        · rw [if_neg q3, if_neg q3]
          show V c k = if c = 0 ∧ k = 3 then _ else if c = 8 then _ else V c k
          rw [if_neg q1, if_neg q2]
  · rw [carV_M, carV_M, em]
    unfold carM
    rw [hR]
    rfl
theorem evB_tS {n mt i m : Nat} {x : Int} (hi : i < n) (hm : m < 5) : ∀ (l : List Nat) (V : Vw) (w : Int), wfV V n mt → V 0 3 + (l.length : Int) ≤ mt → (∀ q : Nat, V 0 3 ≤ q → (q : Int) < V 0 3 + (l.length : Int) → V 7 q ≠ m) → evB n i l (tS V i m x) w = evB n i l V w
  | [], _, _, _, _, _ => rfl
  | s :: l, V, w, hV, hp, hd => by
    have hp0 := hV.1.2.2.2.2.1
    rw [List.length_cons] at hp hd
    push_cast at hp hd
    have hp1 : V 0 3 < mt := by omega
    have hml := mV_lt hV hp1
    have h5 := hV.1.2.2.2.1
    have hmne : m ≠ mV V := fun z => by
      have h1 := hd (V 0 3).toNat (by omega) (by omega)
      have h2 := (hV.2.2.2.1 (V 0 3).toNat (by omega)).2
      unfold mV at z
      omega
    have em : mV (tS V i m x) = mV V := rfl
    have e1 := voteV_tS (V := tS V i (mV V) s) (n := n) (i := i) (m := m) (x := x) hm (show mV V < 5 by omega) hmne
    have c1 : nxB n i (tS V i m x) s = tS (nxB n i V s) i m x := by
      unfold nxB
      rw [em, tS_comm hm (by omega) hmne]
      exact e1.1
    have c2 : caB n i (tS V i m x) s = caB n i V s := by
      unfold caB
      rw [em, tS_comm hm (by omega) hmne]
      exact e1.2
    show (if (s : Int) ≤ tS V i m x 8 i then evB n i l (nxB n i (tS V i m x) s) (w + caB n i (tS V i m x) s * tS V i m x 6 (i * 5 + mV (tS V i m x))) else none) = (if (s : Int) ≤ V 8 i then evB n i l (nxB n i V s) (w + caB n i V s * V 6 (i * 5 + mV V)) else none)
    rw [c1, c2, em, tS_o _ _ _ _ 8 _ (by omega), tS_o _ _ _ _ 6 _ (by omega)]
    by_cases q : (s : Int) ≤ V 8 i
    · rw [if_pos q, if_pos q]
      exact evB_tS hi hm l (nxB n i V s) _ (nxB_wf hV hp1 hi q) (by rw [nxB_03]; omega) (fun q2 a b => by rw [nxB_03] at a b; rw [nxB_7]; exact hd q2 (by omega) (by omega))
    · rw [if_neg q, if_neg q]
/-- hope -/
def mx0 (x : Int) : Int := if 0 < x then x else 0
def hopF (g : Nat → Int) (k : Nat) : Int := vt_sum (fun q => mx0 (g q)) k
theorem vt_sum_shift {f : Nat → Int} : ∀ k : Nat, vt_sum f (k + 1) = f 0 + vt_sum (fun q => f (q + 1)) k
  | 0 => by
    show (0 : Int) + f 0 = f 0 + 0
    omega
  | k + 1 => by
    have ih := vt_sum_shift (f := f) k
    show vt_sum f (k + 1) + f (k + 1) = f 0 + (vt_sum (fun q => f (q + 1)) k + f (k + 1))
    omega
def hgV (V : Vw) (i q : Nat) : Int := V 6 (i * 5 + (V 7 ((V 0 3).toNat + q)).toNat)
theorem evB_hope {n mt i : Nat} (hi : i < n) : ∀ (l : List Nat) (V : Vw) (w w' : Int), wfV V n mt → V 0 3 + (l.length : Int) ≤ mt → evB n i l V w = some w' → w' ≤ w + hopF (hgV V i) l.length
  | [], _, w, w', _, _, h => by
    have : w = w' := Option.some.inj h
    show w' ≤ w + 0
    omega
  | s :: l, V, w, w', hV, hp, h => by
    have hp0 := hV.1.2.2.2.2.1
    rw [List.length_cons] at hp ⊢
    push_cast at hp
    have hp1 : V 0 3 < mt := by omega
    have h : (if (s : Int) ≤ V 8 i then evB n i l (nxB n i V s) (w + caB n i V s * V 6 (i * 5 + mV V)) else none) = some w' := h
    by_cases q : (s : Int) ≤ V 8 i
    · rw [if_pos q] at h
      have ih := evB_hope hi l _ _ _ (nxB_wf hV hp1 hi q) (by rw [nxB_03]; omega) h
      have e1 : hopF (hgV V i) (l.length + 1) = mx0 (hgV V i 0) + hopF (hgV (nxB n i V s) i) l.length := by
        unfold hopF
        rw [vt_sum_shift]
        congr 1
        refine vt_sum_congr _ (fun q2 _ => ?_)
        unfold hgV
        rw [nxB_03, nxB_6, nxB_7, show (V 0 3 + 1).toNat + q2 = (V 0 3).toNat + (q2 + 1) by omega]
      have e2 : hgV V i 0 = V 6 (i * 5 + mV V) := rfl
      rw [e1, e2]
      have : caB n i V s * V 6 (i * 5 + mV V) ≤ mx0 (V 6 (i * 5 + mV V)) := by
        unfold mx0
        rcases caB_01 n i V s with z | z
        · rw [z, Int.zero_mul]; split <;> omega
        · rw [z, Int.one_mul]; split <;> omega
      omega
    · rw [if_neg q] at h; cases h
theorem evB_b {n mt i : Nat} (hi : i < n) : ∀ (l : List Nat) (V : Vw) (w w' : Int), wfV V n mt → V 0 3 + (l.length : Int) ≤ mt → evB n i l V w = some w' → w - 9 * l.length ≤ w' ∧ w' ≤ w + 9 * l.length
  | [], _, w, w', _, _, h => by
    have : w = w' := Option.some.inj h
    show w - 9 * ((0 : Nat) : Int) ≤ w' ∧ w' ≤ w + 9 * ((0 : Nat) : Int)
    omega
  | s :: l, V, w, w', hV, hp, h => by
    rw [List.length_cons] at hp ⊢
    push_cast at hp ⊢
    have hp1 : V 0 3 < mt := by omega
    have h : (if (s : Int) ≤ V 8 i then evB n i l (nxB n i V s) (w + caB n i V s * V 6 (i * 5 + mV V)) else none) = some w' := h
    by_cases q : (s : Int) ≤ V 8 i
    · rw [if_pos q] at h
      have ih := evB_b hi l _ _ _ (nxB_wf hV hp1 hi q) (by rw [nxB_03]; omega) h
      have hb := (hV.2.2.2.2 i (mV V) hi (mV_lt hV hp1)).1
      rcases caB_01 n i V s with z | z
      · rw [z, Int.zero_mul] at ih; omega
      · rw [z, Int.one_mul] at ih; omega
    · rw [if_neg q] at h; cases h
/-- of no worth: seconds change nothing -/
theorem evB_zero {n mt i t : Nat} {l : List Nat} {V : Vw} {w : Int} (hi : i < n) (hV : wfV V n mt) (hp : V 0 3 + (l.length : Int) < mt) (hd : ∀ q : Nat, V 0 3 < q → (q : Int) < mt → V 7 q ≠ mV V) (h0 : V 6 (i * 5 + mV V) = 0) (ht : (t : Int) ≤ V 8 i) : evB n i (t :: l) V w = evB n i (0 :: l) V w := by
  have hp0 := hV.1.2.2.2.2.1
  have hp1 : V 0 3 < mt := by omega
  have hml := mV_lt hV hp1
  have h5 := hV.1.2.2.2.1
  have h8 := (hV.2.2.1 i hi).2.2.2.2
  have hw : ∀ x y : Int, wV (tS V i (mV V) x) (mV V) = wV (tS V i (mV V) y) (mV V) := fun x y => by
    funext j
    unfold wV
    by_cases q : j = i
    · subst q
      unfold vt_want
      rw [tS_o _ _ _ _ 6 _ (by omega), tS_o _ _ _ _ 6 _ (by omega), if_pos h0, if_pos h0]
    · rw [tS_n V i (mV V) x _ (by omega), tS_n V i (mV V) y _ (by omega)]
      rfl
  have hR : ∀ x y : Int, vR (tS V i (mV V) x) n (mV V) = vR (tS V i (mV V) y) n (mV V) := fun x y => by
    unfold vR
    rw [hw x y]
    rfl
  have c2 : caB n i V t = caB n i V 0 := by
    unfold caB
    rw [carV_M, carV_M]
    show carM (tS V i (mV V) t) n (mV V) = carM (tS V i (mV V) (0 : Nat)) n (mV V)
    unfold carM
    rw [hR t (0 : Nat)]
    rfl
  have c1 : nxB n i V t = tS (nxB n i V 0) i (mV V) t := by
    unfold nxB
    funext c k
    rw [voteV_M, voteV_M]
    show vtm (tS V i (mV V) t) n (mV V) c k = tS (vtm (tS V i (mV V) (0 : Nat)) n (mV V)) i (mV V) t c k
    unfold vtm
    rw [hR t (0 : Nat)]
    by_cases q1 : c = 0 ∧ k = 3
    · rw [if_pos q1, tS_o _ _ _ _ _ _ (by omega), tS_o _ _ _ _ _ _ (by omega), if_pos q1, tS_o _ _ _ _ _ _ (by omega)]
    · rw [if_neg q1]
      by_cases q2 : c = 8
      · rw [if_pos q2, tS_o _ _ _ _ _ _ (by omega), tS_o _ _ _ _ _ _ (by omega), tS_o _ _ _ _ _ _ (by omega), tS_o _ _ _ _ _ _ (by omega), if_neg q1, if_pos q2, tS_o _ _ _ _ _ _ (by omega), tS_o _ _ _ _ _ _ (by omega), tS_o _ _ _ _ _ _ (by omega)]
      · rw [if_neg q2]
        unfold tS
        by_cases q3 : c = 9 ∧ k = i * 5 + mV V
        · rw [if_pos q3, if_pos q3]
        · rw [if_neg q3, if_neg q3]
          show V c k = if c = 0 ∧ k = 3 then _ else if c = 8 then _ else if c = 9 ∧ k = i * 5 + mV V then _ else V c k
          rw [if_neg q1, if_neg q2, if_neg q3]
  show (if (t : Int) ≤ V 8 i then evB n i l (nxB n i V t) (w + caB n i V t * V 6 (i * 5 + mV V)) else none) = (if ((0 : Nat) : Int) ≤ V 8 i then evB n i l (nxB n i V 0) (w + caB n i V 0 * V 6 (i * 5 + mV V)) else none)
  rw [if_pos ht, if_pos (by omega), c1, c2]
  exact evB_tS hi (by omega) l (nxB n i V 0) _ (nxB_wf hV hp1 hi (by omega)) (by rw [nxB_03]; omega) (fun q a b => by rw [nxB_03] at a b; rw [nxB_7]; exact hd q (by omega) (by omega))
/-- seconds only help, or only hinder -/
theorem caB_mono {n mt i s t : Nat} {V : Vw} (hi : i < n) (hV : wfV V n mt) (hp1 : V 0 3 < mt) (h3 : V 1 i = 3) (hst : s ≤ t) (ht : (t : Int) ≤ V 8 i) : (0 ≤ V 6 (i * 5 + mV V) → caB n i V s ≤ caB n i V t) ∧ (V 6 (i * 5 + mV V) ≤ 0 → caB n i V t ≤ caB n i V s) := by
  have hml := mV_lt hV hp1
  have h8 := (hV.2.2.1 i hi).2.2.2.2
  have hwS : ∀ x : Nat, (x : Int) ≤ V 8 i → caB n i V x = vt_carI (V 5 (mV V)) (wS (tS V i (mV V) x) n (mV V) 1) (wS (tS V i (mV V) x) n (mV V) 0) := fun x hx => by
    unfold caB
    rw [carV_M]
    exact carM_wS (tS_wf hV (by omega)) hml
  rw [hwS s (by omega), hwS t ht]
  have hself : ∀ x : Nat, (x : Int) ≤ V 8 i → wV (tS V i (mV V) x) (mV V) i = if V 6 (i * 5 + mV V) = 0 then 0 else (x : Int) := fun x hx => by
    unfold wV vt_want
    rw [tS_e, tS_o _ _ _ _ 6 _ (by omega), tS_o _ _ _ _ 8 _ (by omega), tS_o _ _ _ _ 1 _ (by omega), h3]
    by_cases q : V 6 (i * 5 + mV V) = 0
    · rw [if_pos q, if_pos q]
    · rw [if_neg q, if_neg q]
      show (if (if (3 : Int) < 2 then _ else if (3 : Int) = 2 then _ else (x : Int)) < V 8 i then (if (3 : Int) < 2 then _ else if (3 : Int) = 2 then _ else (x : Int)) else V 8 i) = (x : Int)
      rw [if_neg (show ¬ (3 : Int) < 2 by decide), if_neg (show ¬ (3 : Int) = 2 by decide)]
      split <;> omega
  have hoth : ∀ j, j ≠ i → ∀ x y : Int, wV (tS V i (mV V) x) (mV V) j = wV (tS V i (mV V) y) (mV V) j := fun j hj x y => by
    unfold wV
    rw [tS_n V i (mV V) x _ (by omega), tS_n V i (mV V) y _ (by omega)]
    rfl
  have hct := (hV.2.2.1 i hi).2.2.2.1
  have le : ∀ b, (fV V (mV V) i = b → V 6 (i * 5 + mV V) ≠ 0 → True) → wS (tS V i (mV V) s) n (mV V) b ≤ wS (tS V i (mV V) t) n (mV V) b := fun b _ => by
    unfold wS
    refine vt_sum_mono n (fun j hj => ?_)
    show (if fV V (mV V) j = b then V 4 j * wV (tS V i (mV V) s) (mV V) j else 0) ≤ (if fV V (mV V) j = b then V 4 j * wV (tS V i (mV V) t) (mV V) j else 0)
    by_cases q : j = i
    · subst q
      rw [hself s (by omega), hself t ht]
      split
      · split
        · exact Int.le_refl _
        · exact Int.mul_le_mul_of_nonneg_left (by omega) (by omega)
      · exact Int.le_refl _
    · rw [hoth j q s t]
      exact Int.le_refl _
  have eqb : ∀ b, (V 6 (i * 5 + mV V) = 0 ∨ fV V (mV V) i ≠ b) → wS (tS V i (mV V) s) n (mV V) b = wS (tS V i (mV V) t) n (mV V) b := fun b hb => by
    unfold wS
    refine vt_sum_congr n (fun j hj => ?_)
    show (if fV V (mV V) j = b then V 4 j * wV (tS V i (mV V) s) (mV V) j else 0) = (if fV V (mV V) j = b then V 4 j * wV (tS V i (mV V) t) (mV V) j else 0)
    by_cases q : j = i
    · subst q
      rcases hb with hb | hb
      · rw [hself s (by omega), hself t ht, if_pos hb, if_pos hb]
      · rw [if_neg hb, if_neg hb]
    · rw [hoth j q s t]
  have hnd := (hV.2.2.2.1 (mV V) hml).1
  have hf : fV V (mV V) i = if 0 < V 6 (i * 5 + mV V) then 1 else 0 := rfl
  constructor
  · intro h
    refine carI_mono hnd (le 1 (fun _ _ => trivial)) ?_
    rw [eqb 0]
    · exact Int.le_refl _
    · by_cases q : V 6 (i * 5 + mV V) = 0
      · exact Or.inl q
      · right
        rw [hf, if_pos (by omega)]
        decide
  · intro h
    refine carI_mono hnd ?_ (le 0 (fun _ _ => trivial))
    rw [eqb 1]
    · exact Int.le_refl _
    · right
      rw [hf, if_neg (by omega)]
      decide
theorem caB_cut {n mt i s t : Nat} {V : Vw} (hi : i < n) (hV : wfV V n mt) (hp1 : V 0 3 < mt) (h3 : V 1 i = 3) (hst : s ≤ t) (ht : (t : Int) ≤ V 8 i) (he : caB n i V t = caB n i V 0) : caB n i V s = caB n i V 0 := by
  obtain ⟨a1, a2⟩ := caB_mono hi hV hp1 h3 hst ht
  obtain ⟨b1, b2⟩ := caB_mono (s := 0) (t := s) hi hV hp1 h3 (Nat.zero_le s) (by omega)
  rcases Int.lt_or_le (V 6 (i * 5 + mV V)) 0 with q | q
  · have := a2 (by omega)
    have := b2 (by omega)
    omega
  · have := a1 q
    have := b1 q
    omega
