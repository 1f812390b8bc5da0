/-! texts: the class reads -/
theorem am_at_mono {Γ : Am_G} {d n pc : Nat} {ls : Am_L} {st : List Am_V} {M : Am_M} {K K' : Option Am_V → Am_M → Prop} (h : am_At Γ d n pc ls st M K) (hk : ∀ r M', K r M' → K' r M') : am_At Γ d n pc ls st M K' := by
  intro p l e s m args below meth c H locs lr C h1 h2 h3 h4 T hT X
  obtain ⟨t, a1, o, b1, b2, ⟨⟨r, M', c1, c2, c3⟩, c4⟩, b4⟩ := h p l e s m args below meth c H locs lr C h1 h2 h3 h4 T hT X
  exact ⟨t, a1, o, b1, b2, ⟨⟨r, M', c1, hk r M' c2, c3⟩, c4⟩, b4⟩
theorem tleast_b (w i : Int) : 0 ≤ tleast w i ∧ tleast w i ≤ 1 := by
  unfold tleast
  split
  · omega
  · split
    · split <;> omega
    · omega
theorem tmost_b {w i pe ma : Int} (hp : 0 ≤ pe ∧ pe ≤ 6) (hm : 0 ≤ ma ∧ ma ≤ 5) : -1 ≤ tmost w i pe ma ∧ tmost w i pe ma ≤ 30 := by
  unfold tmost
  split
  · omega
  · split
    · split <;> omega
    · split
      · split
        · omega
        · split <;> omega
      · split <;> omega
theorem tc_b {w pe ma : Int} (hp : 0 ≤ pe ∧ pe ≤ 6) (hm : 0 ≤ ma ∧ ma ≤ 5) (hw : ¬ tbad w pe ma) : (0 ≤ tcP w pe ∧ tcP w pe ≤ 6) ∧ (0 ≤ tcM w ma ∧ tcM w ma ≤ 5) := by
  unfold tbad at hw
  unfold tcP tcM
  constructor
  · split
    · omega
    · split
      · omega
      · split <;> omega
  · split
    · omega
    · split <;> omega
theorem tmany_3 (w : Int) : tmany w ≤ 3 := by
  unfold tmany
  split
  · omega
  · split
    · omega
    · split <;> omega
def nmS (j i p k : Nat) : Prop := (p = 14 ∧ 5 ≤ k ∧ k ≤ 8) ∨ (p = 17 ∧ j * 3 + i ≤ k ∧ k < j * 3 + 3)
def nmK (j i : Nat) (w pe ma : Int) (M1 : Am_M) (o : Nat ⊕ (Nat × List Int)) (r : Option Am_V) (M' : Am_M) : Prop := tX (nmS j i) M1 M' ∧ (∀ f, o = .inl f → r = some (.inl 0) ∧ M'.1 0 14 7 = (f : Nat)) ∧ (∀ q, o = .inr q → r = some (.inl 1) ∧ M'.1 0 14 8 = (q.1 : Nat) ∧ M'.1 0 14 5 = tcP w pe ∧ M'.1 0 14 6 = tcM w ma ∧ ∀ i' v, q.2[i']? = some v → M'.1 0 17 (j * 3 + (i + i')) = v)
theorem tW.fr {M M' : Am_M} {n : Nat} {S : Nat → Nat → Prop} (h : tW M n) (hX : tX S M M') (h1 : ¬ S 14 1) (h2 : ∀ k, ¬ S 15 k) : tW M' n ∧ M'.1 0 15 = M.1 0 15 := by
  have e : M'.1 0 15 = M.1 0 15 := by
    funext k
    exact hX 0 15 k (fun z => h2 k z.2)
  refine ⟨⟨(hX 0 14 1 (fun z => h1 z.2)).trans h.1, h.2.1, fun k hk => ?_⟩, e⟩
  rw [e]
  exact h.2.2 k hk
theorem c_nums {Γ : Am_G} {d n j : Nat} {w pe ma : Int} {t : Nat → Int} (hj : j < 12) (hw : 0 ≤ w ∧ w ≤ 9) (hpe : 0 ≤ pe ∧ pe ≤ 6) (hma : 0 ≤ ma ∧ ma ≤ 5) : ∀ (k i p : Nat) (z5 : Option Am_V) (M1 : Am_M), i + k = tmany w → p ≤ n → tW M1 n → M1.1 0 15 = t → M1.1 0 14 8 = p → M1.1 0 14 5 = pe → M1.1 0 14 6 = ma → am_At Γ (d + 7) n_Text_readLine 58 [some (.inr (.inr (0, 14))), some (.inl (j : Int)), some (.inl w), some (.inl ((tmany w : Nat) : Int)), some (.inl (i : Int)), z5] [] M1 (nmK j i w pe ma M1 (tnums t n w pe ma k i p)) := by
  have hm3 := tmany_3 w
  intro k
  induction k with
  | zero =>
    intro i p z5 M1 hi hpn hW ht h8 h5 h6
    refine am_go 60 [58] (by decide) ?_
    refine And.intro ⟨⟨by omega, by omega⟩, ⟨by omega, by omega⟩⟩ (And.intro (fun h => ?_) (fun h => ?_))
    · exfalso; omega
    refine am_by (c_countWord (d := d) (w := w) hw) (by omega) ?_
    rintro r M2 ⟨rfl, hX, e5, e6⟩
    refine ⟨Or.inr rfl, hX.wk (fun p k h => Or.inl ⟨h.1, by omega, by omega⟩), fun f hf => ?_, fun q hq => ?_⟩
    · unfold tnums at hf; cases hf
    · unfold tnums at hq
      cases hq
      refine ⟨rfl, (hX 0 14 8 (by omega)).trans h8, by rw [e5, h5], by rw [e6, h6], fun i' v hv => by simp at hv⟩
  | succ k ih =>
    intro i p z5 M1 hi hpn hW ht h8 h5 h6
    have hsb := tkS_b t hpn
    have heb := tkE_b t hsb.2
    have hvb := tnum_b t hsb.2
    have hlb := tleast_b w (i : Int)
    have hmb := tmost_b (w := w) (i := (i : Int)) hpe hma
    refine am_go 60 [58] (by decide) ?_
    refine And.intro ⟨⟨by omega, by omega⟩, ⟨by omega, by omega⟩⟩ (And.intro (fun h => ?_) (fun h => ?_))
    rotate_left
    · exfalso; omega
    refine am_by (c_step (d := d) hW h8 hpn) (by omega) ?_
    rintro r M2 ⟨rfl, hX2, e7, e8⟩
    rw [ht] at e7 e8
    obtain ⟨hW2, ht2⟩ := hW.fr hX2 (by unfold sS; omega) (fun k => by unfold sS; omega)
    rw [ht] at ht2
    refine am_by (c_numberAtHand (d := d) hW2 e7 (by rw [ht2]; exact e8) hsb.2) (by omega) ?_
    rintro r M3 ⟨rfl, rfl⟩
    rw [ht2]
    refine am_by (c_leastOf (d := d) (w := w) (i := i) hw (by omega)) (by omega) ?_
    rintro r M4 ⟨rfl, rfl⟩
    have hX2' : tX (nmS j i) M1 M4 := hX2.wk (fun p k h => Or.inl ⟨h.1, by have := h.2; omega, by have := h.2; omega⟩)
    have g5 : M4.1 0 14 5 = pe := (hX2 0 14 5 (by unfold sS; omega)).trans h5
    have g6 : M4.1 0 14 6 = ma := (hX2 0 14 6 (by unfold sS; omega)).trans h6
    have eN : tnums t n w pe ma (k + 1) i p = if tleast w i ≤ tnum t n (tkS t n p) ∧ tnum t n (tkS t n p) ≤ tmost w i pe ma then (match tnums t n w pe ma k (i + 1) (tkE t n (tkS t n p)) with
      | .inl f => .inl f
      | .inr q => .inr (q.1, tnum t n (tkS t n p) :: q.2)) else .inl (tkS t n p) := rfl
    generalize tnum t n (tkS t n p) = v at *
    have bad : ¬ (tleast w i ≤ v ∧ v ≤ tmost w i pe ma) → nmK j i w pe ma M1 (tnums t n w pe ma (k + 1) i p) (some (.inl 0)) M4 := fun q => by
      rw [eN, if_neg q]
      refine ⟨hX2', fun f hf => ?_, fun q hq => by cases hq⟩
      cases hf
      exact ⟨rfl, e7⟩
    refine And.intro ⟨⟨by omega, by omega⟩, ⟨by omega, by omega⟩⟩ (And.intro (fun h2 => ?_) (fun h2 => ?_))
    · have h2 : v < tleast w i := h2
      exact ⟨Or.inl rfl, bad (by omega)⟩
    have h2 : ¬ v < tleast w i := h2
    refine am_by (c_mostOf (d := d) (M := M4) (w := w) (i := i) hw (by omega)) (by omega) ?_
    rintro r M5 ⟨rfl, rfl⟩
    rw [g5, g6]
    refine And.intro ⟨⟨by omega, by omega⟩, ⟨by omega, by omega⟩⟩ (And.intro (fun h3 => ?_) (fun h3 => ?_))
    · have h3 : tmost w i pe ma < v := h3
      exact ⟨Or.inl rfl, bad (by omega)⟩
    have h3 : ¬ tmost w i pe ma < v := h3
    refine And.intro ⟨by omega, by omega⟩ ?_
    have ex : ((j : Int) * 3 + (i : Int)).toNat = j * 3 + i := by omega
    obtain ⟨M6, hM6⟩ : ∃ M6, M6 = am_set M5 0 17 (j * 3 + i) v := ⟨_, rfl⟩
    have hX6 : tX (fun p k => p = 17 ∧ k = j * 3 + i) M5 M6 := by rw [hM6]; exact tX.rf.set ⟨rfl, rfl⟩
    obtain ⟨hW6, ht6⟩ := hW2.fr hX6 (by omega) (fun k => by omega)
    have go := ih (i + 1) (tkE t n (tkS t n p)) (some (.inl v)) M6 (by omega) heb.2.1 hW6 (ht6.trans ht2) ((hX6 0 14 8 (by omega)).trans e8) ((hX6 0 14 5 (by omega)).trans g5) ((hX6 0 14 6 (by omega)).trans g6)
    have go2 := am_at_mono go (K' := nmK j i w pe ma M1 (tnums t n w pe ma (k + 1) i p)) (fun r M' hK => by
      obtain ⟨k1, k2, k3⟩ := hK
      refine ⟨(hX2'.tr (hX6.wk (fun p k h => Or.inr (by omega)))).tr (k1.wk (fun p k h => ?_)), fun f hf => ?_, fun q hq => ?_⟩
      · unfold nmS at h ⊢
        omega
      · rw [eN, if_pos (by omega)] at hf
        cases ho : tnums t n w pe ma k (i + 1) (tkE t n (tkS t n p)) with
        | inl f' =>
          rw [ho] at hf
          have e : f' = f := Sum.inl.inj hf
          rw [← e]
          exact k2 f' ho
        | inr q' => rw [ho] at hf; cases hf
      · rw [eN, if_pos (by omega)] at hq
        cases ho : tnums t n w pe ma k (i + 1) (tkE t n (tkS t n p)) with
        | inl f' => rw [ho] at hq; cases hq
        | inr q' =>
          rw [ho] at hq
          cases hq
          obtain ⟨l1, l2, l3, l4, l5⟩ := k3 q' ho
          refine ⟨l1, l2, l3, l4, fun i' u hu => ?_⟩
          cases i' with
          | zero =>
            simp at hu
            subst hu
            rw [Nat.add_zero, k1 0 17 (j * 3 + i) (by unfold nmS; omega), hM6]
            exact set_eq
          | succ i' =>
            have := l5 i' u (by simpa using hu)
            rw [show i + (i' + 1) = i + 1 + i' by omega]
            exact this)
    rw [hM6, ← ex] at go2
    exact go2
def lnS (j p k : Nat) : Prop := (p = 14 ∧ 5 ≤ k ∧ k ≤ 8) ∨ (p = 16 ∧ k = j) ∨ (p = 17 ∧ j * 3 ≤ k ∧ k < j * 3 + 3)
def lnK (j : Nat) (pe ma : Int) (M1 : Am_M) (o : Nat ⊕ (Nat × Int × List Int)) (r : Option Am_V) (M' : Am_M) : Prop := tX (lnS j) M1 M' ∧ (∀ f, o = .inl f → r = some (.inl 0) ∧ M'.1 0 14 7 = (f : Nat)) ∧ (∀ q, o = .inr q → r = some (.inl 1) ∧ M'.1 0 14 8 = (q.1 : Nat) ∧ M'.1 0 14 5 = tcP q.2.1 pe ∧ M'.1 0 14 6 = tcM q.2.1 ma ∧ M'.1 0 16 j = q.2.1 ∧ ∀ i v, q.2.2[i]? = some v → M'.1 0 17 (j * 3 + i) = v)
theorem c_readLine {Γ : Am_G} {d n j p : Nat} {pe ma : Int} {t : Nat → Int} {M1 : Am_M} (hj : j < 12) (hpe : 0 ≤ pe ∧ pe ≤ 6) (hma : 0 ≤ ma ∧ ma ≤ 5) (hpn : p ≤ n) (hW : tW M1 n) (ht : M1.1 0 15 = t) (h8 : M1.1 0 14 8 = p) (h5 : M1.1 0 14 5 = pe) (h6 : M1.1 0 14 6 = ma) : am_Ev Γ (d + 7) n_Text_readLine [.inr (.inr (0, 14)), .inl (j : Int)] M1 (lnK j pe ma M1 (tline t n pe ma p)) := by
  have hsb := tkS_b t hpn
  have heb := tkE_b t hsb.2
  have hwb := twd_b t (tkS t n p) (tkE t n (tkS t n p))
  have eL : tline t n pe ma p = if twd t (tkS t n p) (tkE t n (tkS t n p)) = -1 ∨ (twd t (tkS t n p) (tkE t n (tkS t n p)) ≤ 3 ∧ pe = 6) ∨ (twd t (tkS t n p) (tkE t n (tkS t n p)) = 4 ∧ ma = 5) then .inl (tkS t n p) else (match tnums t n (twd t (tkS t n p) (tkE t n (tkS t n p))) pe ma (tmany (twd t (tkS t n p) (tkE t n (tkS t n p)))) 0 (tkE t n (tkS t n p)) with
    | .inl f => .inl f
    | .inr q => .inr (q.1, twd t (tkS t n p) (tkE t n (tkS t n p)), q.2)) := rfl
  refine am_ev_of (by decide) (am_le rfl) (am_go 60 [9] (by decide) ?_)
  refine am_by (c_step (d := d) hW h8 hpn) (by omega) ?_
  rintro r M2 ⟨rfl, hX2, e7, e8⟩
  rw [ht] at e7 e8
  obtain ⟨hW2, ht2⟩ := hW.fr hX2 (by unfold sS; omega) (fun k => by unfold sS; omega)
  rw [ht] at ht2
  refine am_by (c_wordAtHand (d := d) hW2 e7 e8 heb.1 heb.2.1) (by omega) ?_
  rintro r M3 ⟨rfl, rfl⟩
  rw [ht2]
  generalize twd t (tkS t n p) (tkE t n (tkS t n p)) = w at *
  have hX2' : tX (lnS j) M1 M3 := hX2.wk (fun p k h => Or.inl ⟨h.1, by have := h.2; omega, by have := h.2; omega⟩)
  have g5 : M3.1 0 14 5 = pe := (hX2 0 14 5 (by unfold sS; omega)).trans h5
  have g6 : M3.1 0 14 6 = ma := (hX2 0 14 6 (by unfold sS; omega)).trans h6
  have bad : (w = -1 ∨ (w ≤ 3 ∧ pe = 6) ∨ (w = 4 ∧ ma = 5)) → lnK j pe ma M1 (tline t n pe ma p) (some (.inl 0)) M3 := fun q => by
    rw [eL, if_pos q]
    refine ⟨hX2', fun f hf => ?_, fun q hq => by cases hq⟩
    cases hf
    exact ⟨rfl, e7⟩
  have st43 : ¬ (w = -1 ∨ (w ≤ 3 ∧ pe = 6) ∨ (w = 4 ∧ ma = 5)) → am_At Γ (d + 7) n_Text_readLine 43 [some (.inr (.inr (0, 14))), some (.inl (j : Int)), some (.inl w), none, none, none] [] M3 (lnK j pe ma M1 (tline t n pe ma p)) := by
    intro q
    refine am_go 60 [58] (by decide) ?_
    refine And.intro ⟨by omega, by omega⟩ ?_
    refine am_by (c_numbersOf (d := d) (w := w) (by omega)) (by omega) ?_
    rintro r M4 ⟨rfl, rfl⟩
    have ex : ((j : Int)).toNat = j := rfl
    have hX4 : tX (fun p k => p = 16 ∧ k = j) M3 (am_set M3 0 16 j w) := tX.rf.set ⟨rfl, rfl⟩
    obtain ⟨hW4, ht4⟩ := hW2.fr hX4 (by omega) (fun k => by omega)
    have go := c_nums (Γ := Γ) (d := d) (n := n) (j := j) (w := w) (pe := pe) (ma := ma) (t := t) hj (by omega) hpe hma (tmany w) 0 (tkE t n (tkS t n p)) none (am_set M3 0 16 j w) (by omega) heb.2.1 hW4 (ht4.trans ht2) ((hX4 0 14 8 (by omega)).trans e8) ((hX4 0 14 5 (by omega)).trans g5) ((hX4 0 14 6 (by omega)).trans g6)
    refine am_at_mono go (fun r M' hK => ?_)
    obtain ⟨k1, k2, k3⟩ := hK
    refine ⟨(hX2'.tr (hX4.wk (fun p k h => Or.inr (Or.inl h)))).tr (k1.wk (fun p k h => ?_)), fun f hf => ?_, fun q' hq => ?_⟩
    · unfold nmS at h
      unfold lnS
      omega
    · rw [eL, if_neg q] at hf
      cases ho : tnums t n w pe ma (tmany w) 0 (tkE t n (tkS t n p)) with
      | inl f' =>
        rw [ho] at hf
        have e : f' = f := Sum.inl.inj hf
        rw [← e]
        exact k2 f' ho
      | inr q' => rw [ho] at hf; cases hf
    · rw [eL, if_neg q] at hq
      cases ho : tnums t n w pe ma (tmany w) 0 (tkE t n (tkS t n p)) with
      | inl f' => rw [ho] at hq; cases hq
      | inr q1 =>
        rw [ho] at hq
        cases hq
        obtain ⟨l1, l2, l3, l4, l5⟩ := k3 q1 ho
        refine ⟨l1, l2, l3, l4, ?_, fun i v hv => ?_⟩
        · rw [k1 0 16 j (by unfold nmS; omega)]
          exact set_eq
        · have := l5 i v hv
          rw [Nat.zero_add] at this
          exact this
  have st28 : ¬ (w = -1 ∨ (w ≤ 3 ∧ pe = 6)) → am_At Γ (d + 7) n_Text_readLine 28 [some (.inr (.inr (0, 14))), some (.inl (j : Int)), some (.inl w), none, none, none] [] M3 (lnK j pe ma M1 (tline t n pe ma p)) := by
    intro q
    refine am_go 60 [43] (by decide) ?_
    refine And.intro ⟨⟨by omega, by omega⟩, ⟨(by first | omega | (dsimp only [am_own]; omega)), (by first | omega | (dsimp only [am_own]; omega))⟩⟩ (And.intro (fun h => ?_) (fun h => st43 (by omega)))
    have h : w = 4 := h
    refine And.intro ⟨(show am_R (M3.1 0 14 6) from ⟨by omega, by omega⟩), ⟨(by first | omega | (dsimp only [am_own]; omega)), (by first | omega | (dsimp only [am_own]; omega))⟩⟩ (And.intro (fun h2 => ?_) (fun h2 => ?_))
    · have h2 : M3.1 0 14 6 = 5 := h2
      exact ⟨Or.inl rfl, bad (by omega)⟩
    · have h2 : ¬ M3.1 0 14 6 = 5 := h2
      exact st43 (by omega)
  refine am_go 60 [28, 43] (by decide) ?_
  refine And.intro ⟨⟨by omega, by omega⟩, ⟨(by first | omega | (dsimp only [am_own]; omega)), (by first | omega | (dsimp only [am_own]; omega))⟩⟩ (And.intro (fun h => ⟨Or.inl rfl, bad (Or.inl h)⟩) (fun h => ?_))
  have h : ¬ w = -1 := h
  refine And.intro ⟨⟨by omega, by omega⟩, ⟨(by first | omega | (dsimp only [am_own]; omega)), (by first | omega | (dsimp only [am_own]; omega))⟩⟩ (And.intro (fun h2 => ?_) (fun h2 => ?_))
  · have h2 : 3 < w := h2
    exact st28 (by omega)
  have h2 : ¬ 3 < w := h2
  refine And.intro ⟨(show am_R (M3.1 0 14 5) from ⟨by omega, by omega⟩), ⟨(by first | omega | (dsimp only [am_own]; omega)), (by first | omega | (dsimp only [am_own]; omega))⟩⟩ (And.intro (fun h3 => ?_) (fun h3 => ?_))
  · have h3 : M3.1 0 14 5 = 6 := h3
    exact ⟨Or.inl rfl, bad (by omega)⟩
  · have h3 : ¬ M3.1 0 14 5 = 6 := h3
    exact st28 (by omega)
def rdS (j p k : Nat) : Prop := (p = 14 ∧ 4 ≤ k ∧ k ≤ 8) ∨ (p = 16 ∧ j ≤ k ∧ k < 12) ∨ (p = 17 ∧ j * 3 ≤ k ∧ k < 36)
def rdK (j : Nat) (M1 : Am_M) (o : Int × List (Int × List Int)) (r : Option Am_V) (M' : Am_M) : Prop := r = some (.inl o.1) ∧ tX (rdS j) M1 M' ∧ (o.1 = -1 → M'.1 0 14 4 = ((j + o.2.length : Nat) : Int)) ∧ ∀ x w l, o.2[x]? = some (w, l) → M'.1 0 16 (j + x) = w ∧ ∀ i v, l[i]? = some v → i < 3 → M'.1 0 17 ((j + x) * 3 + i) = v
theorem c_readLoop {Γ : Am_G} {d n : Nat} {t : Nat → Int} {z1 z2 : Int} : ∀ (k j p : Nat) (pe ma : Int) (M1 : Am_M), j + (k + 1) = 12 → (0 ≤ pe ∧ pe ≤ 6) → (0 ≤ ma ∧ ma ≤ 5) → p ≤ n → tW M1 n → M1.1 0 15 = t → M1.1 0 14 8 = p → M1.1 0 14 5 = pe → M1.1 0 14 6 = ma → am_At Γ (d + 8) n_Text_read 17 [some (.inr (.inr (0, 14))), some (.inl z1), some (.inl z2), some (.inl (j : Int))] [] M1 (rdK j M1 (tread t n (k + 1) pe ma p)) := by
  have body : ∀ (k j p : Nat) (pe ma : Int) (M1 : Am_M), (k ≠ 0 → ∀ (p : Nat) (pe ma : Int) (M1 : Am_M), (0 ≤ pe ∧ pe ≤ 6) → (0 ≤ ma ∧ ma ≤ 5) → p ≤ n → tW M1 n → M1.1 0 15 = t → M1.1 0 14 8 = p → M1.1 0 14 5 = pe → M1.1 0 14 6 = ma → am_At Γ (d + 8) n_Text_read 17 [some (.inr (.inr (0, 14))), some (.inl z1), some (.inl z2), some (.inl ((j + 1 : Nat) : Int))] [] M1 (rdK (j + 1) M1 (tread t n k pe ma p))) → j + (k + 1) = 12 → (0 ≤ pe ∧ pe ≤ 6) → (0 ≤ ma ∧ ma ≤ 5) → p ≤ n → tW M1 n → M1.1 0 15 = t → M1.1 0 14 8 = p → M1.1 0 14 5 = pe → M1.1 0 14 6 = ma → am_At Γ (d + 8) n_Text_read 17 [some (.inr (.inr (0, 14))), some (.inl z1), some (.inl z2), some (.inl (j : Int))] [] M1 (rdK j M1 (tread t n (k + 1) pe ma p)) := by
    intro k j p pe ma M1 next hjk hpe hma hpn hW ht h8 h5 h6
    have eR : tread t n (k + 1) pe ma p = match tline t n pe ma p with
      | .inl f => ((f : Int), [])
      | .inr q => if tkS t n q.1 = n then (-1, [(q.2.1, q.2.2)]) else if t (tkS t n q.1) = 59 ∧ k ≠ 0 then ((tread t n k (tcP q.2.1 pe) (tcM q.2.1 ma) (tkS t n q.1 + 1)).1, (q.2.1, q.2.2) :: (tread t n k (tcP q.2.1 pe) (tcM q.2.1 ma) (tkS t n q.1 + 1)).2) else ((tkS t n q.1 : Int), [(q.2.1, q.2.2)]) := rfl
    have hLb := tline_b t (pe := pe) (ma := ma) hpn
    refine am_go 60 [17, 47] (by decide) ?_
    refine And.intro ⟨⟨by omega, by omega⟩, ⟨(by first | omega | (dsimp only [am_own]; omega)), (by first | omega | (dsimp only [am_own]; omega))⟩⟩ (And.intro (fun h => ?_) (fun h => ?_))
    rotate_left
    · exfalso; omega
    refine am_by (c_readLine (d := d) (j := j) (by omega) hpe hma hpn hW ht h8 h5 h6) (by omega) ?_
    rintro r M2 ⟨k1, k2, k3⟩
    obtain ⟨hW2, ht2⟩ := hW.fr k1 (by unfold lnS; omega) (fun k => by unfold lnS; omega)
    rw [ht] at ht2
    have k1' : tX (rdS j) M1 M2 := k1.wk (fun p k h => by unfold lnS at h; unfold rdS; omega)
    cases ho : tline t n pe ma p with
    | inl f =>
      obtain ⟨rfl, e7⟩ := k2 f ho
      refine And.intro ⟨(by first | omega | (dsimp only [am_own]; omega)), (by first | omega | (dsimp only [am_own]; omega))⟩ (And.intro (fun _ => ?_) (fun h => absurd rfl h))
      rw [ho] at eR
      rw [eR]
      refine ⟨?_, k1', fun z => ?_, fun x w l hx => by simp at hx⟩
      · exact congrArg (fun z => some (Sum.inl z)) e7
      · exfalso
        have z : (f : Int) = -1 := z
        omega
    | inr q =>
      obtain ⟨rfl, e8, e5, e6, e16, e17⟩ := k3 q ho
      obtain ⟨b1, b2, b3, b4, b5⟩ := hLb.2 q ho
      have hcb := tc_b hpe hma b3
      rw [ho] at eR
      dsimp only at eR
      refine And.intro ⟨(by first | omega | (dsimp only [am_own]; omega)), (by first | omega | (dsimp only [am_own]; omega))⟩ (And.intro (fun h => absurd h (by decide)) (fun _ => ?_))
      have hX3 : tX (fun p k => p = 14 ∧ k = 4) M2 (am_set M2 0 14 4 ((j : Int) + 1)) := tX.rf.set ⟨rfl, rfl⟩
      obtain ⟨hW3, ht3⟩ := hW2.fr hX3 (by omega) (fun k => by omega)
      have g : ∀ k, k ≠ 4 → (am_set M2 0 14 4 ((j : Int) + 1)).1 0 14 k = M2.1 0 14 k := fun k hk => set_k hk
      have e4 : (am_set M2 0 14 4 ((j : Int) + 1)).1 0 14 4 = (j : Int) + 1 := set_eq
      refine am_by (c_step (d := d) (M := am_set M2 0 14 4 ((j : Int) + 1)) (n := n) (p := q.1) hW3 ((g 8 (by decide)).trans e8) b1) (by omega) ?_
      rintro r M4 ⟨rfl, hX4, f7, f8⟩
      have ht3' : (am_set M2 0 14 4 ((j : Int) + 1)).1 0 15 = t := ht3.trans ht2
      rw [ht3'] at f7 f8
      obtain ⟨hW4, ht4⟩ := hW3.fr hX4 (by unfold sS; omega) (fun k => by unfold sS; omega)
      rw [ht3'] at ht4
      have hsb := tkS_b t b1
      generalize hsE : tkS t n q.1 = s at *
      have hX14 : tX (rdS j) M1 M4 := (k1'.tr (hX3.wk (fun p k h => Or.inl ⟨h.1, by omega, by omega⟩))).tr (hX4.wk (fun p k h => Or.inl ⟨h.1, by have := h.2; omega, by have := h.2; omega⟩))
      have f4 : M4.1 0 14 4 = (j : Int) + 1 := (hX4 0 14 4 (by unfold sS; omega)).trans e4
      have f16 : M4.1 0 16 j = q.2.1 := ((hX4 0 16 j (by unfold sS; omega)).trans (hX3 0 16 j (by omega))).trans e16
      have f17 : ∀ i v, q.2.2[i]? = some v → M4.1 0 17 (j * 3 + i) = v := fun i v hv => ((hX4 0 17 _ (by unfold sS; omega)).trans (hX3 0 17 _ (by omega))).trans (e17 i v hv)
      have one : ∀ v : Int, (v = -1 ∨ v = s) → rdK j M1 (v, [(q.2.1, q.2.2)]) (some (.inl v)) M4 := fun v hv => by
        refine ⟨rfl, hX14, fun _ => ?_, fun x w l hx => ?_⟩
        · rw [f4]; rfl
        · cases x with
          | zero =>
            simp at hx
            obtain ⟨rfl, rfl⟩ := hx
            exact ⟨f16, fun i v hv _ => f17 i v hv⟩
          | succ x => simp at hx
      have st : am_At Γ (d + 8) n_Text_read 47 [some (.inr (.inr (0, 14))), some (.inl z1), some (.inl z2), some (.inl (j : Int))] [] M4 (rdK j M1 (tread t n (k + 1) pe ma p)) := by
        rw [eR]
        refine am_go 60 [17, 79] (by decide) ?_
        have w1 := hW4.1
        have w2 := hW4.2.1
        refine And.intro ⟨(show am_R (M4.1 0 14 7) from ⟨by omega, by omega⟩), (show am_R (M4.1 0 14 1) from ⟨by omega, by omega⟩)⟩ (And.intro (fun h2 => ?_) (fun h2 => ?_))
        · have h2 : M4.1 0 14 7 = M4.1 0 14 1 := h2
          rw [if_pos (by omega)]
          exact one (-1) (Or.inl rfl)
        have h2 : ¬ M4.1 0 14 7 = M4.1 0 14 1 := h2
        rw [if_neg (by omega)]
        refine And.intro (show 0 ≤ M4.1 0 14 7 ∧ M4.1 0 14 7 < 200 from ⟨by omega, by omega⟩) ?_
        have eb : M4.1 0 15 (M4.1 0 14 7).toNat = t s := by rw [f7, ht4]; rfl
        have hb := hW4.2.2 s (by omega)
        rw [ht4] at hb
        refine And.intro ⟨am_Re eb ⟨by omega, by omega⟩, ⟨(by first | omega | (dsimp only [am_own]; omega)), (by first | omega | (dsimp only [am_own]; omega))⟩⟩ (And.intro (fun h3 => ?_) (fun h3 => ?_))
        rotate_left
        · have h3 : ¬ M4.1 0 15 (M4.1 0 14 7).toNat = 59 := h3
          rw [if_neg (by omega)]
          obtain ⟨-, o2, o3, o4⟩ := one s (Or.inr rfl)
          exact ⟨congrArg (fun z => some (Sum.inl z)) f7, o2, o3, o4⟩
        have h3 : M4.1 0 15 (M4.1 0 14 7).toNat = 59 := h3
        by_cases hk : k = 0
        · rw [if_neg (fun z => z.2 hk)]
          refine am_go 60 [] (by decide) ?_
          refine And.intro ⟨⟨by omega, by omega⟩, ⟨(by first | omega | (dsimp only [am_own]; omega)), (by first | omega | (dsimp only [am_own]; omega))⟩⟩ (And.intro (fun h4 => ?_) (fun h4 => ?_))
          · exfalso
            have h4 : (j : Int) + 1 < 12 := h4
            omega
          · obtain ⟨-, o2, o3, o4⟩ := one s (Or.inr rfl)
            exact ⟨congrArg (fun z => some (Sum.inl z)) f7, o2, o3, o4⟩
        · rw [if_pos ⟨by omega, hk⟩]
          have hE : tkE t n s = s + 1 := by
            unfold tkE
            rw [if_neg (by omega), if_pos]
            unfold tsort
            rw [if_neg (by omega), if_neg (by omega)]
          have go := next hk (s + 1) (tcP q.2.1 pe) (tcM q.2.1 ma) M4 hcb.1 hcb.2 (by omega) hW4 ht4 (by rw [f8, hE]) (((hX4 0 14 5 (by unfold sS; omega)).trans (hX3 0 14 5 (by omega))).trans e5) (((hX4 0 14 6 (by unfold sS; omega)).trans (hX3 0 14 6 (by omega))).trans e6)
          refine am_go 60 [17] (by decide) ?_
          show am_At Γ (d + 8) n_Text_read 17 [some (.inr (.inr (0, 14))), some (.inl z1), some (.inl z2), some (.inl ((j + 1 : Nat) : Int))] [] M4 _
          refine am_at_mono go (fun r M' hK => ?_)
          obtain ⟨x1, x2, x3, x4⟩ := hK
          refine ⟨x1, hX14.tr (x2.wk (fun p k h => by unfold rdS at h ⊢; omega)), fun z => ?_, fun x w l hx => ?_⟩
          · rw [x3 z, List.length_cons]
            push_cast
            omega
          · cases x with
            | zero =>
              simp at hx
              obtain ⟨rfl, rfl⟩ := hx
              rw [Nat.add_zero, x2 0 16 j (by unfold rdS; omega)]
              exact ⟨f16, fun i v hv hi => by rw [x2 0 17 _ (by unfold rdS; omega)]; exact f17 i v hv⟩
            | succ x =>
              have := x4 x w l (by simpa using hx)
              rw [show j + (x + 1) = j + 1 + x by omega]
              exact this
      exact st
  intro k
  induction k with
  | zero => exact fun j p pe ma M1 hjk => body 0 j p pe ma M1 (fun h => absurd rfl h) hjk
  | succ k ih => exact fun j p pe ma M1 hjk => body (k + 1) j p pe ma M1 (fun _ p pe ma M1 => ih (j + 1) p pe ma M1 (by omega)) hjk
theorem c_read {Γ : Am_G} {d n : Nat} {pe ma : Int} {M : Am_M} (hpe : 0 ≤ pe ∧ pe ≤ 6) (hma : 0 ≤ ma ∧ ma ≤ 5) (hW : tW M n) : am_Ev Γ (d + 8) n_Text_read [.inr (.inr (0, 14)), .inl pe, .inl ma] M (rdK 0 M (tread (M.1 0 15) n 12 pe ma 0)) := by
  refine am_ev_of (by decide) (am_le rfl) (am_go 60 [17] (by decide) ?_)
  have hX : tX (fun p k => p = 14 ∧ (k = 5 ∨ k = 6 ∨ k = 8)) M (am_set (am_set (am_set M 0 14 5 pe) 0 14 6 ma) 0 14 8 0) := ((tX.rf.set ⟨rfl, Or.inl rfl⟩).set ⟨rfl, Or.inr (Or.inl rfl)⟩).set ⟨rfl, Or.inr (Or.inr rfl)⟩
  obtain ⟨hW2, ht2⟩ := hW.fr hX (by omega) (fun k => by omega)
  have go := c_readLoop (Γ := Γ) (d := d) (n := n) (t := M.1 0 15) (z1 := pe) (z2 := ma) 11 0 0 pe ma (am_set (am_set (am_set M 0 14 5 pe) 0 14 6 ma) 0 14 8 0) (by omega) hpe hma (Nat.zero_le n) hW2 ht2 set_eq (by rw [set_k (by decide), set_k (by decide)]; exact set_eq) (by rw [set_k (by decide)]; exact set_eq)
  refine am_at_mono go (fun r M' hK => ?_)
  obtain ⟨x1, x2, x3, x4⟩ := hK
  exact ⟨x1, (hX.wk (fun p k h => Or.inl ⟨h.1, by omega, by omega⟩)).tr x2, x3, x4⟩
