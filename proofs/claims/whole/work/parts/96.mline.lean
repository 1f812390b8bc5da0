/-! texts: the reference reads -/
theorem c_M_fails {Γ : Am_G} {d : Nat} {M : Am_M} : am_Ev Γ (d + 1) n_M_fails [.inr (.inr (0, 41))] M (fun r M' => r = some (.inl 0) ∧ M' = am_set M 0 41 13 (M.1 0 41 9)) := by
  refine am_ev_of (by decide) (am_le rfl) (am_go 20 [] (by decide) ?_)
  exact ⟨Or.inl rfl, rfl, rfl⟩
def isS (w p k : Nat) : Prop := (p = 41 ∧ 8 ≤ k ∧ k ≤ 13) ∨ (p = 46 ∧ k = w)
def inK (t : Nat → Int) (n p w : Nat) (lo hi : Int) (M : Am_M) (r : Option Am_V) (M' : Am_M) : Prop := tX (isS w) M M' ∧ ((lo ≤ tnum t n (tkS t n p) ∧ tnum t n (tkS t n p) ≤ hi) → r = some (.inl 1) ∧ M'.1 0 41 8 = (tkE t n (tkS t n p) : Nat) ∧ M'.1 0 46 w = tnum t n (tkS t n p)) ∧ (¬ (lo ≤ tnum t n (tkS t n p) ∧ tnum t n (tkS t n p) ≤ hi) → r = some (.inl 0) ∧ M'.1 0 41 13 = (tkS t n p : Nat))
theorem c_M_isNumber {Γ : Am_G} {d n p w : Nat} {lo hi : Int} {M : Am_M} {t : Nat → Int} (hW : mW M n) (ht : M.1 0 45 = t) (hp : M.1 0 41 8 = p) (hpn : p ≤ n) (hw : w < 48) (hlo : 0 ≤ lo ∧ lo ≤ 9) (hhi : -1 ≤ hi ∧ hi ≤ 30) : am_Ev Γ (d + 3) n_M_isNumber [.inr (.inr (0, 41)), .inl (w : Int), .inl lo, .inl hi] M (inK t n p w lo hi M) := by
  have hsb := tkS_b t hpn
  have htb := ttok_b t hsb.2
  have htk := ttok_kind t hsb.2
  have hnb := tnum_b t hsb.2
  have hno : ttok t n (tkS t n p) ≠ -1 → tnum t n (tkS t n p) = -1 := fun z => by
    unfold tnum
    rw [if_neg (fun y => z (htk.2.2.mpr y))]
  unfold inK
  refine am_ev_of (by decide) (am_le rfl) (am_go 60 [27] (by decide) ?_)
  refine am_by (c_M_nextToken (d := d) hW ht hp hpn) (by omega) ?_
  rintro r M2 ⟨rfl, hX2, e9, e8, ev, en⟩
  generalize tkS t n p = s at *
  generalize tkE t n s = e at *
  generalize ttok t n s = tok at *
  generalize tnum t n s = num at *
  have hX2' : tX (isS w) M M2 := hX2.wk (fun p k h => Or.inl ⟨h.1, h.2.1, by have := h.2.2; omega⟩)
  have bad : ¬ (lo ≤ num ∧ num ≤ hi) → am_At Γ (d + 3) n_M_isNumber 27 [some (.inr (.inr (0, 41))), some (.inl (w : Int)), some (.inl lo), some (.inl hi)] [] M2 (fun r M' => tX (isS w) M M' ∧ ((lo ≤ num ∧ num ≤ hi) → r = some (.inl 1) ∧ M'.1 0 41 8 = (e : Nat) ∧ M'.1 0 46 w = num) ∧ (¬ (lo ≤ num ∧ num ≤ hi) → r = some (.inl 0) ∧ M'.1 0 41 13 = (s : Nat))) := by
    intro q
    refine am_go 60 [] (by decide) ?_
    refine am_by (c_M_fails (d := d)) (by omega) ?_
    rintro r M3 ⟨rfl, rfl⟩
    exact ⟨Or.inl rfl, hX2'.set (Or.inl ⟨rfl, by omega, by omega⟩), fun z => absurd z q, fun _ => ⟨rfl, by rw [set_eq]; exact e9⟩⟩
  refine And.intro (lc_b _ _) (And.intro (fun h => ?_) (fun h => ?_))
  rotate_left
  · have h : ¬ M2.2 = Int64.ofInt (-1) := fun z => h ((lc_0 _ _).mpr z)
    rw [ev, of64 htb (by omega)] at h
    have := hno h
    exact bad (by omega)
  have h : M2.2 = Int64.ofInt (-1) := (lc_0 _ _).mp h
  rw [ev, of64 htb (by omega)] at h
  have en := en h
  refine am_by (c_M_in (d := d + 1) (M2.1 0 41 12) lo hi ⟨by omega, by omega⟩ ⟨by omega, by omega⟩ ⟨by omega, by omega⟩) (by omega) ?_
  rintro r M3 ⟨rfl, rfl⟩
  rw [en]
  by_cases q : lo ≤ num ∧ num ≤ hi
  · rw [if_pos q]
    refine And.intro ⟨(by first | omega | (dsimp only [am_own]; omega)), (by first | omega | (dsimp only [am_own]; omega))⟩ (And.intro (fun h => absurd h (by decide)) (fun _ => ?_))
    refine And.intro ⟨by omega, by omega⟩ ?_
    have ex : ((w : Int)).toNat = w := rfl
    refine ⟨Or.inr rfl, hX2'.set (Or.inr ⟨rfl, rfl⟩), fun _ => ⟨rfl, ?_, ?_⟩, fun z => absurd q z⟩
    · exact (set_p (by decide)).trans e8
    · refine Eq.trans ?_ en
      exact set_eq
  · rw [if_neg q]
    refine And.intro ⟨(by first | omega | (dsimp only [am_own]; omega)), (by first | omega | (dsimp only [am_own]; omega))⟩ (And.intro (fun _ => ?_) (fun h => absurd rfl h))
    exact bad q
-- numbers, one behind another
def nuS (b i p k : Nat) : Prop := (p = 41 ∧ 8 ≤ k ∧ k ≤ 13) ∨ (p = 46 ∧ b + 1 + i ≤ k ∧ k < b + 4)
def nuK (b i : Nat) (M1 : Am_M) (o : Nat ⊕ (Nat × List Int)) (r : Option Am_V) (M' : Am_M) : Prop := tX (nuS b i) M1 M' ∧ (∀ f, o = .inl f → r = some (.inl 0) ∧ M'.1 0 41 13 = (f : Nat)) ∧ (∀ q, o = .inr q → r = some (.inl 1) ∧ M'.1 0 41 8 = (q.1 : Nat) ∧ ∀ i' v, q.2[i']? = some v → M'.1 0 46 (b + 1 + (i + i')) = v)
theorem nu_end {t : Nat → Int} {n b i p : Nat} {w pe ma : Int} {M1 : Am_M} (h8 : M1.1 0 41 8 = p) : nuK b i M1 (tnums t n w pe ma 0 i p) (some (.inl 1)) M1 := by
  unfold tnums
  refine ⟨tX.rf, fun f hf => (by cases hf), fun q hq => ?_⟩
  cases hq
  exact ⟨rfl, h8, fun i' v hv => by simp at hv⟩
theorem nu_bad {t : Nat → Int} {n b i k p : Nat} {w pe ma lo hi : Int} {M1 M2 : Am_M} {r : Option Am_V} (hi3 : i < 3) (h : inK t n p (b + 1 + i) lo hi M1 r M2) (hlo : lo = tleast w i) (hhi : hi = tmost w i pe ma) (hc : ¬ (lo ≤ tnum t n (tkS t n p) ∧ tnum t n (tkS t n p) ≤ hi)) : r = some (.inl 0) ∧ nuK b i M1 (tnums t n w pe ma (k + 1) i p) (some (.inl 0)) M2 := by
  obtain ⟨h1, h2, h3⟩ := h
  obtain ⟨e1, e2⟩ := h3 hc
  refine ⟨e1, h1.wk (fun p k h => ?_), fun f hf => ?_, fun q hq => ?_⟩
  · unfold isS at h
    unfold nuS
    omega
  · unfold tnums at hf
    rw [← hlo, ← hhi, if_neg hc] at hf
    cases hf
    exact ⟨rfl, e2⟩
  · unfold tnums at hq
    rw [← hlo, ← hhi, if_neg hc] at hq
    cases hq
theorem nu_good {t : Nat → Int} {n b i k p : Nat} {w pe ma lo hi : Int} {M1 M2 : Am_M} {r : Option Am_V} (hi3 : i < 3) (h : inK t n p (b + 1 + i) lo hi M1 r M2) (hlo : lo = tleast w i) (hhi : hi = tmost w i pe ma) (hc : lo ≤ tnum t n (tkS t n p) ∧ tnum t n (tkS t n p) ≤ hi) : r = some (.inl 1) ∧ M2.1 0 41 8 = (tkE t n (tkS t n p) : Nat) ∧ (∀ e p' k', ¬ (e = 0 ∧ nuS b i p' k') → M2.1 e p' k' = M1.1 e p' k') ∧ ∀ r' M', nuK b (i + 1) M2 (tnums t n w pe ma k (i + 1) (tkE t n (tkS t n p))) r' M' → nuK b i M1 (tnums t n w pe ma (k + 1) i p) r' M' := by
  obtain ⟨h1, h2, h3⟩ := h
  obtain ⟨e1, e2, e3⟩ := h2 hc
  have h1' : tX (nuS b i) M1 M2 := h1.wk (fun p k h => by unfold isS at h; unfold nuS; omega)
  refine ⟨e1, e2, h1', fun r' M' hN => ?_⟩
  obtain ⟨g1, g2, g3⟩ := hN
  have eN : tnums t n w pe ma (k + 1) i p = (match tnums t n w pe ma k (i + 1) (tkE t n (tkS t n p)) with
      | .inl f => .inl f
      | .inr q => .inr (q.1, tnum t n (tkS t n p) :: q.2)) := by
    rw [tnums, ← hlo, ← hhi, if_pos hc]
    rfl
  rw [eN]
  refine ⟨h1'.tr (g1.wk (fun p k h => by unfold nuS at h ⊢; omega)), fun f hf => ?_, fun q hq => ?_⟩
  · cases ho : tnums t n w pe ma k (i + 1) (tkE t n (tkS t n p)) with
    | inl f' =>
      rw [ho] at hf
      have e : f' = f := Sum.inl.inj hf
      rw [← e]
      exact g2 f' ho
    | inr q' => rw [ho] at hf; cases hf
  · cases ho : tnums t n w pe ma k (i + 1) (tkE t n (tkS t n p)) with
    | inl f' => rw [ho] at hq; cases hq
    | inr q' =>
      rw [ho] at hq
      cases hq
      obtain ⟨l1, l2, l3⟩ := g3 q' ho
      refine ⟨l1, l2, fun i' u hu => ?_⟩
      cases i' with
      | zero =>
        simp at hu
        subst hu
        show M'.1 0 46 (b + 1 + i) = _
        rw [g1 0 46 (b + 1 + i) (by unfold nuS; omega)]
        exact e3
      | succ i' =>
        have := l3 i' u (by simpa using hu)
        rw [show i + (i' + 1) = i + 1 + i' by omega]
        exact this
/-- a call of isNumber, and what comes behind it -/
theorem am_num {Γ : Am_G} {d n b i k p : Nat} {w pe ma lo hi : Int} {M1 : Am_M} {t : Nat → Int} {kk : Option Am_V → Am_M → Prop} {x : Int} (hx : x = ((b + 1 + i : Nat) : Int)) (hi3 : i < 3) (hb : b + 4 ≤ 48) (hW : mW M1 n) (ht : M1.1 0 45 = t) (h8 : M1.1 0 41 8 = p) (hpn : p ≤ n) (hlo : lo = tleast w i) (hhi : hi = tmost w i pe ma) (hlo2 : 0 ≤ lo ∧ lo ≤ 9) (hhi2 : -1 ≤ hi ∧ hi ≤ 30)
    (h0 : ∀ M2, nuK b i M1 (tnums t n w pe ma (k + 1) i p) (some (.inl 0)) M2 → kk (some (.inl 0)) M2)
    (h1 : ∀ M2, mW M2 n → M2.1 0 45 = t → M2.1 0 41 8 = (tkE t n (tkS t n p) : Nat) → tkE t n (tkS t n p) ≤ n → tX (nuS b i) M1 M2 → (∀ r' M', nuK b (i + 1) M2 (tnums t n w pe ma k (i + 1) (tkE t n (tkS t n p))) r' M' → nuK b i M1 (tnums t n w pe ma (k + 1) i p) r' M') → kk (some (.inl 1)) M2) :
    am_callk Γ (d + 4) n_M_isNumber [.inr (.inr (0, 41)), .inl x, .inl lo, .inl hi] M1 kk := by
  subst hx
  refine am_by (c_M_isNumber (d := d) (w := b + 1 + i) hW ht h8 hpn (by omega) hlo2 hhi2) (by omega) ?_
  intro r M2 hI
  by_cases hc : lo ≤ tnum t n (tkS t n p) ∧ tnum t n (tkS t n p) ≤ hi
  · obtain ⟨rfl, g1, g2, g3⟩ := nu_good (k := k) hi3 hI hlo hhi hc
    have hX : tX (nuS b i) M1 M2 := g2
    obtain ⟨hW2, ht2⟩ := hW.fr hX (by unfold nuS; omega) (fun k => by unfold nuS; omega)
    have heb := tkE_b t (tkS_b t hpn).2
    exact h1 M2 hW2 (ht2.trans ht) g1 heb.2.1 hX g3
  · obtain ⟨rfl, g1⟩ := nu_bad (k := k) hi3 hI hlo hhi hc
    exact h0 M2 g1
def oneM (M : Am_M) : Am_M := am_set M 0 41 15 (M.1 0 41 15 + 1)
def matM (M : Am_M) : Am_M := am_set M 0 41 16 (M.1 0 41 16 + 1)
theorem c_M_isOne {Γ : Am_G} {d n b p : Nat} {w pe ma : Int} {M : Am_M} {t : Nat → Int} (hb : b + 4 ≤ 48) (hW : mW M n) (ht : M.1 0 45 = t) (h8 : M.1 0 41 8 = p) (hpn : p ≤ n) (h15 : M.1 0 41 15 = pe) (hpe : 0 ≤ pe ∧ pe ≤ 6) (hw : 0 ≤ w ∧ w ≤ 3) : am_Ev Γ (d + 4) n_M_isOne [.inr (.inr (0, 41)), .inl (b : Int)] M (fun r M' => (pe = 6 → r = some (.inl 0) ∧ M' = am_set M 0 41 13 (M.1 0 41 9)) ∧ (¬ pe = 6 → nuK b 0 (oneM M) (tnums t n w pe ma 2 0 p) r M')) := by
  refine am_ev_of (by decide) (am_le rfl) (am_go 60 [] (by decide) ?_)
  refine And.intro ⟨(show am_R (M.1 0 41 15) from ⟨by omega, by omega⟩), ⟨(by first | omega | (dsimp only [am_own]; omega)), (by first | omega | (dsimp only [am_own]; omega))⟩⟩ (And.intro (fun h => ?_) (fun h => ?_))
  · have h : M.1 0 41 15 = 6 := h
    refine am_by (c_M_fails (d := d)) (by omega) ?_
    rintro r M3 ⟨rfl, rfl⟩
    exact ⟨Or.inl rfl, fun _ => ⟨rfl, rfl⟩, fun z => absurd (h15.symm.trans h) z⟩
  have h : ¬ M.1 0 41 15 = 6 := h
  have hX : tX (fun p k => p = 41 ∧ k = 15) M (oneM M) := tX.rf.set ⟨rfl, rfl⟩
  obtain ⟨hW2, ht2⟩ := hW.fr hX (by omega) (fun k => by omega)
  have l0 : (0 : Int) = tleast w ((0 : Nat) : Int) := by unfold tleast; rw [if_neg (by omega), if_neg (by omega)]
  have l1 : (0 : Int) = tleast w ((1 : Nat) : Int) := by unfold tleast; rw [if_neg (by omega), if_neg (by omega)]
  have m0 : (30 : Int) = tmost w ((0 : Nat) : Int) pe ma := by unfold tmost; rw [if_neg (by omega), if_neg (by omega), if_neg (by omega), if_pos (by decide)]
  have m1 : (9 : Int) = tmost w ((1 : Nat) : Int) pe ma := by unfold tmost; rw [if_neg (by omega), if_neg (by omega), if_neg (by omega), if_neg (by decide)]
  refine am_num (d := d) (M1 := oneM M) (t := t) (n := n) (b := b) (i := 0) (k := 1) (p := p) (w := w) (pe := pe) (ma := ma) (by omega) (by omega) hb hW2 (ht2.trans ht) ((hX 0 41 8 (by omega)).trans h8) hpn l0 m0 (by omega) (by omega) (fun M3 hN => ?_) (fun M3 hW3 ht3 h83 hp3 hX3 hN => ?_)
  · refine And.intro ⟨(by first | omega | (dsimp only [am_own]; omega)), (by first | omega | (dsimp only [am_own]; omega))⟩ (And.intro (fun _ => ?_) (fun h => absurd rfl h))
    exact ⟨Or.inl rfl, fun z => absurd (h15.trans z) h, fun _ => hN⟩
  refine And.intro ⟨(by first | omega | (dsimp only [am_own]; omega)), (by first | omega | (dsimp only [am_own]; omega))⟩ (And.intro (fun h => absurd h (by decide)) (fun _ => ?_))
  refine am_num (d := d) (M1 := M3) (t := t) (n := n) (b := b) (i := 1) (k := 0) (w := w) (pe := pe) (ma := ma) (by omega) (by omega) hb hW3 ht3 h83 hp3 l1 m1 (by omega) (by omega) (fun M4 hN4 => ?_) (fun M4 hW4 ht4 h84 hp4 hX4 hN4 => ?_)
  · refine And.intro ⟨(by first | omega | (dsimp only [am_own]; omega)), (by first | omega | (dsimp only [am_own]; omega))⟩ (And.intro (fun _ => ?_) (fun h => absurd rfl h))
    exact ⟨Or.inl rfl, fun z => absurd (h15.trans z) h, fun _ => hN _ _ hN4⟩
  refine And.intro ⟨(by first | omega | (dsimp only [am_own]; omega)), (by first | omega | (dsimp only [am_own]; omega))⟩ (And.intro (fun h => absurd h (by decide)) (fun _ => ?_))
  exact ⟨Or.inr rfl, fun z => absurd (h15.trans z) h, fun _ => hN _ _ (hN4 _ _ (nu_end h84))⟩
theorem c_M_isMatterLine {Γ : Am_G} {d n b p : Nat} {pe ma : Int} {M : Am_M} {t : Nat → Int} (hb : b + 4 ≤ 48) (hW : mW M n) (ht : M.1 0 45 = t) (h8 : M.1 0 41 8 = p) (hpn : p ≤ n) (h16 : M.1 0 41 16 = ma) (hma : 0 ≤ ma ∧ ma ≤ 5) : am_Ev Γ (d + 4) n_M_isMatterLine [.inr (.inr (0, 41)), .inl (b : Int)] M (fun r M' => (ma = 5 → r = some (.inl 0) ∧ M' = am_set M 0 41 13 (M.1 0 41 9)) ∧ (¬ ma = 5 → nuK b 0 (matM M) (tnums t n 4 pe ma 1 0 p) r M')) := by
  refine am_ev_of (by decide) (am_le rfl) (am_go 60 [] (by decide) ?_)
  refine And.intro ⟨(show am_R (M.1 0 41 16) from ⟨by omega, by omega⟩), ⟨(by first | omega | (dsimp only [am_own]; omega)), (by first | omega | (dsimp only [am_own]; omega))⟩⟩ (And.intro (fun h => ?_) (fun h => ?_))
  · have h : M.1 0 41 16 = 5 := h
    refine am_by (c_M_fails (d := d)) (by omega) ?_
    rintro r M3 ⟨rfl, rfl⟩
    exact ⟨Or.inl rfl, fun _ => ⟨rfl, rfl⟩, fun z => absurd (h16.symm.trans h) z⟩
  have h : ¬ M.1 0 41 16 = 5 := h
  have hX : tX (fun p k => p = 41 ∧ k = 16) M (matM M) := tX.rf.set ⟨rfl, rfl⟩
  obtain ⟨hW2, ht2⟩ := hW.fr hX (by omega) (fun k => by omega)
  refine am_num (d := d) (M1 := matM M) (t := t) (n := n) (b := b) (i := 0) (k := 0) (p := p) (w := 4) (pe := pe) (ma := ma) (by omega) (by omega) hb hW2 (ht2.trans ht) ((hX 0 41 8 (by omega)).trans h8) hpn rfl rfl (by omega) (by omega) (fun M3 hN => ?_) (fun M3 hW3 ht3 h83 hp3 hX3 hN => ?_)
  · exact ⟨Or.inl rfl, fun z => absurd (h16.trans z) h, fun _ => hN⟩
  · exact ⟨Or.inr rfl, fun z => absurd (h16.trans z) h, fun _ => hN _ _ (nu_end h83)⟩
-- words
def acode (x : Int) : Int := if x = 8740238 then 0 else if x = 12257495 then 1 else if x = 10502561 then 2 else if x = 404923 then 3 else if x = 158529 then 4 else -1
def bcode (x : Int) : Int := if x = 187475625 then 5 else if x = 4797 then 6 else if x = 488582165 then 7 else if x = 51442444 then 8 else if x = 168727 then 9 else -1
def rcW (w : Int) : Int := if w ≤ 3 then w else if w = 9 then 4 else w + 1
theorem code_of (t : Nat → Int) {n s : Nat} (hs : s ≤ n) : (if acode (ttok t n s) = -1 then bcode (ttok t n s) else acode (ttok t n s)) = rcW (twd t s (tkE t n s)) := by
  rcases twd_cases t s (tkE t n s) with ⟨j, hj, hw, hi⟩ | ⟨hw, hi⟩
  · have e := (ttok_word t hs hj).mpr hi
    rw [e, hw]
    have all : ∀ j, j < 10 → (if acode (wvL j) = -1 then bcode (wvL j) else acode (wvL j)) = rcW (j : Nat) := by decide +kernel
    exact all j hj
  · have no : ∀ j, j < 10 → ttok t n s ≠ wvL j := fun j hj z => by
      have := (ttok_word t hs hj).mp z
      rw [hi j hj] at this
      cases this
    have n0 : ttok t n s ≠ 8740238 := no 0 (by omega)
    have n1 : ttok t n s ≠ 12257495 := no 1 (by omega)
    have n2 : ttok t n s ≠ 10502561 := no 2 (by omega)
    have n3 : ttok t n s ≠ 404923 := no 3 (by omega)
    have n4 : ttok t n s ≠ 187475625 := no 4 (by omega)
    have n5 : ttok t n s ≠ 4797 := no 5 (by omega)
    have n6 : ttok t n s ≠ 488582165 := no 6 (by omega)
    have n7 : ttok t n s ≠ 51442444 := no 7 (by omega)
    have n8 : ttok t n s ≠ 168727 := no 8 (by omega)
    have n9 : ttok t n s ≠ 158529 := no 9 (by omega)
    have ea : acode (ttok t n s) = -1 := by unfold acode; rw [if_neg n0, if_neg n1, if_neg n2, if_neg n3, if_neg n9]
    have eb : bcode (ttok t n s) = -1 := by unfold bcode; rw [if_neg n4, if_neg n5, if_neg n6, if_neg n7, if_neg n8]
    rw [ea, eb, hw]
    decide +kernel
theorem acode_b (x : Int) : -1 ≤ acode x ∧ acode x ≤ 4 := by
  unfold acode
  repeat' split
  all_goals omega
theorem bcode_b (x : Int) : -1 ≤ bcode x ∧ bcode x ≤ 9 := by
  unfold bcode
  repeat' split
  all_goals omega
