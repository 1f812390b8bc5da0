/-! halls: what lines do, as a function; the class does them -/
def tgood : Int → Int → List (Int × List Int) → Prop
  | _, _, [] => True
  | pe, ma, x :: r => ((0 ≤ x.1 ∧ x.1 ≤ 9) ∧ ¬ tbad x.1 pe ma ∧ x.2.length = tmany x.1 ∧ ∀ j v, x.2[j]? = some v → tleast x.1 (j : Nat) ≤ v ∧ v ≤ tmost x.1 (j : Nat) pe ma) ∧ tgood (tcP x.1 pe) (tcM x.1 ma) r
theorem tread_good (t : Nat → Int) {n : Nat} : ∀ k pe ma p, p ≤ n → tgood pe ma (tread t n k pe ma p).2 ∧ (tread t n k pe ma p).2.length ≤ k
  | 0, _, _, _, _ => ⟨trivial, Nat.le_refl 0⟩
  | k + 1, pe, ma, p, hp => by
    have hb := tline_b t (pe := pe) (ma := ma) hp
    unfold tread
    cases ho : tline t n pe ma p with
    | inl f => exact ⟨trivial, Nat.zero_le _⟩
    | inr q =>
      obtain ⟨b1, b2, b3, b4, b5⟩ := hb.2 q ho
      have h1 := tkS_b t b1
      dsimp only
      have one : tgood pe ma [(q.2.1, q.2.2)] := ⟨⟨b2, b3, b4, b5⟩, trivial⟩
      by_cases q1 : tkS t n q.1 = n
      · rw [if_pos q1]
        exact ⟨one, by simp⟩
      · rw [if_neg q1]
        by_cases q2 : t (tkS t n q.1) = 59 ∧ k ≠ 0
        · rw [if_pos q2]
          obtain ⟨i1, i2⟩ := tread_good t (n := n) k (tcP q.2.1 pe) (tcM q.2.1 ma) (tkS t n q.1 + 1) (by omega)
          exact ⟨⟨⟨b2, b3, b4, b5⟩, i1⟩, by rw [List.length_cons]; omega⟩
        · rw [if_neg q2]
          exact ⟨one, by simp⟩
def lnF (w a b c n mt : Int) : Prop := (0 ≤ w ∧ w ≤ 9) ∧ (w ≤ 3 → n < 6 ∧ (0 ≤ a ∧ a ≤ 30) ∧ (0 ≤ b ∧ b ≤ 9)) ∧ (w = 4 → mt < 5 ∧ (1 ≤ a ∧ a ≤ 9)) ∧ (w = 5 ∨ w = 6 → (0 ≤ a ∧ a < n) ∧ (0 ≤ b ∧ b < mt) ∧ (0 ≤ c ∧ c ≤ 9)) ∧ (w = 7 → (0 ≤ a ∧ a < n) ∧ (1 ≤ b ∧ b ≤ 9)) ∧ (w = 8 → (1 ≤ a ∧ a ≤ 9))
theorem lnF_of {w a b c n mt : Int} {l : List Int} (hn : n ≤ 6) (hm : mt ≤ 5) (h : (0 ≤ w ∧ w ≤ 9) ∧ ¬ tbad w n mt ∧ l.length = tmany w ∧ ∀ j v, l[j]? = some v → tleast w (j : Nat) ≤ v ∧ v ≤ tmost w (j : Nat) n mt) (ha : ∀ v, l[0]? = some v → a = v) (hb : ∀ v, l[1]? = some v → b = v) (hc : ∀ v, l[2]? = some v → c = v) : lnF w a b c n mt := by
  obtain ⟨h1, h2, h3, h4⟩ := h
  have g0 : 0 < tmany w → tleast w ((0 : Nat) : Int) ≤ a ∧ a ≤ tmost w ((0 : Nat) : Int) n mt := fun z => by
    have e := List.getElem?_eq_getElem (l := l) (i := 0) (by omega)
    have := h4 0 _ e
    rw [← ha _ e] at this
    exact this
  have g1 : 1 < tmany w → tleast w ((1 : Nat) : Int) ≤ b ∧ b ≤ tmost w ((1 : Nat) : Int) n mt := fun z => by
    have e := List.getElem?_eq_getElem (l := l) (i := 1) (by omega)
    have := h4 1 _ e
    rw [← hb _ e] at this
    exact this
  have g2 : 2 < tmany w → tleast w ((2 : Nat) : Int) ≤ c ∧ c ≤ tmost w ((2 : Nat) : Int) n mt := fun z => by
    have e := List.getElem?_eq_getElem (l := l) (i := 2) (by omega)
    have := h4 2 _ e
    rw [← hc _ e] at this
    exact this
  unfold tbad at h2
  refine ⟨h1, fun q => ?_, fun q => ?_, fun q => ?_, fun q => ?_, fun q => ?_⟩
  · have em : tmany w = 2 := by unfold tmany; rw [if_neg (by omega), if_neg (by omega), if_neg (by omega)]
    have el : ∀ i, tleast w i = 0 := fun i => by unfold tleast; rw [if_neg (by omega), if_neg (by omega)]
    have e0 : tmost w ((0 : Nat) : Int) n mt = 30 := by unfold tmost; rw [if_neg (by omega), if_neg (by omega), if_neg (by omega), if_pos (by decide)]
    have e1 : tmost w ((1 : Nat) : Int) n mt = 9 := by unfold tmost; rw [if_neg (by omega), if_neg (by omega), if_neg (by omega), if_neg (by decide)]
    have k0 := g0 (by omega)
    have k1 := g1 (by omega)
    rw [el, e0] at k0
    rw [el, e1] at k1
    omega
  · subst q
    have k0 : (1 : Int) ≤ a ∧ a ≤ 9 := g0 (by decide)
    omega
  · rcases q with rfl | rfl
    · have k0 : (0 : Int) ≤ a ∧ a ≤ n - 1 := g0 (by decide)
      have k1 : (0 : Int) ≤ b ∧ b ≤ mt - 1 := g1 (by decide)
      have k2 : (0 : Int) ≤ c ∧ c ≤ 9 := g2 (by decide)
      omega
    · have k0 : (0 : Int) ≤ a ∧ a ≤ n - 1 := g0 (by decide)
      have k1 : (0 : Int) ≤ b ∧ b ≤ mt - 1 := g1 (by decide)
      have k2 : (0 : Int) ≤ c ∧ c ≤ 9 := g2 (by decide)
      omega
  · subst q
    have k0 : (0 : Int) ≤ a ∧ a ≤ n - 1 := g0 (by decide)
    have k1 : (1 : Int) ≤ b ∧ b ≤ 9 := g1 (by decide)
    omega
  · subst q
    have k0 : (1 : Int) ≤ a ∧ a ≤ 9 := g0 (by decide)
    omega
abbrev Hs : Type := (Nat × Nat × Int) × (Nat → Nat → Int)
def hU (P : Nat → Nat → Int) (c k : Nat) (v : Int) : Nat → Nat → Int := fun c' k' => if c' = c ∧ k' = k then v else P c' k'
theorem hU_eq {P : Nat → Nat → Int} {c k : Nat} {v : Int} : hU P c k v c k = v := by unfold hU; rw [if_pos ⟨rfl, rfl⟩]
theorem hU_ne {P : Nat → Nat → Int} {c k c' k' : Nat} {v : Int} (h : ¬ (c' = c ∧ k' = k)) : hU P c k v c' k' = P c' k' := by unfold hU; rw [if_neg h]
def hSt (w a b c : Int) (s : Hs) : Hs :=
  if w = 9 then ((0, 0, 2), fun c' k' => if c' = 5 then 0 else s.2 c' k')
  else if w = 4 then ((s.1.1, s.1.2.1 + 1, s.1.2.2), hU s.2 4 s.1.2.1 a)
  else if w = 5 then (s.1, hU s.2 5 (a * 5 + b).toNat c)
  else if w = 6 then (s.1, hU s.2 5 (a * 5 + b).toNat (-c))
  else if w = 7 then (s.1, hU s.2 3 a.toNat b)
  else if w = 8 then ((s.1.1, s.1.2.1, a), s.2)
  else ((s.1.1 + 1, s.1.2.1, s.1.2.2), hU (hU (hU (hU s.2 0 s.1.1 w) 1 s.1.1 a) 2 s.1.1 b) 3 s.1.1 1)
def hI (s : Hs) : Prop := (s.1.1 ≤ 6 ∧ s.1.2.1 ≤ 5 ∧ 1 ≤ s.1.2.2 ∧ s.1.2.2 ≤ 9) ∧ (∀ i, i < s.1.1 → (0 ≤ s.2 0 i ∧ s.2 0 i ≤ 3) ∧ (0 ≤ s.2 1 i ∧ s.2 1 i ≤ 30) ∧ (0 ≤ s.2 2 i ∧ s.2 2 i ≤ 9) ∧ (1 ≤ s.2 3 i ∧ s.2 3 i ≤ 9)) ∧ (∀ m, m < s.1.2.1 → 1 ≤ s.2 4 m ∧ s.2 4 m ≤ 9) ∧ (∀ i m, i < 6 → m < 5 → s.1.1 ≤ i ∨ s.1.2.1 ≤ m → s.2 5 (i * 5 + m) = 0) ∧ (∀ k, k < 30 → -9 ≤ s.2 5 k ∧ s.2 5 k ≤ 9)
theorem hSt_I {w a b c : Int} {s : Hs} (h : hI s) (hF : lnF w a b c s.1.1 s.1.2.1) : hI (hSt w a b c s) ∧ ((hSt w a b c s).1.1 : Int) = tcP w s.1.1 ∧ ((hSt w a b c s).1.2.1 : Int) = tcM w s.1.2.1 := by
  obtain ⟨f0, f1, f2, f3, f4, f5⟩ := hF
  obtain ⟨h1, h2, h3, h4, h5⟩ := h
  obtain ⟨⟨n, mt, ho⟩, P⟩ := s
  dsimp only at *
  unfold hSt
  by_cases q9 : w = 9
  · rw [if_pos q9]
    refine ⟨⟨⟨(show (0 : Nat) ≤ 6 by omega), (show (0 : Nat) ≤ 5 by omega), (show (1 : Int) ≤ 2 by omega), (show (2 : Int) ≤ 9 by omega)⟩, fun i hi => absurd hi (Nat.not_lt_zero i), fun i hi => absurd hi (Nat.not_lt_zero i), fun i m _ _ _ => rfl, fun k _ => ?_⟩, by unfold tcP; rw [if_pos q9]; rfl, by unfold tcM; rw [if_pos q9]; rfl⟩
    show -9 ≤ (if (5 : Nat) = 5 then (0 : Int) else P 5 k) ∧ (if (5 : Nat) = 5 then (0 : Int) else P 5 k) ≤ 9
    rw [if_pos rfl]
    omega
  rw [if_neg q9]
  by_cases q4 : w = 4
  · rw [if_pos q4]
    have g := f2 q4
    refine ⟨⟨⟨h1.1, by show mt + 1 ≤ 5; omega, h1.2.2.1, h1.2.2.2⟩, fun i hi => ?_, fun m hm => ?_, fun i m hi hm hh => ?_, fun k hk => ?_⟩, by unfold tcP; rw [if_neg q9, if_pos q4], by unfold tcM; rw [if_neg q9, if_pos q4]; show ((mt + 1 : Nat) : Int) = _; omega⟩
    · have e : ∀ c', c' ≠ 4 → hU P 4 mt a c' i = P c' i := fun c' hc => hU_ne (fun z => hc z.1)
      show (0 ≤ hU P 4 mt a 0 i ∧ hU P 4 mt a 0 i ≤ 3) ∧ (0 ≤ hU P 4 mt a 1 i ∧ hU P 4 mt a 1 i ≤ 30) ∧ (0 ≤ hU P 4 mt a 2 i ∧ hU P 4 mt a 2 i ≤ 9) ∧ (1 ≤ hU P 4 mt a 3 i ∧ hU P 4 mt a 3 i ≤ 9)
      rw [e 0 (by decide), e 1 (by decide), e 2 (by decide), e 3 (by decide)]
      exact h2 i hi
    · show 1 ≤ hU P 4 mt a 4 m ∧ hU P 4 mt a 4 m ≤ 9
      have hm : m < mt + 1 := hm
      by_cases z : m = mt
      · rw [z, hU_eq]; exact g.2
      · rw [hU_ne (fun y => z y.2)]; exact h3 m (by omega)
    · show hU P 4 mt a 5 (i * 5 + m) = 0
      have hh : n ≤ i ∨ mt + 1 ≤ m := hh
      rw [hU_ne (fun y => absurd y.1 (by decide))]
      exact h4 i m hi hm (by omega)
    · show -9 ≤ hU P 4 mt a 5 k ∧ hU P 4 mt a 5 k ≤ 9
      rw [hU_ne (fun y => absurd y.1 (by decide))]
      exact h5 k hk
  rw [if_neg q4]
  have worth : ∀ v : Int, (0 ≤ a ∧ a < n) → (0 ≤ b ∧ b < mt) → (-9 ≤ v ∧ v ≤ 9) → hI ((n, mt, ho), hU P 5 (a * 5 + b).toNat v) := fun v ha hb hv => by
    refine ⟨h1, fun i hi => ?_, fun m hm => ?_, fun i m hi hm hh => ?_, fun k hk => ?_⟩
    · have e : ∀ c', c' ≠ 5 → hU P 5 (a * 5 + b).toNat v c' i = P c' i := fun c' hc => hU_ne (fun z => hc z.1)
      show (0 ≤ hU P 5 (a * 5 + b).toNat v 0 i ∧ hU P 5 (a * 5 + b).toNat v 0 i ≤ 3) ∧ (0 ≤ hU P 5 (a * 5 + b).toNat v 1 i ∧ hU P 5 (a * 5 + b).toNat v 1 i ≤ 30) ∧ (0 ≤ hU P 5 (a * 5 + b).toNat v 2 i ∧ hU P 5 (a * 5 + b).toNat v 2 i ≤ 9) ∧ (1 ≤ hU P 5 (a * 5 + b).toNat v 3 i ∧ hU P 5 (a * 5 + b).toNat v 3 i ≤ 9)
      rw [e 0 (by decide), e 1 (by decide), e 2 (by decide), e 3 (by decide)]
      exact h2 i hi
    · show 1 ≤ hU P 5 (a * 5 + b).toNat v 4 m ∧ hU P 5 (a * 5 + b).toNat v 4 m ≤ 9
      rw [hU_ne (fun y => absurd y.1 (by decide))]
      exact h3 m hm
    · show hU P 5 (a * 5 + b).toNat v 5 (i * 5 + m) = 0
      have hh : n ≤ i ∨ mt ≤ m := hh
      rw [hU_ne (fun y => by omega)]
      exact h4 i m hi hm hh
    · show -9 ≤ hU P 5 (a * 5 + b).toNat v 5 k ∧ hU P 5 (a * 5 + b).toNat v 5 k ≤ 9
      by_cases z : k = (a * 5 + b).toNat
      · rw [z, hU_eq]; exact hv
      · rw [hU_ne (fun y => z y.2)]; exact h5 k hk
  by_cases q5 : w = 5
  · rw [if_pos q5]
    have g := f3 (Or.inl q5)
    exact ⟨worth c g.1 g.2.1 (by omega), by unfold tcP; rw [if_neg q9, if_neg q4, if_neg (by omega)], by unfold tcM; rw [if_neg q9, if_neg q4]⟩
  rw [if_neg q5]
  by_cases q6 : w = 6
  · rw [if_pos q6]
    have g := f3 (Or.inr q6)
    exact ⟨worth (-c) g.1 g.2.1 (by omega), by unfold tcP; rw [if_neg q9, if_neg q4, if_neg (by omega)], by unfold tcM; rw [if_neg q9, if_neg q4]⟩
  rw [if_neg q6]
  by_cases q7 : w = 7
  · rw [if_pos q7]
    have g := f4 q7
    refine ⟨⟨h1, fun i hi => ?_, fun m hm => ?_, fun i m hi hm hh => ?_, fun k hk => ?_⟩, by unfold tcP; rw [if_neg q9, if_neg q4, if_neg (by omega)], by unfold tcM; rw [if_neg q9, if_neg q4]⟩
    · have hi : i < n := hi
      have e : ∀ c', c' ≠ 3 → hU P 3 a.toNat b c' i = P c' i := fun c' hc => hU_ne (fun z => hc z.1)
      have h := h2 i hi
      show (0 ≤ hU P 3 a.toNat b 0 i ∧ hU P 3 a.toNat b 0 i ≤ 3) ∧ (0 ≤ hU P 3 a.toNat b 1 i ∧ hU P 3 a.toNat b 1 i ≤ 30) ∧ (0 ≤ hU P 3 a.toNat b 2 i ∧ hU P 3 a.toNat b 2 i ≤ 9) ∧ (1 ≤ hU P 3 a.toNat b 3 i ∧ hU P 3 a.toNat b 3 i ≤ 9)
      rw [e 0 (by decide), e 1 (by decide), e 2 (by decide)]
      refine ⟨h.1, h.2.1, h.2.2.1, ?_⟩
      by_cases z : i = a.toNat
      · rw [z, hU_eq]; exact g.2
      · rw [hU_ne (fun y => z y.2)]; exact h.2.2.2
    · show 1 ≤ hU P 3 a.toNat b 4 m ∧ hU P 3 a.toNat b 4 m ≤ 9
      rw [hU_ne (fun y => absurd y.1 (by decide))]
      exact h3 m hm
    · show hU P 3 a.toNat b 5 (i * 5 + m) = 0
      rw [hU_ne (fun y => absurd y.1 (by decide))]
      exact h4 i m hi hm hh
    · show -9 ≤ hU P 3 a.toNat b 5 k ∧ hU P 3 a.toNat b 5 k ≤ 9
      rw [hU_ne (fun y => absurd y.1 (by decide))]
      exact h5 k hk
  rw [if_neg q7]
  by_cases q8 : w = 8
  · rw [if_pos q8]
    have g := f5 q8
    exact ⟨⟨⟨h1.1, h1.2.1, g.1, g.2⟩, h2, h3, h4, h5⟩, by unfold tcP; rw [if_neg q9, if_neg q4, if_neg (by omega)], by unfold tcM; rw [if_neg q9, if_neg q4]⟩
  rw [if_neg q8]
  have g := f1 (by omega)
  have e45 : ∀ c' k', 4 ≤ c' → hU (hU (hU (hU P 0 n w) 1 n a) 2 n b) 3 n 1 c' k' = P c' k' := fun c' k' hc => by
    rw [hU_ne (by omega), hU_ne (by omega), hU_ne (by omega), hU_ne (by omega)]
  refine ⟨⟨⟨by show n + 1 ≤ 6; omega, h1.2.1, h1.2.2.1, h1.2.2.2⟩, fun i hi => ?_, fun m hm => ?_, fun i m hi hm hh => ?_, fun k hk => ?_⟩, by unfold tcP; rw [if_neg q9, if_neg q4, if_pos (by omega)]; show ((n + 1 : Nat) : Int) = _; omega, by unfold tcM; rw [if_neg q9, if_neg q4]⟩
  · have hi : i < n + 1 := hi
    show (0 ≤ hU (hU (hU (hU P 0 n w) 1 n a) 2 n b) 3 n 1 0 i ∧ hU (hU (hU (hU P 0 n w) 1 n a) 2 n b) 3 n 1 0 i ≤ 3) ∧ (0 ≤ hU (hU (hU (hU P 0 n w) 1 n a) 2 n b) 3 n 1 1 i ∧ hU (hU (hU (hU P 0 n w) 1 n a) 2 n b) 3 n 1 1 i ≤ 30) ∧ (0 ≤ hU (hU (hU (hU P 0 n w) 1 n a) 2 n b) 3 n 1 2 i ∧ hU (hU (hU (hU P 0 n w) 1 n a) 2 n b) 3 n 1 2 i ≤ 9) ∧ (1 ≤ hU (hU (hU (hU P 0 n w) 1 n a) 2 n b) 3 n 1 3 i ∧ hU (hU (hU (hU P 0 n w) 1 n a) 2 n b) 3 n 1 3 i ≤ 9)
    by_cases z : i = n
    · subst z
      rw [hU_eq, hU_ne (by omega), hU_ne (by omega), hU_ne (by omega), hU_eq, hU_ne (by omega), hU_ne (by omega), hU_eq, hU_ne (by omega), hU_eq]
      omega
    · have e : ∀ c', hU (hU (hU (hU P 0 n w) 1 n a) 2 n b) 3 n 1 c' i = P c' i := fun c' => by
        rw [hU_ne (by omega), hU_ne (by omega), hU_ne (by omega), hU_ne (by omega)]
      rw [e, e, e, e]
      exact h2 i (by omega)
  · show 1 ≤ hU (hU (hU (hU P 0 n w) 1 n a) 2 n b) 3 n 1 4 m ∧ hU (hU (hU (hU P 0 n w) 1 n a) 2 n b) 3 n 1 4 m ≤ 9
    rw [e45 4 m (by omega)]
    exact h3 m hm
  · show hU (hU (hU (hU P 0 n w) 1 n a) 2 n b) 3 n 1 5 (i * 5 + m) = 0
    have hh : n + 1 ≤ i ∨ mt ≤ m := hh
    rw [e45 5 _ (by omega)]
    exact h4 i m hi hm (by omega)
  · show -9 ≤ hU (hU (hU (hU P 0 n w) 1 n a) 2 n b) 3 n 1 5 k ∧ hU (hU (hU (hU P 0 n w) 1 n a) 2 n b) 3 n 1 5 k ≤ 9
    rw [e45 5 k (by omega)]
    exact h5 k hk
