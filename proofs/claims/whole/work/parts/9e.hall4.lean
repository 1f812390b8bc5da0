/-! halls: hall -/
theorem tread_r (t : Nat → Int) {n : Nat} (hn : n ≤ 200) : ∀ k pe ma p, p ≤ n → -1 ≤ (tread t n k pe ma p).1 ∧ (tread t n k pe ma p).1 ≤ 200
  | 0, _, _, _, _ => by
    show -1 ≤ (0 : Int) ∧ (0 : Int) ≤ 200
    omega
  | k + 1, pe, ma, p, hp => by
    have hb := tline_b t (pe := pe) (ma := ma) hp
    unfold tread
    cases ho : tline t n pe ma p with
    | inl f =>
      have := hb.1 f ho
      show -1 ≤ (f : Int) ∧ (f : Int) ≤ 200
      omega
    | inr q =>
      have h1 := tkS_b t (hb.2 q ho).1
      dsimp only
      by_cases q1 : tkS t n q.1 = n
      · rw [if_pos q1]
        show -1 ≤ (-1 : Int) ∧ (-1 : Int) ≤ 200
        omega
      · rw [if_neg q1]
        by_cases q2 : t (tkS t n q.1) = 59 ∧ k ≠ 0
        · rw [if_pos q2]
          exact tread_r t hn k _ _ (tkS t n q.1 + 1) (by omega)
        · rw [if_neg q2]
          show -1 ≤ (tkS t n q.1 : Int) ∧ (tkS t n q.1 : Int) ≤ 200
          omega
def hLn (x : Int × List Int) (s : Hs) : Hs := hSt x.1 (x.2.getD 0 0) (x.2.getD 1 0) (x.2.getD 2 0) s
def hAll : List (Int × List Int) → Hs → Hs
  | [], s => s
  | x :: r, s => hAll r (hLn x s)
theorem hSt_eq {w a b c : Int} {s : Hs} {l : List Int} (hw : 0 ≤ w ∧ w ≤ 9) (hl : l.length = tmany w) (ha : ∀ v, l[0]? = some v → a = v) (hb : ∀ v, l[1]? = some v → b = v) (hc : ∀ v, l[2]? = some v → c = v) : hSt w a b c s = hLn (w, l) s := by
  have g : ∀ i, i < tmany w → l[i]? = some (l.getD i 0) := fun i hi => by
    have e := List.getElem?_eq_getElem (l := l) (i := i) (by omega)
    rw [List.getD_eq_getElem?_getD, e]
    rfl
  have ga : 0 < tmany w → a = l.getD 0 0 := fun z => ha _ (g 0 z)
  have gb : 1 < tmany w → b = l.getD 1 0 := fun z => hb _ (g 1 z)
  have gc : 2 < tmany w → c = l.getD 2 0 := fun z => hc _ (g 2 z)
  unfold hLn hSt
  dsimp only
  by_cases q9 : w = 9
  · rw [if_pos q9, if_pos q9]
  rw [if_neg q9, if_neg q9]
  by_cases q4 : w = 4
  · subst q4
    rw [if_pos rfl, if_pos rfl, ga (by decide)]
  rw [if_neg q4, if_neg q4]
  by_cases q5 : w = 5
  · subst q5
    rw [if_pos rfl, if_pos rfl, ga (by decide), gb (by decide), gc (by decide)]
  rw [if_neg q5, if_neg q5]
  by_cases q6 : w = 6
  · subst q6
    rw [if_pos rfl, if_pos rfl, ga (by decide), gb (by decide), gc (by decide)]
  rw [if_neg q6, if_neg q6]
  by_cases q7 : w = 7
  · subst q7
    rw [if_pos rfl, if_pos rfl, ga (by decide), gb (by decide)]
  rw [if_neg q7, if_neg q7]
  by_cases q8 : w = 8
  · subst q8
    rw [if_pos rfl, if_pos rfl, ga (by decide)]
  rw [if_neg q8, if_neg q8]
  have em : tmany w = 2 := by unfold tmany; rw [if_neg (by omega), if_neg (by omega), if_neg (by omega)]
  rw [ga (by omega), gb (by omega)]
theorem hAll_I : ∀ (r : List (Int × List Int)) (s : Hs), hI s → tgood s.1.1 s.1.2.1 r → hI (hAll r s)
  | [], _, h, _ => h
  | x :: r, s, h, hg => by
    obtain ⟨g1, g2⟩ := hg
    have g : ∀ i v, x.2[i]? = some v → x.2.getD i 0 = v := fun i v hv => by
      rw [List.getD_eq_getElem?_getD, hv]
      rfl
    have hF : lnF x.1 (x.2.getD 0 0) (x.2.getD 1 0) (x.2.getD 2 0) s.1.1 s.1.2.1 := lnF_of (by have := h.1; omega) (by have := h.1; omega) g1 (g 0) (g 1) (g 2)
    obtain ⟨i1, i2, i3⟩ := hSt_I h hF
    refine hAll_I r (hLn x s) i1 ?_
    unfold hLn
    rw [i2, i3]
    exact g2
theorem c_hallLoop {Γ : Am_G} {L : Nat} {M0 : Am_M} {sE : Hs} {K : Option Am_V → Am_M → Prop} (hL : L ≤ 12) (k64 : ∀ M' : Am_M, gX hS M0 M' → cH M' sE → am_At Γ 24 n_R_hall 64 [some (.inr (.inr (0, 11))), some (.inl (L : Int)), some (.inl (L : Int))] [] M' K) : ∀ (r : List (Int × List Int)) (j : Nat) (s : Hs) (M1 : Am_M), j + r.length = L → gX hS M0 M1 → cH M1 s → hI s → tgood s.1.1 s.1.2.1 r → hAll r s = sE → (∀ x w l, r[x]? = some (w, l) → M0.1 0 16 (j + x) = w ∧ ∀ i v, l[i]? = some v → i < 3 → M0.1 0 17 ((j + x) * 3 + i) = v) → am_At Γ 24 n_R_hall 41 [some (.inr (.inr (0, 11))), some (.inl (L : Int)), some (.inl (j : Int))] [] M1 K := by
  intro r
  induction r with
  | nil =>
    intro j s M1 hj hX hH hIs hg hE hrow
    have hj : j = L := hj
    subst hj
    have hE : s = sE := hE
    subst hE
    refine am_go 60 [41, 64] (by decide) ?_
    refine And.intro ⟨⟨by omega, by omega⟩, ⟨by omega, by omega⟩⟩ (And.intro (fun h => ?_) (fun h => k64 M1 hX hH))
    exfalso; omega
  | cons x r ih =>
    intro j s M1 hj hX hH hIs hg hE hrow
    rw [List.length_cons] at hj
    obtain ⟨g1, g2⟩ := hg
    refine am_go 60 [41, 64] (by decide) ?_
    refine And.intro ⟨⟨by omega, by omega⟩, ⟨by omega, by omega⟩⟩ (And.intro (fun h => ?_) (fun h => ?_))
    rotate_left
    · exfalso; omega
    obtain ⟨r1, r2⟩ := hrow 0 x.1 x.2 (by simp)
    have f17 : ∀ i v, x.2[i]? = some v → i < 3 → M1.1 0 17 (j * 3 + i) = v := fun i v hv hi => (hX 0 17 _ (by unfold hS; omega)).trans (r2 i v hv hi)
    have hF : lnF x.1 (M1.1 0 17 (j * 3 + 0)) (M1.1 0 17 (j * 3 + 1)) (M1.1 0 17 (j * 3 + 2)) s.1.1 s.1.2.1 := lnF_of (by have := hIs.1; omega) (by have := hIs.1; omega) g1 (fun v hv => f17 0 v hv (by omega)) (fun v hv => f17 1 v hv (by omega)) (fun v hv => f17 2 v hv (by omega))
    have hq := hSt_eq (s := s) g1.1 g1.2.2.1 (fun v hv => f17 0 v hv (by omega)) (fun v hv => f17 1 v hv (by omega)) (fun v hv => f17 2 v hv (by omega))
    refine am_by (c_apply (d := 10) (j := j) (s := s) (w := x.1) (by omega) hH hIs ((hX 0 16 j (by unfold hS; omega)).trans r1) hF) (by omega) ?_
    rintro rr M2 ⟨rfl, hX2, hH2⟩
    obtain ⟨i1, i2, i3⟩ := hSt_I hIs hF
    rw [hq] at hH2 i1 i2 i3
    refine ih (j + 1) (hLn x s) M2 (by omega) (hX.tr hX2) hH2 i1 (by rw [show (hLn x s).1.1 = (hLn (x.1, x.2) s).1.1 from rfl, i2, show (hLn x s).1.2.1 = (hLn (x.1, x.2) s).1.2.1 from rfl, i3]; exact g2) hE (fun y w l hy => ?_)
    have := hrow (y + 1) w l (by simpa using hy)
    rw [show j + 1 + y = j + (y + 1) by omega]
    exact this
theorem c_M_hallLoop {Γ : Am_G} {L : Nat} {M0 : Am_M} {sE : Hs} {K : Option Am_V → Am_M → Prop} (hL : L ≤ 12) (h14 : M0.1 0 41 14 = L) (k33 : ∀ M' : Am_M, gX mhS M0 M' → rH M' sE → am_At Γ 24 n_M_hall 33 [some (.inr (.inr (0, 41))), some (.inl (L : Int))] [] M' K) : ∀ (r : List (Int × List Int)) (j : Nat) (s : Hs) (M1 : Am_M), j + r.length = L → gX mhS M0 M1 → rH M1 s → hI s → tgood s.1.1 s.1.2.1 r → hAll r s = sE → (∀ x w l, r[x]? = some (w, l) → M0.1 0 46 ((j + x) * 4) = rcW w ∧ ∀ i v, l[i]? = some v → i < 3 → M0.1 0 46 ((j + x) * 4 + 1 + i) = v) → am_At Γ 24 n_M_hall 12 [some (.inr (.inr (0, 41))), some (.inl (j : Int))] [] M1 K := by
  intro r
  induction r with
  | nil =>
    intro j s M1 hj hX hH hIs hg hE hrow
    have hj : j = L := hj
    subst hj
    have hE : s = sE := hE
    subst hE
    have f14 : M1.1 0 41 14 = (j : Int) := (hX 0 41 14 (by unfold mhS; omega)).trans h14
    refine am_go 60 [12, 33] (by decide) ?_
    refine And.intro ⟨⟨by omega, by omega⟩, (show am_R (M1.1 0 41 14) from ⟨by omega, by omega⟩)⟩ (And.intro (fun h => ?_) (fun h => k33 M1 hX hH))
    exfalso
    have h : (j : Int) < M1.1 0 41 14 := h
    omega
  | cons x r ih =>
    intro j s M1 hj hX hH hIs hg hE hrow
    rw [List.length_cons] at hj
    obtain ⟨g1, g2⟩ := hg
    have f14 : M1.1 0 41 14 = (L : Int) := (hX 0 41 14 (by unfold mhS; omega)).trans h14
    refine am_go 60 [12, 33] (by decide) ?_
    refine And.intro ⟨⟨by omega, by omega⟩, (show am_R (M1.1 0 41 14) from ⟨by omega, by omega⟩)⟩ (And.intro (fun h => ?_) (fun h => ?_))
    rotate_left
    · exfalso
      have h : ¬ (j : Int) < M1.1 0 41 14 := h
      omega
    obtain ⟨r1, r2⟩ := hrow 0 x.1 x.2 (by simp)
    have f46 : ∀ i v, x.2[i]? = some v → i < 3 → M1.1 0 46 (j * 4 + 1 + i) = v := fun i v hv hi => (hX 0 46 _ (by unfold mhS; omega)).trans (r2 i v hv hi)
    have hF : lnF x.1 (M1.1 0 46 (j * 4 + 1 + 0)) (M1.1 0 46 (j * 4 + 1 + 1)) (M1.1 0 46 (j * 4 + 1 + 2)) s.1.1 s.1.2.1 := lnF_of (by have := hIs.1; omega) (by have := hIs.1; omega) g1 (fun v hv => f46 0 v hv (by omega)) (fun v hv => f46 1 v hv (by omega)) (fun v hv => f46 2 v hv (by omega))
    have hq := hSt_eq (s := s) g1.1 g1.2.2.1 (fun v hv => f46 0 v hv (by omega)) (fun v hv => f46 1 v hv (by omega)) (fun v hv => f46 2 v hv (by omega))
    refine am_by (c_M_doLine (d := 10) (j := j) (s := s) (w := x.1) (by omega) (by omega) hH hIs ((hX 0 46 (j * 4) (by unfold mhS; omega)).trans r1) hF) (by omega) ?_
    rintro rr M2 ⟨rfl, hX2, hH2⟩
    obtain ⟨i1, i2, i3⟩ := hSt_I hIs hF
    rw [hq] at hH2 i1 i2 i3
    refine ih (j + 1) (hLn x s) M2 (by omega) (hX.tr hX2) hH2 i1 (by rw [show (hLn x s).1.1 = (hLn (x.1, x.2) s).1.1 from rfl, i2, show (hLn x s).1.2.1 = (hLn (x.1, x.2) s).1.2.1 from rfl, i3]; exact g2) hE (fun y w l hy => ?_)
    have := hrow (y + 1) w l (by simpa using hy)
    rw [show j + 1 + y = j + (y + 1) by omega]
    exact this
def hRd (M : Am_M) (n mt : Nat) : Hs := ((n, mt, M.1 0 18 4), fun c k => match c with
  | 0 => M.1 9 2 k
  | 1 => M.1 9 3 k
  | 2 => M.1 9 4 k
  | 3 => M.1 9 5 k
  | 4 => M.1 0 19 k
  | _ => M.1 0 20 k)
theorem hRd_I {M : Am_M} {n mt : Nat} (h : hlR M n mt) : hI (hRd M n mt) := by
  obtain ⟨a1, a2, a3, a4, a5, a6, a7, a8⟩ := h
  exact ⟨⟨a1.2.2, a2.2.2, a3.2.1, a3.2.2⟩, fun i hi => (a4 i hi).2, fun m hm => (a5 m hm).2, a7, a8⟩
theorem hRd_c {M : Am_M} {n mt : Nat} (h : hlR M n mt) : cH M (hRd M n mt) := by
  obtain ⟨a1, a2, a3, a4, a5, a6, a7, a8⟩ := h
  exact ⟨⟨a1.1, a2.1, rfl⟩, fun i hi => ⟨rfl, rfl, rfl, rfl⟩, fun m hm => rfl, fun k hk => rfl⟩
theorem hRd_r {M : Am_M} {n mt : Nat} (h : hlR M n mt) : rH M (hRd M n mt) := by
  obtain ⟨a1, a2, a3, a4, a5, a6, a7, a8⟩ := h
  refine ⟨⟨a1.2.1, a2.2.1, a3.1.symm⟩, fun i hi => ?_, fun m hm => (a5 m hm).1.symm, fun i m hi hm => (a6 i m hi hm).symm⟩
  obtain ⟨⟨b1, b2, b3, b4⟩, -⟩ := a4 i hi
  exact ⟨b1.symm, b2.symm, b3.symm, b4.symm⟩
theorem hlR_of {M : Am_M} {s : Hs} (h1 : cH M s) (h2 : rH M s) (h3 : hI s) : hlR M s.1.1 s.1.2.1 := by
  obtain ⟨⟨a1, a2, a3⟩, a4, a5, a6⟩ := h1
  obtain ⟨⟨b1, b2, b3⟩, b4, b5, b6⟩ := h2
  obtain ⟨⟨i1, i2, i3, i4⟩, i5, i6, i7, i8⟩ := h3
  refine ⟨⟨a1, b1, i1⟩, ⟨a2, b2, i2⟩, ⟨a3.trans b3.symm, by omega, by omega⟩, fun i hi => ?_, fun m hm => ?_, fun i m hi hm => ?_, fun i m hi hm ho => ?_, fun k hk => ?_⟩
  · obtain ⟨c1, c2, c3, c4⟩ := a4 i hi
    obtain ⟨d1, d2, d3, d4⟩ := b4 i hi
    have g := i5 i hi
    refine ⟨⟨c1.trans d1.symm, c2.trans d2.symm, c3.trans d3.symm, c4.trans d4.symm⟩, ?_⟩
    rw [c1, c2, c3, c4]
    exact g
  · have g := i6 m hm
    rw [a5 m hm, b5 m hm]
    exact ⟨rfl, g⟩
  · rw [a6 _ (by omega), b6 i m hi hm]
  · rw [a6 _ (by omega)]
    exact i7 i m hi hm ho
  · rw [a6 k hk]
    exact i8 k hk
theorem cH.fr {M M' : Am_M} {s : Hs} (h : cH M s) (h9 : ∀ p k, M'.1 9 p k = M.1 9 p k) (h18 : ∀ k, k = 3 ∨ k = 4 → M'.1 0 18 k = M.1 0 18 k) (h19 : ∀ p k, p = 19 ∨ p = 20 → M'.1 0 p k = M.1 0 p k) : cH M' s := by
  obtain ⟨⟨a1, a2, a3⟩, a4, a5, a6⟩ := h
  refine ⟨⟨(h9 1 4).trans a1, (h18 3 (by omega)).trans a2, (h18 4 (by omega)).trans a3⟩, fun i hi => ?_, fun m hm => (h19 19 m (by omega)).trans (a5 m hm), fun k hk => (h19 20 k (by omega)).trans (a6 k hk)⟩
  rw [h9, h9, h9, h9]
  exact a4 i hi
theorem rH.fr {M M' : Am_M} {s : Hs} (h : rH M s) (h41 : ∀ k, k = 0 ∨ k = 2 ∨ k = 5 → M'.1 0 41 k = M.1 0 41 k) (h42 : ∀ p k, 42 ≤ p → p ≤ 44 → M'.1 0 p k = M.1 0 p k) : rH M' s := by
  obtain ⟨⟨a1, a2, a3⟩, a4, a5, a6⟩ := h
  refine ⟨⟨(h41 0 (by omega)).trans a1, (h41 2 (by omega)).trans a2, (h41 5 (by omega)).trans a3⟩, fun i hi => ?_, fun m hm => (h42 43 m (by omega) (by omega)).trans (a5 m hm), fun i m hi hm => (h42 44 _ (by omega) (by omega)).trans (a6 i m hi hm)⟩
  rw [h42 42 _ (by omega) (by omega), h42 42 _ (by omega) (by omega), h42 42 _ (by omega) (by omega), h42 42 _ (by omega) (by omega)]
  exact a4 i hi
/-- what the class's hall leaves -/
def chK (M0 : Am_M) (s : Hs) (M' : Am_M) : Prop := gX (fun _ p _ => p ≤ 20) M0 M' ∧ cH M' s ∧ ebG M' M' ∧ (∀ i, i < 6 → M'.1 0 7 i = M'.1 9 3 i) ∧ (∀ k : Nat, k < 5 → M'.1 0 6 k = k) ∧ (∀ k, k < 30 → M'.1 0 8 k = 0) ∧ M'.1 0 18 9 = 0 ∧ (∀ k, k < 2 → M'.1 0 13 k = 0) ∧ M'.1 0 14 1 = 0
/-- what the reference's hall leaves -/
def rhK (M0 : Am_M) (s : Hs) (M' : Am_M) : Prop := gX (fun e p k => e = 0 ∧ 41 ≤ p ∧ (p = 41 → k < 30)) M0 M' ∧ rH M' s ∧ (M'.1 0 47 0 = 0 ∧ (∀ k : Nat, k < 5 → M'.1 0 47 (1 + k) = k) ∧ (∀ i, i < 6 → M'.1 0 47 (6 + i) = M'.1 0 42 (i * 4 + 1)) ∧ ∀ k, 12 ≤ k → k < 92 → M'.1 0 47 k = 0) ∧ M'.1 0 41 22 = 0 ∧ (∀ k, k < 2 → M'.1 0 50 k = 0) ∧ M'.1 0 41 6 = 0
theorem c_hall64 {Γ : Am_G} {L : Nat} {M0 M1 : Am_M} {s : Hs} {K : Option Am_V → Am_M → Prop} (hX : gX hS M0 M1) (hH : cH M1 s) (hK : ∀ M', chK M0 s M' → K (some (.inl (L : Int))) M') : am_At Γ 24 n_R_hall 64 [some (.inr (.inr (0, 11))), some (.inl (L : Int)), some (.inl (L : Int))] [] M1 K := by
  refine am_go 60 [] (by decide) ?_
  refine am_by (c_clear (d := 10)) (by omega) ?_
  rintro r M2 ⟨rfl, rfl⟩
  refine am_by (c_beginEvening (d := 10)) (by omega) ?_
  rintro r M3 ⟨rfl, hX3, hB, h7, h6, h8, h9, h13⟩
  have f9 : ∀ p k, M3.1 9 p k = (am_set M1 0 14 1 0).1 9 p k := fun p k => hX3 9 p k (by omega)
  refine hK M3 ⟨?_, ?_, ?_, ?_, h6, h8, h9, h13, ?_⟩
  · exact ((hX.wk (fun e p k h => by unfold hS at h; omega)).set (by omega)).tr (hX3.wk (fun e p k h => by omega))
  · exact hH.fr (fun p k => (f9 p k).trans (set_e (by decide))) (fun k hk => (hX3 0 18 k (by omega)).trans (set_p (by decide))) (fun p k hp => (hX3 0 p k (by omega)).trans (set_p (by omega)))
  · obtain ⟨⟨b1, b2, b3⟩, b4⟩ := hB
    refine ⟨⟨b1.trans (hX3 0 18 3 (by omega)).symm, b2, b3.trans (f9 1 4).symm⟩, fun i hi => ?_⟩
    rw [f9, f9, f9, f9]
    exact b4 i hi
  · intro i hi
    rw [f9]
    exact h7 i hi
  · rw [hX3 0 14 1 (by omega)]
    exact set_eq
theorem c_M_hall33 {Γ : Am_G} {L : Nat} {M0 M1 : Am_M} {s : Hs} {K : Option Am_V → Am_M → Prop} (h14 : M0.1 0 41 14 = L) (hX : gX mhS M0 M1) (hH : rH M1 s) (hK : ∀ M', rhK M0 s M' → K (some (.inl (L : Int))) M') : am_At Γ 24 n_M_hall 33 [some (.inr (.inr (0, 41))), some (.inl (L : Int))] [] M1 K := by
  refine am_go 60 [] (by decide) ?_
  refine am_by (c_M_begin (d := 10)) (by omega) ?_
  rintro r M2 ⟨rfl, hX2, e0, e1, e6, ez⟩
  refine And.intro ⟨⟨(by first | omega | (dsimp only [am_own]; omega)), (by first | omega | (dsimp only [am_own]; omega))⟩, Or.inl rfl⟩ ?_
  refine And.intro ⟨⟨(by first | omega | (dsimp only [am_own]; omega)), (by first | omega | (dsimp only [am_own]; omega))⟩, Or.inl rfl⟩ ?_
  have eL : (am_set (am_set (am_set M2 0 41 22 0) 0 50 0 0) 0 50 1 0).1 0 41 14 = (L : Int) := by
    rw [set_p (by decide), set_p (by decide), set_k (by decide), hX2 0 41 14 (by omega), set_k (by decide), hX 0 41 14 (by unfold mhS; omega)]
    exact h14
  have res : K (some (.inl (L : Int))) (am_set (am_set (am_set M2 0 41 22 0) 0 50 0 0) 0 50 1 0) := by
    have hx : ∀ p k, p ≠ 50 → p ≠ 41 → (am_set (am_set (am_set M2 0 41 22 0) 0 50 0 0) 0 50 1 0).1 0 p k = M2.1 0 p k := fun p k a b => by
      rw [set_p a, set_p a, set_p b]
    have h41 : ∀ k, k ≠ 22 → (am_set (am_set (am_set M2 0 41 22 0) 0 50 0 0) 0 50 1 0).1 0 41 k = M2.1 0 41 k := fun k hk => by
      rw [set_p (by decide), set_p (by decide), set_k hk]
    have f42 : ∀ k, M2.1 0 42 k = M1.1 0 42 k := fun k => (hX2 0 42 k (by omega)).trans (set_p (by decide))
    refine hK _ ⟨?_, ?_, ⟨?_, fun k hk => ?_, fun i hi => ?_, fun k a b => ?_⟩, ?_, fun k hk => ?_, ?_⟩
    · have g1 : gX (fun e p k => e = 0 ∧ 41 ≤ p ∧ (p = 41 → k < 30)) M0 M2 := (((hX.wk (fun e p k h => by unfold mhS at h; omega)).set ⟨rfl, by decide, fun _ => by decide⟩)).tr (hX2.wk (fun e p k h => by omega))
      exact ((g1.set ⟨rfl, by omega, by omega⟩).set ⟨rfl, by omega, by omega⟩).set ⟨rfl, by omega, by omega⟩
    · exact hH.fr (fun k hk => (h41 k (by omega)).trans ((hX2 0 41 k (by omega)).trans (set_k (by show k ≠ 6; omega)))) (fun p k a b => (hx p k (by omega) (by omega)).trans ((hX2 0 p k (by omega)).trans (set_p (by omega))))
    · rw [hx 47 _ (by decide) (by decide)]; exact e0
    · rw [hx 47 _ (by decide) (by decide)]; exact e1 k hk
    · rw [hx 47 _ (by decide) (by decide), hx 42 _ (by decide) (by decide), f42]
      exact (e6 i hi).trans (set_p (by decide))
    · rw [hx 47 _ (by decide) (by decide)]; exact ez k a b
    · rw [set_p (by decide), set_p (by decide)]; exact set_eq
    · by_cases q : k = 1
      · rw [q]; exact set_eq
      · rw [set_k q, show k = 0 by omega]; exact set_eq
    · rw [h41 6 (by decide), hX2 0 41 6 (by omega)]; exact set_eq
  rw [← eL] at res
  exact res
theorem P_hall {Γ : Am_G} {M : Am_M} (h : Rel M) : Pair Γ 24 n_R_hall n_M_hall [] M := by
  obtain ⟨n, mt, hR⟩ := id h
  obtain ⟨b1, b2, -⟩ := id hR.1
  obtain ⟨t1, t2⟩ := id hR.2.2.2.2.1
  obtain ⟨L0, hL0⟩ : ∃ L : Nat, M.1 0 14 1 = L := ⟨(M.1 0 14 1).toNat, by omega⟩
  have hW : tW M L0 := ⟨hL0, by omega, fun k hk => (t2 k (by omega)).2⟩
  have hc := c_read (Γ := Γ) (d := 10) (n := L0) (pe := M.1 9 1 4) (ma := M.1 0 18 3) (M := M) (by omega) (by omega) hW
  have hgd := tread_good (M.1 0 15) (n := L0) 12 (M.1 9 1 4) (M.1 0 18 3) 0 (Nat.zero_le L0)
  have et : tread (M.1 0 15) L0 12 (M.1 9 1 4) (M.1 0 18 3) 0 = tread (M.1 0 45) L0 12 (M.1 9 1 4) (M.1 0 18 3) 0 := tread_congr (fun k hk => (t2 k (by omega)).1) 12 _ _ 0 (Nat.zero_le L0)
  have ob : -1 ≤ (tread (M.1 0 15) L0 12 (M.1 9 1 4) (M.1 0 18 3) 0).1 ∧ (tread (M.1 0 15) L0 12 (M.1 9 1 4) (M.1 0 18 3) 0).1 ≤ 200 := tread_r (M.1 0 15) (by omega) 12 _ _ 0 (Nat.zero_le L0)
  generalize ho : tread (M.1 0 15) L0 12 (M.1 9 1 4) (M.1 0 18 3) 0 = o at *
  -- the reference, from a memory in which its cells are M's
  have ref : ∀ M1 : Am_M, (∀ p k, 41 ≤ p → M1.1 0 p k = M.1 0 p k) → ∀ K : Option Am_V → Am_M → Prop, (o.1 ≠ -1 → ∀ M', gX (fun e p k => e = 0 ∧ ((p = 41 ∧ 8 ≤ k ∧ k ≤ 16) ∨ p = 46)) M1 M' → K (some (.inl (-4))) M') → (o.1 = -1 → ∀ M', rhK M1 (hAll o.2 (hRd M n mt)) M' → K (some (.inl (o.2.length : Int))) M') → am_Ev Γ 24 n_M_hall [.inr (.inr (0, 41))] M1 K := by
    intro M1 h41 K k0 k1
    have e45 : M1.1 0 45 = M.1 0 45 := by
      funext k
      exact h41 45 k (by omega)
    have hW1 : mW M1 L0 := ⟨by rw [h41 41 6 (by omega)]; omega, by omega, fun k hk => by
      have := t2 k (by omega)
      rw [h41 45 k (by omega)]
      omega⟩
    have hm := c_M_isRead (Γ := Γ) (d := 10) (n := L0) (pe := M.1 9 1 4) (ma := M.1 0 18 3) (M := M1) (by omega) (by omega) (by rw [h41 41 0 (by omega)]; omega) (by rw [h41 41 2 (by omega)]; omega) hW1
    rw [e45, ← et] at hm
    refine am_ev_of (by decide) (am_le rfl) (am_go 60 [12] (by decide) ?_)
    refine am_by hm (by omega) ?_
    rintro r M2 ⟨rfl, hX2, g1, g2, g3⟩
    have hX2' : gX (fun e p k => e = 0 ∧ ((p = 41 ∧ 8 ≤ k ∧ k ≤ 16) ∨ p = 46)) M1 M2 := fun e p k hn => hX2 e p k (fun z => hn ⟨z.1, by have := z.2; unfold rmS at this; omega⟩)
    by_cases q : o.1 = -1
    · rw [if_pos q]
      refine And.intro ⟨(by first | omega | (dsimp only [am_own]; omega)), (by first | omega | (dsimp only [am_own]; omega))⟩ (And.intro (fun h => absurd h (by decide)) (fun _ => ?_))
      have f14 : M2.1 0 41 14 = (o.2.length : Int) := by
        rw [g2 q, Nat.zero_add]
      have hr2 : rH M2 (hRd M n mt) := (hRd_r hR.1).fr (fun k hk => (hX2' 0 41 k (by omega)).trans (h41 41 k (by omega))) (fun p k a b => (hX2' 0 p k (by omega)).trans (h41 p k (by omega)))
      refine c_M_hallLoop (L := o.2.length) (M0 := M2) (sE := hAll o.2 (hRd M n mt)) hgd.2 f14 (fun M3 hX3 hH3 => ?_) o.2 0 (hRd M n mt) M2 (by omega) gX.rf hr2 (hRd_I hR.1) (by rw [show (((hRd M n mt).1.1 : Nat) : Int) = M.1 9 1 4 from b1.1.symm, show (((hRd M n mt).1.2.1 : Nat) : Int) = M.1 0 18 3 from b2.1.symm]; exact hgd.1) rfl (fun x w l hx => ?_)
      · refine c_M_hall33 f14 hX3 hH3 (fun M4 hK4 => k1 q M4 ?_)
        obtain ⟨y1, y2⟩ := hK4
        exact ⟨(hX2'.wk (fun e p k h => by omega)).tr y1, y2⟩
      · exact g3 x w l hx
    · rw [if_neg q]
      refine And.intro ⟨(by first | omega | (dsimp only [am_own]; omega)), (by first | omega | (dsimp only [am_own]; omega))⟩ (And.intro (fun _ => ?_) (fun h => absurd rfl h))
      exact k0 q M2 hX2'
  refine am_ev_of (by decide) (am_le rfl) (am_go 60 [41] (by decide) ?_)
  refine am_by hc (by omega) ?_
  rintro r M1 ⟨rfl, hX, g2, g3⟩
  have hX' : ∀ e p k, ¬ (e = 0 ∧ ((p = 14 ∧ 4 ≤ k) ∨ p = 16 ∨ p = 17)) → M1.1 e p k = M.1 e p k := fun e p k hn => hX e p k (fun z => hn ⟨z.1, by have := z.2; unfold rdS at this; omega⟩)
  refine And.intro ⟨⟨by omega, by omega⟩, ⟨(by first | omega | (dsimp only [am_own]; omega)), (by first | omega | (dsimp only [am_own]; omega))⟩⟩ (And.intro (fun q => ?_) (fun q => ?_))
  · -- read to its end
    have q : o.1 = -1 := q
    have f4 : M1.1 0 14 4 = (o.2.length : Int) := by
      rw [g2 q, Nat.zero_add]
    have hc1 : cH M1 (hRd M n mt) := (hRd_c hR.1).fr (fun p k => hX' 9 p k (by omega)) (fun k hk => hX' 0 18 k (by omega)) (fun p k hp => hX' 0 p k (by omega))
    have go := c_hallLoop (Γ := Γ) (L := o.2.length) (M0 := M1) (sE := hAll o.2 (hRd M n mt)) (K := Ans Γ 24 n_M_hall []) hgd.2 (fun M3 hX3 hH3 => c_hall64 hX3 hH3 (fun M4 hK4 => ?_)) o.2 0 (hRd M n mt) M1 (by omega) gX.rf hc1 (hRd_I hR.1) (by rw [show (((hRd M n mt).1.1 : Nat) : Int) = M.1 9 1 4 from b1.1.symm, show (((hRd M n mt).1.2.1 : Nat) : Int) = M.1 0 18 3 from b2.1.symm]; exact hgd.1) rfl (fun x w l hx => ?_)
    · rw [← f4] at go
      exact go
    · refine ⟨(o.2.length : Int), rfl, ?_⟩
      obtain ⟨y1, y2, y3, y4, y5, y6, y7, y8, y9⟩ := hK4
      refine ref M4 (fun p k hp => (y1 0 p k (by omega)).trans (hX' 0 p k (by omega))) _ (fun z => absurd q z) (fun _ M5 hK5 => ⟨rfl, ?_⟩)
      obtain ⟨z1, z2, ⟨z3, z4, z5, z6⟩, z7, z8, z9⟩ := hK5
      have lo : ∀ e p k, p ≤ 40 → M5.1 e p k = M4.1 e p k := fun e p k hp => z1 e p k (by omega)
      have hsI : hI (hAll o.2 (hRd M n mt)) := hAll_I o.2 _ (hRd_I hR.1) (by rw [show (((hRd M n mt).1.1 : Nat) : Int) = M.1 9 1 4 from b1.1.symm, show (((hRd M n mt).1.2.1 : Nat) : Int) = M.1 0 18 3 from b2.1.symm]; exact hgd.1)
      generalize hAll o.2 (hRd M n mt) = s at *
      have hc5 : cH M5 s := y2.fr (fun p k => by
        by_cases w : p ≤ 40
        · exact lo 9 p k w
        · exact z1 9 p k (by omega)) (fun k hk => lo 0 18 k (by omega)) (fun p k hp => lo 0 p k (by omega))
      have hh := hlR_of hc5 z2 hsI
      refine ⟨s.1.1, s.1.2.1, hh, ?_, fun k hk => ?_, ⟨?_, fun k hk => ?_⟩, ⟨?_, fun k hk => ?_⟩, ?_, ?_⟩
      · obtain ⟨⟨e1, e2, e3⟩, e4⟩ := y3
        obtain ⟨⟨c1, c2, c3⟩, c4, c5, c6⟩ := id hc5
        have hn6 := hsI.1
        have x9 : ∀ p k, p ≤ 40 → M4.1 9 p k = M5.1 9 p k := fun p k hp => (lo 9 p k hp).symm
        have x7 : ∀ i, i < s.1.1 → M5.1 0 7 i = M5.1 9 3 i := fun i hi => by
          rw [lo 0 7 i (by omega), y4 i (by omega), x9 3 i (by omega)]
        refine ⟨⟨?_, ?_⟩, fun i hi => ?_, ⟨?_, ?_, ?_⟩, fun k hk => ?_, fun m hm => ?_, fun i hi => ?_, fun k hk => ?_, fun k m hk hm => ?_⟩
        · rw [lo 0 0 6 (by omega), e1, ← lo 0 18 3 (by omega)]; exact c2
        · rw [lo 0 1 4 (by omega), e3, x9 1 4 (by omega)]; exact c1
        · rw [lo 0 2 i (by omega), lo 0 3 i (by omega), lo 0 4 i (by omega), lo 0 5 i (by omega), lo 9 2 i (by omega), lo 9 3 i (by omega), lo 9 4 i (by omega), lo 9 5 i (by omega)]
          exact e4 i (by omega)
        · rw [lo 0 0 7 (by omega), e2, z3]
        · rw [lo 0 0 7 (by omega), e2]; omega
        · rw [lo 0 0 7 (by omega), e2]; omega
        · rw [lo 0 6 k (by omega), y5 k (by omega), z4 k (by omega)]
          omega
        · exact ⟨m, hm, by rw [lo 0 6 m (by omega), y5 m (by omega)]⟩
        · have g := (hh.2.2.2.1 i hi)
          unfold ppR at g
          rw [x7 i hi, z5 i (by omega)]
          omega
        · rw [lo 0 8 k (by omega), y6 k hk, z6 (12 + k) (by omega) (by omega)]
          omega
        · exfalso
          rw [lo 0 0 7 (by omega), e2] at hk
          omega
      · rw [lo 0 13 k (by omega), y8 k hk, z8 k hk]
        exact ⟨rfl, Or.inl rfl, fun w => by omega⟩
      · rw [lo 0 18 9 (by omega), y7, z7]
        omega
      · exfalso
        rw [lo 0 18 9 (by omega), y7] at hk
        omega
      · rw [lo 0 14 1 (by omega), y9, z9]
        omega
      · exfalso
        rw [lo 0 14 1 (by omega), y9] at hk
        omega
      · rw [z1 0 41 30 (by omega), y1 0 41 30 (by omega), hX' 0 41 30 (by omega)]
        exact hR.2.2.2.2.2.1
      · rw [z1 0 41 31 (by omega), y1 0 41 31 (by omega), hX' 0 41 31 (by omega)]
        exact hR.2.2.2.2.2.2
    · have := g3 x w l hx
      exact this
  · have q : ¬ o.1 = -1 := q
    refine ⟨-4, rfl, ?_⟩
    refine ref M1 (fun p k hp => hX' 0 p k (by omega)) _ (fun _ M2 hX2 => ⟨rfl, n, mt, ?_⟩) (fun z => absurd z q)
    exact hR.fr (fun e p k hr => (hX2 e p k (by unfold relv at hr; omega)).trans (hX' e p k (by unfold relv at hr; omega)))
