/-! halls: the reference does lines -/
def mhS (e p k : Nat) : Prop := e = 0 ∧ ((p = 41 ∧ (k = 0 ∨ k = 2 ∨ k = 5)) ∨ p = 42 ∨ p = 43 ∨ p = 44)
def rH (M : Am_M) (s : Hs) : Prop := (M.1 0 41 0 = s.1.1 ∧ M.1 0 41 2 = s.1.2.1 ∧ M.1 0 41 5 = s.1.2.2) ∧ (∀ i, i < s.1.1 → M.1 0 42 (i * 4) = s.2 0 i ∧ M.1 0 42 (i * 4 + 1) = s.2 1 i ∧ M.1 0 42 (i * 4 + 2) = s.2 2 i ∧ M.1 0 42 (i * 4 + 3) = s.2 3 i) ∧ (∀ m, m < s.1.2.1 → M.1 0 43 m = s.2 4 m) ∧ (∀ i m, i < s.1.1 → m < s.1.2.1 → M.1 0 44 (i * 5 + m) = s.2 5 (i * 5 + m))
theorem c_M_loopP {Γ : Am_G} {d n : Nat} {x va vb : Int} {M : Am_M} {K : Option Am_V → Am_M → Prop} (hn : n < 6) (hK : ∀ M', gX (fun e p k => e = 0 ∧ ((p = 41 ∧ k = 0) ∨ (p = 44 ∧ n * 5 ≤ k ∧ k < n * 5 + 5))) M M' → M'.1 0 41 0 = (n : Int) + 1 → (∀ m, m < 5 → M'.1 0 44 (n * 5 + m) = 0) → K none M') : ∀ (k i : Nat) (M1 : Am_M), i + k = 5 → gX (fun e p k => e = 0 ∧ ((p = 41 ∧ k = 0) ∨ (p = 44 ∧ n * 5 ≤ k ∧ k < n * 5 + 5))) M M1 → M1.1 0 41 0 = n → (∀ m, m < i → M1.1 0 44 (n * 5 + m) = 0) → am_At Γ (d + 1) n_M_doLine 138 [some (.inr (.inr (0, 41))), some (.inl x), some (.inl va), some (.inl vb), some (.inl (i : Int))] [] M1 K := by
  intro k
  induction k with
  | zero =>
    intro i M1 hi hX hn1 hz
    have : i = 5 := by omega
    subst this
    refine am_go 60 [138] (by decide) ?_
    refine And.intro ⟨⟨(by first | omega | (dsimp only [am_own]; omega)), (by first | omega | (dsimp only [am_own]; omega))⟩, ⟨(by first | omega | (dsimp only [am_own]; omega)), (by first | omega | (dsimp only [am_own]; omega))⟩⟩ (And.intro (fun h => ?_) (fun h => ?_))
    · exfalso; omega
    refine hK (am_set M1 0 41 0 (M1.1 0 41 0 + 1)) (hX.set ⟨rfl, Or.inl ⟨rfl, rfl⟩⟩) ?_ (fun m hm => ?_)
    · rw [set_eq, hn1]
    · rw [set_p (by decide)]; exact hz m hm
  | succ k ih =>
    intro i M1 hi hX hn1 hz
    refine am_go 60 [138] (by decide) ?_
    refine And.intro ⟨⟨(by first | omega | (dsimp only [am_own]; omega)), (by first | omega | (dsimp only [am_own]; omega))⟩, ⟨(by first | omega | (dsimp only [am_own]; omega)), (by first | omega | (dsimp only [am_own]; omega))⟩⟩ (And.intro (fun h => ?_) (fun h => ?_))
    rotate_left
    · exfalso; omega
    refine And.intro (show 0 ≤ 5 * M1.1 0 41 0 + (i : Int) ∧ 5 * M1.1 0 41 0 + (i : Int) < 30 from ⟨by omega, by omega⟩) ?_
    have ex : (5 * M1.1 0 41 0 + (i : Int)).toNat = n * 5 + i := by omega
    have go := ih (i + 1) (am_set M1 0 44 (n * 5 + i) 0) (by omega) (hX.set ⟨rfl, Or.inr ⟨rfl, by omega, by omega⟩⟩) (by rw [set_p (by decide)]; exact hn1) (fun m hm => by
      by_cases q : m = i
      · rw [q]; exact set_eq
      · rw [set_k (by omega)]; exact hz m (by omega))
    rw [← ex] at go
    exact go
theorem c_M_loopM {Γ : Am_G} {d mt : Nat} {x va vb : Int} {M : Am_M} {K : Option Am_V → Am_M → Prop} (hm : mt < 5) (hK : ∀ M', gX (fun e p k => e = 0 ∧ ((p = 41 ∧ k = 2) ∨ (p = 44 ∧ k % 5 = mt))) M M' → M'.1 0 41 2 = (mt : Int) + 1 → (∀ i, i < 6 → M'.1 0 44 (i * 5 + mt) = 0) → K none M') : ∀ (k i : Nat) (M1 : Am_M), i + k = 6 → gX (fun e p k => e = 0 ∧ ((p = 41 ∧ k = 2) ∨ (p = 44 ∧ k % 5 = mt))) M M1 → M1.1 0 41 2 = mt → (∀ j, j < i → M1.1 0 44 (j * 5 + mt) = 0) → am_At Γ (d + 1) n_M_doLine 209 [some (.inr (.inr (0, 41))), some (.inl x), some (.inl va), some (.inl vb), some (.inl (i : Int))] [] M1 K := by
  intro k
  induction k with
  | zero =>
    intro i M1 hi hX hn1 hz
    have : i = 6 := by omega
    subst this
    refine am_go 60 [209] (by decide) ?_
    refine And.intro ⟨⟨(by first | omega | (dsimp only [am_own]; omega)), (by first | omega | (dsimp only [am_own]; omega))⟩, ⟨(by first | omega | (dsimp only [am_own]; omega)), (by first | omega | (dsimp only [am_own]; omega))⟩⟩ (And.intro (fun h => ?_) (fun h => ?_))
    · exfalso; omega
    refine hK (am_set M1 0 41 2 (M1.1 0 41 2 + 1)) (hX.set ⟨rfl, Or.inl ⟨rfl, rfl⟩⟩) ?_ (fun m hm => ?_)
    · rw [set_eq, hn1]
    · rw [set_p (by decide)]; exact hz m hm
  | succ k ih =>
    intro i M1 hi hX hn1 hz
    refine am_go 60 [209] (by decide) ?_
    refine And.intro ⟨⟨(by first | omega | (dsimp only [am_own]; omega)), (by first | omega | (dsimp only [am_own]; omega))⟩, ⟨(by first | omega | (dsimp only [am_own]; omega)), (by first | omega | (dsimp only [am_own]; omega))⟩⟩ (And.intro (fun h => ?_) (fun h => ?_))
    rotate_left
    · exfalso; omega
    refine And.intro (show 0 ≤ 5 * (i : Int) + M1.1 0 41 2 ∧ 5 * (i : Int) + M1.1 0 41 2 < 30 from ⟨by omega, by omega⟩) ?_
    have ex : (5 * (i : Int) + M1.1 0 41 2).toNat = i * 5 + mt := by omega
    have go := ih (i + 1) (am_set M1 0 44 (i * 5 + mt) 0) (by omega) (hX.set ⟨rfl, Or.inr ⟨rfl, by omega⟩⟩) (by rw [set_p (by decide)]; exact hn1) (fun m hm => by
      by_cases q : m = i
      · rw [q]; exact set_eq
      · rw [set_k (by omega)]; exact hz m (by omega))
    rw [← ex] at go
    exact go
theorem c_M_doLine {Γ : Am_G} {d j : Nat} {M : Am_M} {s : Hs} {w x : Int} (hx : x = ((j * 4 : Nat) : Int)) (hj : j < 12) (h : rH M s) (hIs : hI s) (hw : M.1 0 46 (j * 4) = rcW w) (hF : lnF w (M.1 0 46 (j * 4 + 1 + 0)) (M.1 0 46 (j * 4 + 1 + 1)) (M.1 0 46 (j * 4 + 1 + 2)) s.1.1 s.1.2.1) : am_Ev Γ (d + 1) n_M_doLine [.inr (.inr (0, 41)), .inl x] M (fun r M' => r = none ∧ gX mhS M M' ∧ rH M' (hSt w (M.1 0 46 (j * 4 + 1 + 0)) (M.1 0 46 (j * 4 + 1 + 1)) (M.1 0 46 (j * 4 + 1 + 2)) s)) := by
  have ea : M.1 0 46 (x + 1).toNat = M.1 0 46 (j * 4 + 1 + 0) := congrArg _ (by omega)
  have eb : M.1 0 46 (x + 2).toNat = M.1 0 46 (j * 4 + 1 + 1) := congrArg _ (by omega)
  have ec : M.1 0 46 (x + 3).toNat = M.1 0 46 (j * 4 + 1 + 2) := congrArg _ (by omega)
  have ew : M.1 0 46 x.toNat = rcW w := by rw [← hw]; exact congrArg _ (by omega)
  generalize M.1 0 46 (j * 4 + 1 + 0) = a at *
  generalize M.1 0 46 (j * 4 + 1 + 1) = b at *
  generalize M.1 0 46 (j * 4 + 1 + 2) = c at *
  obtain ⟨⟨h1, h2, h3⟩, h4, h5, h6⟩ := h
  obtain ⟨i1, i2, i3, i4, i5⟩ := hIs
  obtain ⟨⟨n, mt, ho⟩, P⟩ := s
  obtain ⟨f0, f1, f2, f3, f4, f5⟩ := hF
  dsimp only at *
  have hrb : am_R (rcW w) := by
    unfold rcW
    split
    · exact ⟨by omega, by omega⟩
    · split <;> exact ⟨by omega, by omega⟩
  have st76 : w ≤ 3 → ∀ va vb : Int, va = a → vb = b → am_At Γ (d + 1) n_M_doLine 76 [some (.inr (.inr (0, 41))), some (.inl x), some (.inl va), some (.inl vb), none] [] M (fun r M' => r = none ∧ gX mhS M M' ∧ rH M' (hSt w a b c ((n, mt, ho), P))) := by
    intro q va vb hva hvb
    subst hva
    subst hvb
    have g := f1 q
    have er : rcW w = w := by unfold rcW; rw [if_pos q]
    have e : hSt w va vb c ((n, mt, ho), P) = ((n + 1, mt, ho), hU (hU (hU (hU P 0 n w) 1 n va) 2 n vb) 3 n 1) := by
      unfold hSt
      rw [if_neg (by omega), if_neg (by omega), if_neg (by omega), if_neg (by omega), if_neg (by omega), if_neg (by omega)]
    rw [e]
    refine am_go 60 [138] (by decide) ?_
    refine And.intro ⟨by omega, by omega⟩ ?_
    refine And.intro (show 0 ≤ 4 * M.1 0 41 0 ∧ 4 * M.1 0 41 0 < 24 from ⟨by omega, by omega⟩) ?_
    have o1 : ∀ (M9 : Am_M) (k : Nat) (v : Int), (am_set M9 0 42 k v).1 0 41 0 = M9.1 0 41 0 := fun M9 k v => set_p (by decide)
    have c1 : ∀ (M9 : Am_M) (k : Nat) (v z : Int), M9.1 0 41 0 = n → 0 ≤ z → z ≤ 3 → 0 ≤ 4 * (am_set M9 0 42 k v).1 0 41 0 + z ∧ 4 * (am_set M9 0 42 k v).1 0 41 0 + z < 24 := fun M9 k v z hM a b => by
      rw [o1, hM]
      omega
    refine And.intro (c1 _ _ _ 1 h1 (by omega) (by omega)) ?_
    refine And.intro (c1 _ _ _ 2 ((o1 _ _ _).trans h1) (by omega) (by omega)) ?_
    refine And.intro (c1 _ _ _ 3 ((o1 _ _ _).trans ((o1 _ _ _).trans h1)) (by omega) (by omega)) ?_
    have hX0 : gX mhS M (am_set (am_set (am_set (am_set M 0 42 (4 * M.1 0 41 0).toNat (M.1 0 46 x.toNat)) 0 42 (4 * M.1 0 41 0 + 1).toNat va) 0 42 (4 * M.1 0 41 0 + 2).toNat vb) 0 42 (4 * M.1 0 41 0 + 3).toNat 1) := (((gX.rf.set ⟨rfl, Or.inr (Or.inl rfl)⟩).set ⟨rfl, Or.inr (Or.inl rfl)⟩).set ⟨rfl, Or.inr (Or.inl rfl)⟩).set ⟨rfl, Or.inr (Or.inl rfl)⟩
    have o42 : ∀ e p k, ¬ (p = 42 ∧ n * 4 ≤ k ∧ k < n * 4 + 4) → (am_set (am_set (am_set (am_set M 0 42 (4 * M.1 0 41 0).toNat (M.1 0 46 x.toNat)) 0 42 (4 * M.1 0 41 0 + 1).toNat va) 0 42 (4 * M.1 0 41 0 + 2).toNat vb) 0 42 (4 * M.1 0 41 0 + 3).toNat 1).1 e p k = M.1 e p k := fun e p k hn => by
      rw [set_at (by omega), set_at (by omega), set_at (by omega), set_at (by omega)]
    have p0 : (am_set (am_set (am_set (am_set M 0 42 (4 * M.1 0 41 0).toNat (M.1 0 46 x.toNat)) 0 42 (4 * M.1 0 41 0 + 1).toNat va) 0 42 (4 * M.1 0 41 0 + 2).toNat vb) 0 42 (4 * M.1 0 41 0 + 3).toNat 1).1 0 42 (n * 4) = w := by
      rw [set_k (by omega), set_k (by omega), set_k (by omega), show n * 4 = (4 * M.1 0 41 0).toNat by omega, set_eq, ew, er]
    have p1 : (am_set (am_set (am_set (am_set M 0 42 (4 * M.1 0 41 0).toNat (M.1 0 46 x.toNat)) 0 42 (4 * M.1 0 41 0 + 1).toNat va) 0 42 (4 * M.1 0 41 0 + 2).toNat vb) 0 42 (4 * M.1 0 41 0 + 3).toNat 1).1 0 42 (n * 4 + 1) = va := by
      rw [set_k (by omega), set_k (by omega), show n * 4 + 1 = (4 * M.1 0 41 0 + 1).toNat by omega, set_eq]
    have p2 : (am_set (am_set (am_set (am_set M 0 42 (4 * M.1 0 41 0).toNat (M.1 0 46 x.toNat)) 0 42 (4 * M.1 0 41 0 + 1).toNat va) 0 42 (4 * M.1 0 41 0 + 2).toNat vb) 0 42 (4 * M.1 0 41 0 + 3).toNat 1).1 0 42 (n * 4 + 2) = vb := by
      rw [set_k (by omega), show n * 4 + 2 = (4 * M.1 0 41 0 + 2).toNat by omega, set_eq]
    have p3 : (am_set (am_set (am_set (am_set M 0 42 (4 * M.1 0 41 0).toNat (M.1 0 46 x.toNat)) 0 42 (4 * M.1 0 41 0 + 1).toNat va) 0 42 (4 * M.1 0 41 0 + 2).toNat vb) 0 42 (4 * M.1 0 41 0 + 3).toNat 1).1 0 42 (n * 4 + 3) = 1 := by
      rw [show n * 4 + 3 = (4 * M.1 0 41 0 + 3).toNat by omega, set_eq]
    have hmem : ∀ M9, M9 = am_set (am_set (am_set (am_set M 0 42 (4 * M.1 0 41 0).toNat (M.1 0 46 x.toNat)) 0 42 (4 * M.1 0 41 0 + 1).toNat va) 0 42 (4 * M.1 0 41 0 + 2).toNat vb) 0 42 (4 * M.1 0 41 0 + 3).toNat 1 → am_At Γ (d + 1) n_M_doLine 138 [some (.inr (.inr (0, 41))), some (.inl x), some (.inl va), some (.inl vb), some (.inl 0)] [] M9 (fun r M' => r = none ∧ gX mhS M M' ∧ rH M' ((n + 1, mt, ho), hU (hU (hU (hU P 0 n w) 1 n va) 2 n vb) 3 n 1)) := by
      intro M9 hM9
      rw [← hM9] at hX0 o42 p0 p1 p2 p3
      refine c_M_loopP (n := n) (M := M9) (by omega) (fun M' hX' e0 ez => ?_) 5 0 M9 (by omega) gX.rf ((o42 0 41 0 (by omega)).trans h1) (fun m hm => absurd hm (Nat.not_lt_zero m))
      refine ⟨rfl, hX0.tr (hX'.wk (fun e p k h => by unfold mhS; omega)), ⟨e0, ?_, ?_⟩, fun i hi => ?_, fun m hm => ?_, fun i m hi hm => ?_⟩
      · rw [hX' 0 41 2 (by omega), o42 0 41 2 (by omega)]; exact h2
      · rw [hX' 0 41 5 (by omega), o42 0 41 5 (by omega)]; exact h3
      · have hi : i < n + 1 := hi
        show M'.1 0 42 (i * 4) = hU (hU (hU (hU P 0 n w) 1 n va) 2 n vb) 3 n 1 0 i ∧ M'.1 0 42 (i * 4 + 1) = hU (hU (hU (hU P 0 n w) 1 n va) 2 n vb) 3 n 1 1 i ∧ M'.1 0 42 (i * 4 + 2) = hU (hU (hU (hU P 0 n w) 1 n va) 2 n vb) 3 n 1 2 i ∧ M'.1 0 42 (i * 4 + 3) = hU (hU (hU (hU P 0 n w) 1 n va) 2 n vb) 3 n 1 3 i
        rw [hX' 0 42 _ (by omega), hX' 0 42 _ (by omega), hX' 0 42 _ (by omega), hX' 0 42 _ (by omega)]
        by_cases z : i = n
        · subst z
          refine ⟨?_, ?_, ?_, ?_⟩
          · rw [p0, hU_ne (by omega), hU_ne (by omega), hU_ne (by omega), hU_eq]
          · rw [p1, hU_ne (by omega), hU_ne (by omega), hU_eq]
          · rw [p2, hU_ne (by omega), hU_eq]
          · rw [p3, hU_eq]
        · have e3 : ∀ c', hU (hU (hU (hU P 0 n w) 1 n va) 2 n vb) 3 n 1 c' i = P c' i := fun c' => by
            rw [hU_ne (by omega), hU_ne (by omega), hU_ne (by omega), hU_ne (by omega)]
          rw [e3, e3, e3, e3, o42 0 42 _ (by omega), o42 0 42 _ (by omega), o42 0 42 _ (by omega), o42 0 42 _ (by omega)]
          exact h4 i (by omega)
      · show M'.1 0 43 m = hU (hU (hU (hU P 0 n w) 1 n va) 2 n vb) 3 n 1 4 m
        rw [hX' 0 43 _ (by omega), o42 0 43 _ (by omega), hU_ne (by omega), hU_ne (by omega), hU_ne (by omega), hU_ne (by omega)]
        exact h5 m hm
      · have hi : i < n + 1 := hi
        have hm : m < mt := hm
        show M'.1 0 44 (i * 5 + m) = hU (hU (hU (hU P 0 n w) 1 n va) 2 n vb) 3 n 1 5 (i * 5 + m)
        rw [hU_ne (by omega), hU_ne (by omega), hU_ne (by omega), hU_ne (by omega)]
        by_cases z : i = n
        · subst z
          rw [ez m (by omega), i4 i m (by omega) (by omega) (Or.inl (Nat.le_refl i))]
        · rw [hX' 0 44 _ (by omega), o42 0 44 _ (by omega)]
          exact h6 i m (by omega) hm
    refine hmem _ ?_
    show am_set (am_set (am_set (am_set M 0 42 (4 * M.1 0 41 0).toNat (M.1 0 46 x.toNat)) 0 42 (4 * (am_set M 0 42 (4 * M.1 0 41 0).toNat (M.1 0 46 x.toNat)).1 0 41 0 + 1).toNat va) 0 42 (4 * (am_set (am_set M 0 42 (4 * M.1 0 41 0).toNat (M.1 0 46 x.toNat)) 0 42 (4 * (am_set M 0 42 (4 * M.1 0 41 0).toNat (M.1 0 46 x.toNat)).1 0 41 0 + 1).toNat va).1 0 41 0 + 2).toNat vb) 0 42 (4 * (am_set (am_set (am_set M 0 42 (4 * M.1 0 41 0).toNat (M.1 0 46 x.toNat)) 0 42 (4 * (am_set M 0 42 (4 * M.1 0 41 0).toNat (M.1 0 46 x.toNat)).1 0 41 0 + 1).toNat va) 0 42 (4 * (am_set (am_set M 0 42 (4 * M.1 0 41 0).toNat (M.1 0 46 x.toNat)) 0 42 (4 * (am_set M 0 42 (4 * M.1 0 41 0).toNat (M.1 0 46 x.toNat)).1 0 41 0 + 1).toNat va).1 0 41 0 + 2).toNat vb).1 0 41 0 + 3).toNat 1 = _
    simp only [o1]
  have worth : ∀ v : Int, (0 ≤ a ∧ a < n) → (0 ≤ b ∧ b < mt) → gX mhS M (am_set M 0 44 (5 * a + b).toNat v) ∧ rH (am_set M 0 44 (5 * a + b).toNat v) ((n, mt, ho), hU P 5 (a * 5 + b).toNat v) := fun v ha hb => by
    have ei : (5 * a + b).toNat = (a * 5 + b).toNat := by omega
    rw [ei]
    refine ⟨gX.rf.set ⟨rfl, Or.inr (Or.inr (Or.inr rfl))⟩, ⟨?_, ?_, ?_⟩, fun i hi => ?_, fun m hm => ?_, fun i m hi hm => ?_⟩
    · rw [set_p (by decide)]; exact h1
    · rw [set_p (by decide)]; exact h2
    · rw [set_p (by decide)]; exact h3
    · rw [set_p (by decide), set_p (by decide), set_p (by decide), set_p (by decide)]
      show _ = hU P 5 (a * 5 + b).toNat v 0 i ∧ _ = hU P 5 (a * 5 + b).toNat v 1 i ∧ _ = hU P 5 (a * 5 + b).toNat v 2 i ∧ _ = hU P 5 (a * 5 + b).toNat v 3 i
      rw [hU_ne (by omega), hU_ne (by omega), hU_ne (by omega), hU_ne (by omega)]
      exact h4 i hi
    · rw [set_p (by decide)]
      show _ = hU P 5 (a * 5 + b).toNat v 4 m
      rw [hU_ne (by omega)]
      exact h5 m hm
    · show (am_set M 0 44 (a * 5 + b).toNat v).1 0 44 (i * 5 + m) = hU P 5 (a * 5 + b).toNat v 5 (i * 5 + m)
      by_cases z : i * 5 + m = (a * 5 + b).toNat
      · rw [z, set_eq, hU_eq]
      · rw [set_k z, hU_ne (fun y => z y.2)]; exact h6 i m hi hm
  have st178 : w = 9 → ∀ va vb : Int, va = a → vb = b → am_At Γ (d + 1) n_M_doLine 178 [some (.inr (.inr (0, 41))), some (.inl x), some (.inl va), some (.inl vb), none] [] M (fun r M' => r = none ∧ gX mhS M M' ∧ rH M' (hSt w a b c ((n, mt, ho), P))) := by
    intro q va vb hva hvb
    have e : hSt w a b c ((n, mt, ho), P) = ((0, 0, 2), fun c' k' => if c' = 5 then 0 else P c' k') := by
      unfold hSt
      rw [if_pos q]
    rw [e]
    refine am_go 60 [] (by decide) ?_
    show none = none ∧ gX mhS M (am_set (am_set (am_set M 0 41 0 0) 0 41 2 0) 0 41 5 2) ∧ rH (am_set (am_set (am_set M 0 41 0 0) 0 41 2 0) 0 41 5 2) ((0, 0, 2), fun c' k' => if c' = 5 then 0 else P c' k')
    refine ⟨rfl, ((gX.rf.set ⟨rfl, Or.inl ⟨rfl, Or.inl rfl⟩⟩).set ⟨rfl, Or.inl ⟨rfl, Or.inr (Or.inl rfl)⟩⟩).set ⟨rfl, Or.inl ⟨rfl, Or.inr (Or.inr rfl)⟩⟩, ⟨?_, ?_, set_eq⟩, fun i hi => absurd hi (Nat.not_lt_zero i), fun i hi => absurd hi (Nat.not_lt_zero i), fun i m hi => absurd hi (Nat.not_lt_zero i)⟩
    · rw [set_k (by decide), set_k (by decide), set_eq]; rfl
    · rw [set_k (by decide), set_eq]; rfl
  have st196 : w = 4 → ∀ va vb : Int, va = a → vb = b → am_At Γ (d + 1) n_M_doLine 196 [some (.inr (.inr (0, 41))), some (.inl x), some (.inl va), some (.inl vb), none] [] M (fun r M' => r = none ∧ gX mhS M M' ∧ rH M' (hSt w a b c ((n, mt, ho), P))) := by
    intro q va vb hva hvb
    subst hva
    have g := f2 q
    have e : hSt w va b c ((n, mt, ho), P) = ((n, mt + 1, ho), hU P 4 mt va) := by
      unfold hSt
      rw [if_neg (by omega), if_pos q]
    rw [e]
    refine am_go 60 [209] (by decide) ?_
    refine And.intro (show 0 ≤ M.1 0 41 2 ∧ M.1 0 41 2 < 5 from ⟨by omega, by omega⟩) ?_
    have em : (M.1 0 41 2).toNat = mt := by omega
    have go : am_At Γ (d + 1) n_M_doLine 209 [some (.inr (.inr (0, 41))), some (.inl x), some (.inl va), some (.inl vb), some (.inl ((0 : Nat) : Int))] [] (am_set M 0 43 mt va) (fun r M' => r = none ∧ gX mhS M M' ∧ rH M' ((n, mt + 1, ho), hU P 4 mt va)) := by
      refine c_M_loopM (mt := mt) (M := am_set M 0 43 mt va) (by omega) (fun M' hX' e0 ez => ?_) 6 0 _ (by omega) gX.rf (by rw [set_p (by decide)]; exact h2) (fun m hm => absurd hm (Nat.not_lt_zero m))
      have o : ∀ e p k, ¬ (e = 0 ∧ ((p = 41 ∧ k = 2) ∨ (p = 44 ∧ k % 5 = mt))) → p ≠ 43 → M'.1 e p k = M.1 e p k := fun e p k hn hp => (hX' e p k hn).trans (set_p hp)
      refine ⟨rfl, (gX.set (k := mt) (v := va) gX.rf ⟨rfl, Or.inr (Or.inr (Or.inl rfl))⟩).tr (hX'.wk (fun e p k h => by unfold mhS; omega)), ⟨?_, e0, ?_⟩, fun i hi => ?_, fun m hm => ?_, fun i m hi hm => ?_⟩
      · rw [o 0 41 0 (by omega) (by decide)]; exact h1
      · rw [o 0 41 5 (by omega) (by decide)]; exact h3
      · rw [o 0 42 _ (by omega) (by decide), o 0 42 _ (by omega) (by decide), o 0 42 _ (by omega) (by decide), o 0 42 _ (by omega) (by decide)]
        show _ = hU P 4 mt va 0 i ∧ _ = hU P 4 mt va 1 i ∧ _ = hU P 4 mt va 2 i ∧ _ = hU P 4 mt va 3 i
        rw [hU_ne (by omega), hU_ne (by omega), hU_ne (by omega), hU_ne (by omega)]
        exact h4 i hi
      · have hm : m < mt + 1 := hm
        show M'.1 0 43 m = hU P 4 mt va 4 m
        rw [hX' 0 43 m (by omega)]
        by_cases z : m = mt
        · rw [z, set_eq, hU_eq]
        · rw [set_k z, hU_ne (fun y => z y.2)]; exact h5 m (by omega)
      · have hi : i < n := hi
        have hm : m < mt + 1 := hm
        show M'.1 0 44 (i * 5 + m) = hU P 4 mt va 5 (i * 5 + m)
        rw [hU_ne (by omega)]
        by_cases z : m = mt
        · subst z
          rw [ez i (by omega), i4 i m (by omega) (by omega) (Or.inr (Nat.le_refl m))]
        · rw [o 0 44 _ (by omega) (by decide)]
          exact h6 i m hi (by omega)
    rw [← em] at go
    rw [em] at go
    have hgo : ∀ k9 : Nat, k9 = mt → am_At Γ (d + 1) n_M_doLine 209 [some (.inr (.inr (0, 41))), some (.inl x), some (.inl va), some (.inl vb), some (.inl 0)] [] (am_set M 0 43 k9 va) (fun r M' => r = none ∧ gX mhS M M' ∧ rH M' ((n, mt + 1, ho), hU P 4 mt va)) := fun k9 hk => by
      rw [hk]; exact go
    exact hgo _ em
  have st250 : w = 5 → ∀ va vb : Int, va = a → vb = b → am_At Γ (d + 1) n_M_doLine 250 [some (.inr (.inr (0, 41))), some (.inl x), some (.inl va), some (.inl vb), none] [] M (fun r M' => r = none ∧ gX mhS M M' ∧ rH M' (hSt w a b c ((n, mt, ho), P))) := by
    intro q va vb hva hvb
    subst hva
    subst hvb
    have g := f3 (Or.inl q)
    have e : hSt w va vb c ((n, mt, ho), P) = ((n, mt, ho), hU P 5 (va * 5 + vb).toNat c) := by
      unfold hSt
      rw [if_neg (by omega), if_neg (by omega), if_pos q]
    rw [e]
    refine am_go 60 [] (by decide) ?_
    refine And.intro ⟨by omega, by omega⟩ ?_
    refine And.intro ⟨by omega, by omega⟩ ?_
    have k := worth c g.1 g.2.1
    rw [← ec] at k ⊢
    exact ⟨rfl, k⟩
  have st271 : w = 6 → ∀ va vb : Int, va = a → vb = b → am_At Γ (d + 1) n_M_doLine 271 [some (.inr (.inr (0, 41))), some (.inl x), some (.inl va), some (.inl vb), none] [] M (fun r M' => r = none ∧ gX mhS M M' ∧ rH M' (hSt w a b c ((n, mt, ho), P))) := by
    intro q va vb hva hvb
    subst hva
    subst hvb
    have g := f3 (Or.inr q)
    have e : hSt w va vb c ((n, mt, ho), P) = ((n, mt, ho), hU P 5 (va * 5 + vb).toNat (-c)) := by
      unfold hSt
      rw [if_neg (by omega), if_neg (by omega), if_neg (by omega), if_pos q]
    rw [e]
    refine am_go 60 [] (by decide) ?_
    refine And.intro ⟨by omega, by omega⟩ ?_
    refine And.intro ⟨by omega, by omega⟩ ?_
    have k := worth (-c) g.1 g.2.1
    rw [← ec] at k ⊢
    exact ⟨rfl, k⟩
  have st293 : w = 7 → ∀ va vb : Int, va = a → vb = b → am_At Γ (d + 1) n_M_doLine 293 [some (.inr (.inr (0, 41))), some (.inl x), some (.inl va), some (.inl vb), none] [] M (fun r M' => r = none ∧ gX mhS M M' ∧ rH M' (hSt w a b c ((n, mt, ho), P))) := by
    intro q va vb hva hvb
    subst hva
    subst hvb
    have g := f4 q
    have e : hSt w va vb c ((n, mt, ho), P) = ((n, mt, ho), hU P 3 va.toNat vb) := by
      unfold hSt
      rw [if_neg (by omega), if_neg (by omega), if_neg (by omega), if_neg (by omega), if_pos q]
    rw [e]
    refine am_go 60 [] (by decide) ?_
    refine And.intro ⟨by omega, by omega⟩ ?_
    show none = none ∧ gX mhS M (am_set M 0 42 (4 * va + 3).toNat vb) ∧ rH (am_set M 0 42 (4 * va + 3).toNat vb) ((n, mt, ho), hU P 3 va.toNat vb)
    refine ⟨rfl, gX.rf.set ⟨rfl, Or.inr (Or.inl rfl)⟩, ⟨?_, ?_, ?_⟩, fun i hi => ?_, fun m hm => ?_, fun i m hi hm => ?_⟩
    · rw [set_p (by decide)]; exact h1
    · rw [set_p (by decide)]; exact h2
    · rw [set_p (by decide)]; exact h3
    · show (am_set M 0 42 (4 * va + 3).toNat vb).1 0 42 (i * 4) = hU P 3 va.toNat vb 0 i ∧ (am_set M 0 42 (4 * va + 3).toNat vb).1 0 42 (i * 4 + 1) = hU P 3 va.toNat vb 1 i ∧ (am_set M 0 42 (4 * va + 3).toNat vb).1 0 42 (i * 4 + 2) = hU P 3 va.toNat vb 2 i ∧ (am_set M 0 42 (4 * va + 3).toNat vb).1 0 42 (i * 4 + 3) = hU P 3 va.toNat vb 3 i
      have k4 := h4 i hi
      refine ⟨?_, ?_, ?_, ?_⟩
      · rw [set_k (by omega), hU_ne (by omega)]; exact k4.1
      · rw [set_k (by omega), hU_ne (by omega)]; exact k4.2.1
      · rw [set_k (by omega), hU_ne (by omega)]; exact k4.2.2.1
      · by_cases z : i = va.toNat
        · rw [show i * 4 + 3 = (4 * va + 3).toNat by omega, set_eq, z, hU_eq]
        · rw [set_k (by omega), hU_ne (fun y => z y.2)]; exact k4.2.2.2
    · rw [set_p (by decide)]
      show _ = hU P 3 va.toNat vb 4 m
      rw [hU_ne (by omega)]
      exact h5 m hm
    · rw [set_p (by decide)]
      show _ = hU P 3 va.toNat vb 5 (i * 5 + m)
      rw [hU_ne (by omega)]
      exact h6 i m hi hm
  have st307 : w = 8 → ∀ va vb : Int, va = a → vb = b → am_At Γ (d + 1) n_M_doLine 307 [some (.inr (.inr (0, 41))), some (.inl x), some (.inl va), some (.inl vb), none] [] M (fun r M' => r = none ∧ gX mhS M M' ∧ rH M' (hSt w a b c ((n, mt, ho), P))) := by
    intro q va vb hva hvb
    subst hva
    have e : hSt w va b c ((n, mt, ho), P) = ((n, mt, va), P) := by
      unfold hSt
      rw [if_neg (by omega), if_neg (by omega), if_neg (by omega), if_neg (by omega), if_neg (by omega), if_pos q]
    rw [e]
    refine am_go 60 [] (by decide) ?_
    show none = none ∧ gX mhS M (am_set M 0 41 5 va) ∧ rH (am_set M 0 41 5 va) ((n, mt, va), P)
    refine ⟨rfl, gX.rf.set ⟨rfl, Or.inl ⟨rfl, Or.inr (Or.inr rfl)⟩⟩, ⟨?_, ?_, set_eq⟩, fun i hi => ?_, fun m hm => ?_, fun i m hi hm => ?_⟩
    · rw [set_k (by decide)]; exact h1
    · rw [set_k (by decide)]; exact h2
    · rw [set_p (by decide), set_p (by decide), set_p (by decide), set_p (by decide)]; exact h4 i hi
    · rw [set_p (by decide)]; exact h5 m hm
    · rw [set_p (by decide)]; exact h6 i m hi hm
  have rc3 : w ≤ 3 → rcW w = w := fun q => by unfold rcW; rw [if_pos q]
  have rc9 : w = 9 → rcW w = 4 := fun q => by unfold rcW; rw [if_neg (by omega), if_pos q]
  have rc4 : 4 ≤ w → w ≠ 9 → rcW w = w + 1 := fun q q2 => by unfold rcW; rw [if_neg (by omega), if_neg q2]
  have all : (rcW w ≤ 3 → w ≤ 3) ∧ (rcW w = 4 → w = 9) ∧ (5 ≤ rcW w → w = rcW w - 1) ∧ (0 ≤ rcW w ∧ rcW w ≤ 9) := by
    by_cases q : w ≤ 3
    · have := rc3 q; omega
    · by_cases q2 : w = 9
      · have := rc9 q2; omega
      · have := rc4 (by omega) q2; omega
  obtain ⟨a1, a2, a3, a4⟩ := all
  refine am_ev_of (by decide) (am_le rfl) (am_go 60 [76, 178, 196, 250, 271, 293, 307] (by decide) ?_)
  refine And.intro ⟨by omega, by omega⟩ ?_
  refine And.intro ⟨by omega, by omega⟩ ?_
  refine And.intro ⟨by omega, by omega⟩ ?_
  refine And.intro ⟨am_Re ew hrb, rfl⟩ (And.intro (fun hz => ?_) (And.intro (fun hz => ?_) (And.intro (fun hz => ?_) (And.intro (fun hz => ?_) (And.intro (fun hz => ?_) (And.intro (fun hz => ?_) (And.intro (fun hz => ?_) (And.intro (fun hz => ?_) (And.intro (fun hz => ?_) (And.intro (fun hz => ?_) trivial))))))))))
  · have hz : M.1 0 46 x.toNat < 0 ∨ 8 < M.1 0 46 x.toNat := hz
    exact st307 (by omega) _ _ ea eb
  · have hz : M.1 0 46 x.toNat = 0 := hz
    exact st76 (by omega) _ _ ea eb
  · have hz : M.1 0 46 x.toNat = 1 := hz
    exact st76 (by omega) _ _ ea eb
  · have hz : M.1 0 46 x.toNat = 2 := hz
    exact st76 (by omega) _ _ ea eb
  · have hz : M.1 0 46 x.toNat = 3 := hz
    exact st76 (by omega) _ _ ea eb
  · have hz : M.1 0 46 x.toNat = 4 := hz
    exact st178 (by omega) _ _ ea eb
  · have hz : M.1 0 46 x.toNat = 5 := hz
    exact st196 (by omega) _ _ ea eb
  · have hz : M.1 0 46 x.toNat = 6 := hz
    exact st250 (by omega) _ _ ea eb
  · have hz : M.1 0 46 x.toNat = 7 := hz
    exact st271 (by omega) _ _ ea eb
  · have hz : M.1 0 46 x.toNat = 8 := hz
    exact st293 (by omega) _ _ ea eb
