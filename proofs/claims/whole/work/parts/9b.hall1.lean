/-! halls: the class does lines -/
def gX (S : Nat → Nat → Nat → Prop) (M M' : Am_M) : Prop := ∀ e p k, ¬ S e p k → M'.1 e p k = M.1 e p k
theorem gX.rf {S : Nat → Nat → Nat → Prop} {M : Am_M} : gX S M M := fun _ _ _ _ => rfl
theorem gX.tr {S : Nat → Nat → Nat → Prop} {M M' M'' : Am_M} (h : gX S M M') (h' : gX S M' M'') : gX S M M'' := fun e p k hn => (h' e p k hn).trans (h e p k hn)
theorem gX.wk {S S' : Nat → Nat → Nat → Prop} {M M' : Am_M} (h : gX S M M') (hs : ∀ e p k, S e p k → S' e p k) : gX S' M M' := fun e p k hn => h e p k (fun z => hn (hs e p k z))
theorem gX.set {S : Nat → Nat → Nat → Prop} {M M' : Am_M} {e p k : Nat} {v : Int} (h : gX S M M') (hp : S e p k) : gX S M (am_set M' e p k v) := fun e' p' k' hn => by
  rw [set_at (fun z => by obtain ⟨rfl, rfl, rfl⟩ := z; exact hn hp)]
  exact h e' p' k' hn
def hS (e p k : Nat) : Prop := (e = 9 ∧ 1 ≤ p ∧ p ≤ 5) ∨ (e = 0 ∧ ((p = 18 ∧ (k = 3 ∨ k = 4)) ∨ p = 19 ∨ p = 20))
def cH (M : Am_M) (s : Hs) : Prop := (M.1 9 1 4 = s.1.1 ∧ M.1 0 18 3 = s.1.2.1 ∧ M.1 0 18 4 = s.1.2.2) ∧ (∀ i, i < s.1.1 → M.1 9 2 i = s.2 0 i ∧ M.1 9 3 i = s.2 1 i ∧ M.1 9 4 i = s.2 2 i ∧ M.1 9 5 i = s.2 3 i) ∧ (∀ m, m < s.1.2.1 → M.1 0 19 m = s.2 4 m) ∧ (∀ k, k < 30 → M.1 0 20 k = s.2 5 k)
theorem c_nbOf {Γ : Am_G} {d j i : Nat} {x y : Int} {M : Am_M} (hx : x = j) (hy : y = i) (hj : j < 12) (hi : i < 3) : am_Ev Γ (d + 1) n_Text_numberOf [.inr (.inr (0, 14)), .inl x, .inl y] M (fun r M' => r = some (.inl (M.1 0 17 (j * 3 + i))) ∧ M' = M) := by
  subst hx
  subst hy
  refine am_ev_of (by decide) (am_le rfl) (am_go 20 [] (by decide) ?_)
  refine And.intro ⟨by omega, by omega⟩ ?_
  refine ⟨congrArg (fun z => some (Sum.inl (M.1 0 17 z))) ?_, rfl⟩
  omega
theorem c_leave {Γ : Am_G} {d : Nat} {M : Am_M} : am_Ev Γ (d + 1) n_Hall_leave [.inr (.inr (0, 18))] M (fun r M' => r = none ∧ gX hS M M' ∧ (M'.1 9 1 4 = 0 ∧ M'.1 0 18 3 = 0 ∧ M'.1 0 18 4 = 2) ∧ ∀ k, k < 30 → M'.1 0 20 k = 0) := by
  have loop : ∀ (k i : Nat) (M1 : Am_M), i + k = 30 → gX hS M M1 → (M1.1 9 1 4 = 0 ∧ M1.1 0 18 3 = 0 ∧ M1.1 0 18 4 = 2) → (∀ j, j < i → M1.1 0 20 j = 0) → am_At Γ (d + 1) n_Hall_leave 20 [some (.inr (.inr (0, 18))), some (.inl (i : Int))] [] M1 (fun r M' => r = none ∧ gX hS M M' ∧ (M'.1 9 1 4 = 0 ∧ M'.1 0 18 3 = 0 ∧ M'.1 0 18 4 = 2) ∧ ∀ k, k < 30 → M'.1 0 20 k = 0) := by
    intro k
    induction k with
    | zero =>
      intro i M1 hi hX h1 h2
      have : i = 30 := by omega
      subst this
      refine am_go 60 [20] (by decide) ?_
      refine And.intro ⟨⟨(by first | omega | (dsimp only [am_own]; omega)), (by first | omega | (dsimp only [am_own]; omega))⟩, ⟨(by first | omega | (dsimp only [am_own]; omega)), (by first | omega | (dsimp only [am_own]; omega))⟩⟩ (And.intro (fun h => ?_) (fun h => ⟨rfl, hX, h1, h2⟩))
      exfalso; omega
    | succ k ih =>
      intro i M1 hi hX h1 h2
      refine am_go 60 [20] (by decide) ?_
      refine And.intro ⟨⟨(by first | omega | (dsimp only [am_own]; omega)), (by first | omega | (dsimp only [am_own]; omega))⟩, ⟨(by first | omega | (dsimp only [am_own]; omega)), (by first | omega | (dsimp only [am_own]; omega))⟩⟩ (And.intro (fun h => ?_) (fun h => ?_))
      rotate_left
      · exfalso; omega
      refine And.intro ⟨by omega, by omega⟩ ?_
      refine ih (i + 1) (am_set M1 0 20 i 0) (by omega) (hX.set (Or.inr ⟨rfl, Or.inr (Or.inr rfl)⟩)) ?_ (fun j hj => ?_)
      · rw [set_p (by decide), set_p (by decide), set_p (by decide)]; exact h1
      · by_cases q : j = i
        · rw [q]; exact set_eq
        · rw [set_k q]; exact h2 j (by omega)
  refine am_ev_of (by decide) (am_le rfl) (am_go 60 [20] (by decide) ?_)
  refine loop 30 0 (am_set (am_set (am_set M 9 1 4 0) 0 18 3 0) 0 18 4 2) (by omega) (((gX.rf.set (Or.inl ⟨rfl, by omega, by omega⟩)).set (Or.inr ⟨rfl, Or.inl ⟨rfl, Or.inl rfl⟩⟩)).set (Or.inr ⟨rfl, Or.inl ⟨rfl, Or.inr rfl⟩⟩)) ⟨?_, ?_, set_eq⟩ (fun j hj => absurd hj (Nat.not_lt_zero j))
  · rw [set_p (by decide), set_p (by decide)]; exact set_eq
  · rw [set_k (by decide)]; exact set_eq
def adP (M : Am_M) (n : Nat) (w a b : Int) : Am_M := am_set (am_set (am_set (am_set (am_set M 9 2 n w) 9 3 n a) 9 4 n b) 9 5 n 1) 9 1 4 ((n : Int) + 1)
theorem c_addPerson {Γ : Am_G} {d n : Nat} {w a b : Int} {M : Am_M} (hn : M.1 9 1 4 = n) (hn6 : n < 6) : am_Ev Γ (d + 1) n_Hall_addPerson [.inr (.inr (0, 18)), .inl w, .inl a, .inl b] M (fun r M' => r = none ∧ M' = adP M n w a b) := by
  refine am_ev_of (by decide) (am_le rfl) (am_go 60 [] (by decide) ?_)
  refine And.intro ⟨(show am_R (M.1 9 1 4) from ⟨by omega, by omega⟩), ⟨(by first | omega | (dsimp only [am_own]; omega)), (by first | omega | (dsimp only [am_own]; omega))⟩⟩ (And.intro (fun h => ?_) (fun h => ?_))
  rotate_left
  · exfalso
    have h : ¬ M.1 9 1 4 < 6 := h
    omega
  have hr : 0 ≤ M.1 9 1 4 ∧ M.1 9 1 4 < 6 := ⟨by omega, by omega⟩
  refine And.intro hr (And.intro hr (And.intro hr (And.intro hr ?_)))
  refine ⟨rfl, ?_⟩
  have e1 : (am_set (am_set (am_set (am_set M 9 2 (M.1 9 1 4).toNat w) 9 3 (M.1 9 1 4).toNat a) 9 4 (M.1 9 1 4).toNat b) 9 5 (M.1 9 1 4).toNat 1).1 9 1 4 = M.1 9 1 4 := by
    rw [set_p (by decide), set_p (by decide), set_p (by decide), set_p (by decide)]
  show am_set (am_set (am_set (am_set (am_set M 9 2 (M.1 9 1 4).toNat w) 9 3 (M.1 9 1 4).toNat a) 9 4 (M.1 9 1 4).toNat b) 9 5 (M.1 9 1 4).toNat 1) 9 1 4 ((am_set (am_set (am_set (am_set M 9 2 (M.1 9 1 4).toNat w) 9 3 (M.1 9 1 4).toNat a) 9 4 (M.1 9 1 4).toNat b) 9 5 (M.1 9 1 4).toNat 1).1 9 1 4 + 1) = _
  rw [e1, hn]
  rfl
theorem c_addMatter {Γ : Am_G} {d mt : Nat} {a : Int} {M : Am_M} (hm : M.1 0 18 3 = mt) (hm5 : mt < 5) : am_Ev Γ (d + 1) n_Hall_addMatter [.inr (.inr (0, 18)), .inl a] M (fun r M' => r = none ∧ M' = am_set (am_set M 0 19 mt a) 0 18 3 ((mt : Int) + 1)) := by
  refine am_ev_of (by decide) (am_le rfl) (am_go 60 [] (by decide) ?_)
  refine And.intro ⟨(show am_R (M.1 0 18 3) from ⟨by omega, by omega⟩), ⟨(by first | omega | (dsimp only [am_own]; omega)), (by first | omega | (dsimp only [am_own]; omega))⟩⟩ (And.intro (fun h => ?_) (fun h => ?_))
  rotate_left
  · exfalso
    have h : ¬ M.1 0 18 3 < 5 := h
    omega
  refine And.intro (show 0 ≤ M.1 0 18 3 ∧ M.1 0 18 3 < 5 from ⟨by omega, by omega⟩) ?_
  refine ⟨rfl, ?_⟩
  have e1 : (am_set M 0 19 (M.1 0 18 3).toNat a).1 0 18 3 = M.1 0 18 3 := set_p (by decide)
  show am_set (am_set M 0 19 (M.1 0 18 3).toNat a) 0 18 3 ((am_set M 0 19 (M.1 0 18 3).toNat a).1 0 18 3 + 1) = _
  rw [e1, hm]
  rfl
theorem c_apply {Γ : Am_G} {d j : Nat} {M : Am_M} {s : Hs} {w : Int} (hj : j < 12) (h : cH M s) (hIs : hI s) (hw : M.1 0 16 j = w) (hF : lnF w (M.1 0 17 (j * 3 + 0)) (M.1 0 17 (j * 3 + 1)) (M.1 0 17 (j * 3 + 2)) s.1.1 s.1.2.1) : am_Ev Γ (d + 3) n_Hall_apply [.inr (.inr (0, 18)), .inr (.inr (0, 14)), .inl (j : Int)] M (fun r M' => r = none ∧ gX hS M M' ∧ cH M' (hSt w (M.1 0 17 (j * 3 + 0)) (M.1 0 17 (j * 3 + 1)) (M.1 0 17 (j * 3 + 2)) s)) := by
  refine am_ev_of (by decide) (am_le rfl) (am_go 60 [] (by decide) ?_)
  refine am_by (c_nbOf (d := d) (j := j) (i := 0) rfl rfl hj (by omega)) (by omega) ?_
  rintro r M1 ⟨rfl, rfl⟩
  refine am_by (c_nbOf (d := d) (j := j) (i := 1) rfl rfl hj (by omega)) (by omega) ?_
  rintro r M2 ⟨rfl, rfl⟩
  refine am_by (c_nbOf (d := d) (j := j) (i := 2) rfl rfl hj (by omega)) (by omega) ?_
  rintro r M3 ⟨rfl, rfl⟩
  generalize M3.1 0 17 (j * 3 + 0) = a at *
  generalize M3.1 0 17 (j * 3 + 1) = b at *
  generalize M3.1 0 17 (j * 3 + 2) = c at *
  refine And.intro ⟨by omega, by omega⟩ ?_
  have hI2 := hIs
  obtain ⟨⟨h1, h2, h3⟩, h4, h5, h6⟩ := h
  obtain ⟨i1, i2, i3, i4, i5⟩ := hIs
  obtain ⟨⟨n, mt, ho⟩, P⟩ := s
  obtain ⟨f0, f1, f2, f3, f4, f5⟩ := hF
  dsimp only at *
  have ex : M3.1 0 16 ((j : Int)).toNat = w := hw
  have pers : w ≤ 3 → gX hS M3 (adP M3 n w a b) ∧ cH (adP M3 n w a b) (hSt w a b c ((n, mt, ho), P)) := by
    intro q
    have g := f1 q
    have e : hSt w a b c ((n, mt, ho), P) = ((n + 1, mt, ho), hU (hU (hU (hU P 0 n w) 1 n a) 2 n b) 3 n 1) := by
      unfold hSt
      rw [if_neg (by omega), if_neg (by omega), if_neg (by omega), if_neg (by omega), if_neg (by omega), if_neg (by omega)]
    rw [e]
    refine ⟨(((((gX.rf.set (Or.inl ⟨rfl, by omega, by omega⟩)).set (Or.inl ⟨rfl, by omega, by omega⟩)).set (Or.inl ⟨rfl, by omega, by omega⟩)).set (Or.inl ⟨rfl, by omega, by omega⟩)).set (Or.inl ⟨rfl, by omega, by omega⟩)), ⟨set_eq, ?_, ?_⟩, fun i hi => ?_, fun m hm => ?_, fun k hk => ?_⟩
    · unfold adP
      rw [set_e (by decide), set_e (by decide), set_e (by decide), set_e (by decide), set_e (by decide)]; exact h2
    · unfold adP
      rw [set_e (by decide), set_e (by decide), set_e (by decide), set_e (by decide), set_e (by decide)]; exact h3
    · have hi : i < n + 1 := hi
      show (adP M3 n w a b).1 9 2 i = hU (hU (hU (hU P 0 n w) 1 n a) 2 n b) 3 n 1 0 i ∧ (adP M3 n w a b).1 9 3 i = hU (hU (hU (hU P 0 n w) 1 n a) 2 n b) 3 n 1 1 i ∧ (adP M3 n w a b).1 9 4 i = hU (hU (hU (hU P 0 n w) 1 n a) 2 n b) 3 n 1 2 i ∧ (adP M3 n w a b).1 9 5 i = hU (hU (hU (hU P 0 n w) 1 n a) 2 n b) 3 n 1 3 i
      unfold adP
      by_cases z : i = n
      · subst z
        refine ⟨?_, ?_, ?_, ?_⟩
        · rw [set_p (by decide), set_p (by decide), set_p (by decide), set_p (by decide), set_eq, hU_ne (by omega), hU_ne (by omega), hU_ne (by omega), hU_eq]
        · rw [set_p (by decide), set_p (by decide), set_p (by decide), set_eq, hU_ne (by omega), hU_ne (by omega), hU_eq]
        · rw [set_p (by decide), set_p (by decide), set_eq, hU_ne (by omega), hU_eq]
        · rw [set_p (by decide), set_eq, hU_eq]
      · have e2 : ∀ p, p ≠ 1 → (am_set (am_set (am_set (am_set (am_set M3 9 2 n w) 9 3 n a) 9 4 n b) 9 5 n 1) 9 1 4 ((n : Int) + 1)).1 9 p i = M3.1 9 p i := fun p hp => by
          rw [set_p hp, set_k z, set_k z, set_k z, set_k z]
        have e3 : ∀ c', hU (hU (hU (hU P 0 n w) 1 n a) 2 n b) 3 n 1 c' i = P c' i := fun c' => by
          rw [hU_ne (by omega), hU_ne (by omega), hU_ne (by omega), hU_ne (by omega)]
        rw [e2 2 (by decide), e2 3 (by decide), e2 4 (by decide), e2 5 (by decide), e3, e3, e3, e3]
        exact h4 i (by omega)
    · show (adP M3 n w a b).1 0 19 m = hU (hU (hU (hU P 0 n w) 1 n a) 2 n b) 3 n 1 4 m
      unfold adP
      rw [set_e (by decide), set_e (by decide), set_e (by decide), set_e (by decide), set_e (by decide), hU_ne (by omega), hU_ne (by omega), hU_ne (by omega), hU_ne (by omega)]
      exact h5 m hm
    · show (adP M3 n w a b).1 0 20 k = hU (hU (hU (hU P 0 n w) 1 n a) 2 n b) 3 n 1 5 k
      unfold adP
      rw [set_e (by decide), set_e (by decide), set_e (by decide), set_e (by decide), set_e (by decide), hU_ne (by omega), hU_ne (by omega), hU_ne (by omega), hU_ne (by omega)]
      exact h6 k hk
  have worth : ∀ v : Int, (0 ≤ a ∧ a < n) → (0 ≤ b ∧ b < mt) → gX hS M3 (am_set M3 0 20 (a * 5 + b).toNat v) ∧ cH (am_set M3 0 20 (a * 5 + b).toNat v) ((n, mt, ho), hU P 5 (a * 5 + b).toNat v) := fun v ha hb => by
    refine ⟨gX.rf.set (Or.inr ⟨rfl, Or.inr (Or.inr rfl)⟩), ⟨?_, ?_, ?_⟩, fun i hi => ?_, fun m hm => ?_, fun k hk => ?_⟩
    · rw [set_p (by decide)]; exact h1
    · rw [set_p (by decide)]; exact h2
    · rw [set_p (by decide)]; exact h3
    · rw [set_p (by decide), set_p (by decide), set_p (by decide), set_p (by decide)]
      show _ = hU P 5 (a * 5 + b).toNat v 0 i ∧ _ = hU P 5 (a * 5 + b).toNat v 1 i ∧ _ = hU P 5 (a * 5 + b).toNat v 2 i ∧ _ = hU P 5 (a * 5 + b).toNat v 3 i
      rw [hU_ne (by omega), hU_ne (by omega), hU_ne (by omega), hU_ne (by omega)]
      exact h4 i hi
    · rw [set_p (by decide)]
      show _ = hU P 5 (a * 5 + b).toNat v 4 m
      rw [hU_ne (by omega)]
      exact h5 m hm
    · show (am_set M3 0 20 (a * 5 + b).toNat v).1 0 20 k = hU P 5 (a * 5 + b).toNat v 5 k
      by_cases z : k = (a * 5 + b).toNat
      · rw [z, set_eq, hU_eq]
      · rw [set_k z, hU_ne (fun y => z y.2)]; exact h6 k hk
  refine And.intro ⟨am_Re ex ⟨by omega, by omega⟩, rfl⟩ (And.intro (fun hz => ?_) (And.intro (fun hz => ?_) (And.intro (fun hz => ?_) (And.intro (fun hz => ?_) (And.intro (fun hz => ?_) (And.intro (fun hz => ?_) (And.intro (fun hz => ?_) trivial)))))))
  · have hz : M3.1 0 16 ((j : Int)).toNat < 4 ∨ 9 < M3.1 0 16 ((j : Int)).toNat := hz
    refine And.intro ⟨by omega, by omega⟩ ?_
    have g := f1 (by omega)
    have hc := c_addPerson (Γ := Γ) (d := d) (n := n) (w := w) (a := a) (b := b) h1 (by omega)
    rw [← ex] at hc
    refine am_by hc (by omega) ?_
    rintro r M4 ⟨rfl, rfl⟩
    rw [ex]
    exact ⟨rfl, pers (by omega)⟩
  · have hz : w = 4 := ex.symm.trans hz
    have g := f2 hz
    refine am_by (c_addMatter (d := d) (mt := mt) h2 (by omega)) (by omega) ?_
    rintro r M4 ⟨rfl, rfl⟩
    have e : hSt w a b c ((n, mt, ho), P) = ((n, mt + 1, ho), hU P 4 mt a) := by
      unfold hSt
      rw [if_neg (by omega), if_pos hz]
    rw [e]
    refine ⟨rfl, (gX.rf.set (Or.inr ⟨rfl, Or.inr (Or.inl rfl)⟩)).set (Or.inr ⟨rfl, Or.inl ⟨rfl, Or.inl rfl⟩⟩), ⟨?_, ?_, ?_⟩, fun i hi => ?_, fun m hm => ?_, fun k hk => ?_⟩
    · rw [set_p (by decide), set_p (by decide)]; exact h1
    · rw [set_eq]; rfl
    · rw [set_k (by decide), set_p (by decide)]; exact h3
    · rw [set_p (by decide), set_p (by decide), set_p (by decide), set_p (by decide), set_p (by decide), set_p (by decide), set_p (by decide), set_p (by decide)]
      show _ = hU P 4 mt a 0 i ∧ _ = hU P 4 mt a 1 i ∧ _ = hU P 4 mt a 2 i ∧ _ = hU P 4 mt a 3 i
      rw [hU_ne (by omega), hU_ne (by omega), hU_ne (by omega), hU_ne (by omega)]
      exact h4 i hi
    · have hm : m < mt + 1 := hm
      show (am_set (am_set M3 0 19 mt a) 0 18 3 ((mt : Int) + 1)).1 0 19 m = hU P 4 mt a 4 m
      rw [set_p (by decide)]
      by_cases z : m = mt
      · rw [z, set_eq, hU_eq]
      · rw [set_k z, hU_ne (fun y => z y.2)]; exact h5 m (by omega)
    · rw [set_p (by decide), set_p (by decide)]
      show _ = hU P 4 mt a 5 k
      rw [hU_ne (by omega)]
      exact h6 k hk
  · have hz5 : w = 5 := ex.symm.trans hz
    clear hz
    have g := f3 (Or.inl hz5)
    refine am_by (c_place (d := d) a b) (by omega) ?_
    rintro r M4 ⟨rfl, rfl⟩
    refine And.intro ⟨by omega, by omega⟩ ?_
    have e : hSt w a b c ((n, mt, ho), P) = ((n, mt, ho), hU P 5 (a * 5 + b).toNat c) := by
      unfold hSt
      rw [if_neg (by omega), if_neg (by omega), if_pos hz5]
    rw [e]
    exact ⟨rfl, worth c g.1 g.2.1⟩
  · have hz5 : w = 6 := ex.symm.trans hz
    clear hz
    have g := f3 (Or.inr hz5)
    refine am_by (c_place (d := d) a b) (by omega) ?_
    rintro r M4 ⟨rfl, rfl⟩
    refine And.intro ⟨by omega, by omega⟩ ?_
    have e : hSt w a b c ((n, mt, ho), P) = ((n, mt, ho), hU P 5 (a * 5 + b).toNat (-c)) := by
      unfold hSt
      rw [if_neg (by omega), if_neg (by omega), if_neg (by omega), if_pos hz5]
    rw [e]
    exact ⟨rfl, worth (-c) g.1 g.2.1⟩
  · have hz : w = 7 := ex.symm.trans hz
    have g := f4 hz
    refine And.intro ⟨by omega, by omega⟩ ?_
    have e : hSt w a b c ((n, mt, ho), P) = ((n, mt, ho), hU P 3 a.toNat b) := by
      unfold hSt
      rw [if_neg (by omega), if_neg (by omega), if_neg (by omega), if_neg (by omega), if_pos hz]
    rw [e]
    show none = none ∧ gX hS M3 (am_set M3 9 5 a.toNat b) ∧ cH (am_set M3 9 5 a.toNat b) ((n, mt, ho), hU P 3 a.toNat b)
    refine ⟨rfl, gX.rf.set (Or.inl ⟨rfl, by omega, by omega⟩), ⟨?_, ?_, ?_⟩, fun i hi => ?_, fun m hm => ?_, fun k hk => ?_⟩
    · rw [set_p (by decide)]; exact h1
    · rw [set_p (by decide)]; exact h2
    · rw [set_p (by decide)]; exact h3
    · rw [set_p (by decide), set_p (by decide), set_p (by decide)]
      show _ = hU P 3 a.toNat b 0 i ∧ _ = hU P 3 a.toNat b 1 i ∧ _ = hU P 3 a.toNat b 2 i ∧ _ = hU P 3 a.toNat b 3 i
      have k4 := h4 i hi
      refine ⟨?_, ?_, ?_, ?_⟩
      · rw [hU_ne (by omega)]; exact k4.1
      · rw [hU_ne (by omega)]; exact k4.2.1
      · rw [hU_ne (by omega)]; exact k4.2.2.1
      · by_cases z : i = a.toNat
        · rw [z, set_eq, hU_eq]
        · rw [set_k z, hU_ne (fun y => z y.2)]; exact k4.2.2.2
    · rw [set_p (by decide)]
      show _ = hU P 3 a.toNat b 4 m
      rw [hU_ne (by omega)]
      exact h5 m hm
    · rw [set_p (by decide)]
      show _ = hU P 3 a.toNat b 5 k
      rw [hU_ne (by omega)]
      exact h6 k hk
  · have hz : w = 8 := ex.symm.trans hz
    have e : hSt w a b c ((n, mt, ho), P) = ((n, mt, a), P) := by
      unfold hSt
      rw [if_neg (by omega), if_neg (by omega), if_neg (by omega), if_neg (by omega), if_neg (by omega), if_pos hz]
    rw [e]
    show none = none ∧ gX hS M3 (am_set M3 0 18 4 a) ∧ cH (am_set M3 0 18 4 a) ((n, mt, a), P)
    refine ⟨rfl, gX.rf.set (Or.inr ⟨rfl, Or.inl ⟨rfl, Or.inr rfl⟩⟩), ⟨?_, ?_, set_eq⟩, fun i hi => ?_, fun m hm => ?_, fun k hk => ?_⟩
    · rw [set_p (by decide)]; exact h1
    · rw [set_k (by decide)]; exact h2
    · rw [set_p (by decide), set_p (by decide), set_p (by decide), set_p (by decide)]; exact h4 i hi
    · rw [set_p (by decide)]; exact h5 m hm
    · rw [set_p (by decide)]; exact h6 k hk
  · have hz : w = 9 := ex.symm.trans hz
    refine am_by (c_leave (d := d)) (by omega) ?_
    rintro r M4 ⟨rfl, hX, g1, g2⟩
    have e : hSt w a b c ((n, mt, ho), P) = ((0, 0, 2), fun c' k' => if c' = 5 then 0 else P c' k') := by
      unfold hSt
      rw [if_pos hz]
    rw [e]
    exact ⟨rfl, hX, g1, fun i hi => absurd hi (Nat.not_lt_zero i), fun i hi => absurd hi (Nat.not_lt_zero i), g2⟩
