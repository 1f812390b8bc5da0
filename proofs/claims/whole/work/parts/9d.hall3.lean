/-! halls: an evening begins -/
theorem gX.cpy {S : Nat → Nat → Nat → Prop} {M M' : Am_M} {e1 p1 e2 p2 n : Nat} (h : gX S M M') (hp : ∀ k, k < n → S e2 p2 k) : gX S M (am_cpy M' e1 p1 e2 p2 n) := fun e p k hn => by
  rw [← h e p k hn]
  unfold am_cpy
  dsimp only
  rw [if_neg]
  rintro ⟨rfl, rfl, hk⟩
  exact hn (hp k hk)
def ebG (M M' : Am_M) : Prop := (M'.1 0 0 6 = M.1 0 18 3 ∧ M'.1 0 0 7 = 0 ∧ M'.1 0 1 4 = M.1 9 1 4) ∧ (∀ i, i < 6 → M'.1 0 2 i = M.1 9 2 i ∧ M'.1 0 3 i = M.1 9 3 i ∧ M'.1 0 4 i = M.1 9 4 i ∧ M'.1 0 5 i = M.1 9 5 i)
def ebF (e p _k : Nat) : Prop := e = 0 ∧ p ≤ 8
theorem ebG.fr {M M1 M2 : Am_M} (h : ebG M M1) (h2 : ∀ p k, p ≤ 5 → M2.1 0 p k = M1.1 0 p k) : ebG M M2 := by
  obtain ⟨⟨a1, a2, a3⟩, b⟩ := h
  refine ⟨⟨(h2 0 6 (by omega)).trans a1, (h2 0 7 (by omega)).trans a2, (h2 1 4 (by omega)).trans a3⟩, fun i hi => ?_⟩
  rw [h2 2 i (by omega), h2 3 i (by omega), h2 4 i (by omega), h2 5 i (by omega)]
  exact b i hi
theorem c_evBegin {Γ : Am_G} {d : Nat} {M : Am_M} : am_Ev Γ (d + 2) n_Evening_begin [.inr (.inr (0, 0)), .inr (.inr (0, 18))] M (fun r M' => r = none ∧ gX ebF M M' ∧ ebG M M' ∧ (∀ i, i < 6 → M'.1 0 7 i = M.1 9 3 i) ∧ (∀ k : Nat, k < 5 → M'.1 0 6 k = k) ∧ ∀ k, k < 30 → M'.1 0 8 k = 0) := by
  have told : ∀ (k i : Nat) (M1 : Am_M), i + k = 30 → gX ebF M M1 → ebG M M1 → (∀ i, i < 6 → M1.1 0 7 i = M.1 9 3 i) → (∀ k : Nat, k < 5 → M1.1 0 6 k = k) → (∀ j, j < i → M1.1 0 8 j = 0) → am_At Γ (d + 2) n_Evening_begin 64 [some (.inr (.inr (0, 0))), some (.inr (.inr (0, 18))), some (.inl (i : Int))] [] M1 (fun r M' => r = none ∧ gX ebF M M' ∧ ebG M M' ∧ (∀ i, i < 6 → M'.1 0 7 i = M.1 9 3 i) ∧ (∀ k : Nat, k < 5 → M'.1 0 6 k = k) ∧ ∀ k, k < 30 → M'.1 0 8 k = 0) := by
    intro k
    induction k with
    | zero =>
      intro i M1 hi hX hB h7 h6 h8
      have : i = 30 := by omega
      subst this
      refine am_go 60 [64] (by decide) ?_
      refine And.intro ⟨⟨(by first | omega | (dsimp only [am_own]; omega)), (by first | omega | (dsimp only [am_own]; omega))⟩, ⟨(by first | omega | (dsimp only [am_own]; omega)), (by first | omega | (dsimp only [am_own]; omega))⟩⟩ (And.intro (fun h => ?_) (fun h => ⟨rfl, hX, hB, h7, h6, h8⟩))
      exfalso; omega
    | succ k ih =>
      intro i M1 hi hX hB h7 h6 h8
      refine am_go 60 [64] (by decide) ?_
      refine And.intro ⟨⟨(by first | omega | (dsimp only [am_own]; omega)), (by first | omega | (dsimp only [am_own]; omega))⟩, ⟨(by first | omega | (dsimp only [am_own]; omega)), (by first | omega | (dsimp only [am_own]; omega))⟩⟩ (And.intro (fun h => ?_) (fun h => ?_))
      rotate_left
      · exfalso; omega
      refine And.intro ⟨by omega, by omega⟩ ?_
      refine ih (i + 1) (am_set M1 0 8 i 0) (by omega) (hX.set ⟨rfl, by omega⟩) (hB.fr (fun p k hp => set_p (by omega))) (fun i hi => ?_) (fun k hk => ?_) (fun j hj => ?_)
      · rw [set_p (by decide)]; exact h7 i hi
      · rw [set_p (by decide)]; exact h6 k hk
      · by_cases q : j = i
        · rw [q]; exact set_eq
        · rw [set_k q]; exact h8 j (by omega)
  have order : ∀ (k i : Nat) (M1 : Am_M), i + k = 5 → gX ebF M M1 → ebG M M1 → (∀ j : Nat, j < i → M1.1 0 6 j = j) → am_At Γ (d + 2) n_Evening_begin 26 [some (.inr (.inr (0, 0))), some (.inr (.inr (0, 18))), some (.inl (i : Int))] [] M1 (fun r M' => r = none ∧ gX ebF M M' ∧ ebG M M' ∧ (∀ i, i < 6 → M'.1 0 7 i = M.1 9 3 i) ∧ (∀ k : Nat, k < 5 → M'.1 0 6 k = k) ∧ ∀ k, k < 30 → M'.1 0 8 k = 0) := by
    intro k
    induction k with
    | zero =>
      intro i M1 hi hX hB h6
      have : i = 5 := by omega
      subst this
      refine am_go 60 [26, 64] (by decide) ?_
      refine And.intro ⟨⟨(by first | omega | (dsimp only [am_own]; omega)), (by first | omega | (dsimp only [am_own]; omega))⟩, ⟨(by first | omega | (dsimp only [am_own]; omega)), (by first | omega | (dsimp only [am_own]; omega))⟩⟩ (And.intro (fun h => ?_) (fun h => ?_))
      · exfalso; omega
      refine And.intro ⟨⟨(by first | omega | (dsimp only [am_own]; omega)), (by first | omega | (dsimp only [am_own]; omega)), (by first | omega | (dsimp only [am_own]; omega))⟩, ⟨by omega, by omega⟩, by omega, am_le rfl⟩ ?_
      refine told 30 0 (am_cpy M1 0 3 0 7 6) (by omega) (hX.cpy (fun k _ => ⟨rfl, by omega⟩)) (hB.fr (fun p k hp => cpy_p (by omega))) (fun i hi => ?_) (fun k hk => ?_) (fun j hj => absurd hj (Nat.not_lt_zero j))
      · rw [cpy_in hi]; exact (hB.2 i hi).2.1
      · rw [cpy_p (by decide)]; exact h6 k hk
    | succ k ih =>
      intro i M1 hi hX hB h6
      refine am_go 60 [26, 64] (by decide) ?_
      refine And.intro ⟨⟨(by first | omega | (dsimp only [am_own]; omega)), (by first | omega | (dsimp only [am_own]; omega))⟩, ⟨(by first | omega | (dsimp only [am_own]; omega)), (by first | omega | (dsimp only [am_own]; omega))⟩⟩ (And.intro (fun h => ?_) (fun h => ?_))
      rotate_left
      · exfalso; omega
      refine And.intro ⟨by omega, by omega⟩ ?_
      refine ih (i + 1) (am_set M1 0 6 i (i : Int)) (by omega) (hX.set ⟨rfl, by omega⟩) (hB.fr (fun p k hp => set_p (by omega))) (fun j hj => ?_)
      by_cases q : j = i
      · rw [q]; exact set_eq
      · rw [set_k q]; exact h6 j (by omega)
  refine am_ev_of (by decide) (am_le rfl) (am_go 60 [26] (by decide) ?_)
  refine am_by (c_ppCopy (d := d) (e := 0) (e2 := 9) (by decide)) (by omega) ?_
  rintro r M1 ⟨rfl, c1, c2, c3⟩
  refine order 5 0 (am_set (am_set M1 0 0 6 (M1.1 0 18 3)) 0 0 7 0) (by omega) (((show gX ebF M M1 from fun e p k hn => c1.2 e p k (fun z => hn ⟨z.1, by omega⟩)).set ⟨rfl, by omega⟩).set ⟨rfl, by omega⟩) ⟨⟨?_, set_eq, ?_⟩, fun i hi => ?_⟩ (fun j hj => absurd hj (Nat.not_lt_zero j))
  · rw [set_k (by decide), set_eq]; exact c1.2 0 18 3 (by omega)
  · rw [set_p (by decide), set_p (by decide)]; exact c2
  · rw [set_p (by decide), set_p (by decide), set_p (by decide), set_p (by decide), set_p (by decide), set_p (by decide), set_p (by decide), set_p (by decide)]
    exact c3 i hi
theorem c_beginEvening {Γ : Am_G} {d : Nat} {M : Am_M} : am_Ev Γ (d + 3) n_R_beginEvening [.inr (.inr (0, 11))] M (fun r M' => r = none ∧ gX (fun e p k => e = 0 ∧ (p ≤ 8 ∨ p = 13 ∨ (p = 18 ∧ k = 9))) M M' ∧ ebG M M' ∧ (∀ i, i < 6 → M'.1 0 7 i = M.1 9 3 i) ∧ (∀ k : Nat, k < 5 → M'.1 0 6 k = k) ∧ (∀ k, k < 30 → M'.1 0 8 k = 0) ∧ M'.1 0 18 9 = 0 ∧ ∀ k, k < 2 → M'.1 0 13 k = 0) := by
  refine am_ev_of (by decide) (am_le rfl) (am_go 60 [21] (by decide) ?_)
  refine am_by (c_evBegin (d := d)) (by omega) ?_
  rintro r M1 ⟨rfl, hX, hB, h7, h6, h8⟩
  refine am_by (c_clearRows (d := d)) (by omega) ?_
  rintro r M2 ⟨rfl, rfl⟩
  have hX2 : gX (fun e p k => e = 0 ∧ (p ≤ 8 ∨ p = 13 ∨ (p = 18 ∧ k = 9))) M (am_set M1 0 18 9 0) := (hX.wk (fun e p k h => ⟨h.1, Or.inl h.2⟩)).set ⟨rfl, Or.inr (Or.inr ⟨rfl, rfl⟩)⟩
  have lo : ∀ p k, p ≤ 8 → (am_set M1 0 18 9 0).1 0 p k = M1.1 0 p k := fun p k hp => set_p (by omega)
  have e9 : (am_set M1 0 18 9 0).1 0 18 9 = 0 := set_eq
  have hB2 := hB.fr (fun p k hp => lo p k (by omega))
  have g7 : ∀ i, i < 6 → (am_set M1 0 18 9 0).1 0 7 i = M.1 9 3 i := fun i hi => (lo 7 i (by omega)).trans (h7 i hi)
  have g6 : ∀ k : Nat, k < 5 → (am_set M1 0 18 9 0).1 0 6 k = k := fun k hk => (lo 6 k (by omega)).trans (h6 k hk)
  have g8 : ∀ k, k < 30 → (am_set M1 0 18 9 0).1 0 8 k = 0 := fun k hk => (lo 8 k (by omega)).trans (h8 k hk)
  generalize am_set M1 0 18 9 0 = M2 at *
  have low : ∀ (M3 : Am_M), (∀ p k, p ≠ 13 → M3.1 0 p k = M2.1 0 p k) → ebG M M3 ∧ (∀ i, i < 6 → M3.1 0 7 i = M.1 9 3 i) ∧ (∀ k : Nat, k < 5 → M3.1 0 6 k = k) ∧ (∀ k, k < 30 → M3.1 0 8 k = 0) ∧ M3.1 0 18 9 = 0 := fun M3 h3 => ⟨hB2.fr (fun p k hp => h3 p k (by omega)), fun i hi => (h3 7 i (by omega)).trans (g7 i hi), fun k hk => (h3 6 k (by omega)).trans (g6 k hk), fun k hk => (h3 8 k (by omega)).trans (g8 k hk), (h3 18 9 (by omega)).trans e9⟩
  refine am_go 60 [] (by decide) ?_
  refine And.intro ⟨⟨(by first | omega | (dsimp only [am_own]; omega)), (by first | omega | (dsimp only [am_own]; omega))⟩, ⟨(by first | omega | (dsimp only [am_own]; omega)), (by first | omega | (dsimp only [am_own]; omega))⟩⟩ (And.intro (fun _ => ?_) (fun h => absurd (show (0 : Int) < 2 by omega) h))
  refine And.intro ⟨⟨(by first | omega | (dsimp only [am_own]; omega)), (by first | omega | (dsimp only [am_own]; omega))⟩, Or.inl rfl⟩ ?_
  refine And.intro ⟨⟨(by first | omega | (dsimp only [am_own]; omega)), (by first | omega | (dsimp only [am_own]; omega))⟩, ⟨(by first | omega | (dsimp only [am_own]; omega)), (by first | omega | (dsimp only [am_own]; omega))⟩⟩ (And.intro (fun _ => ?_) (fun h => absurd (show (0 : Int) + 1 < 2 by omega) h))
  refine And.intro ⟨⟨(by first | omega | (dsimp only [am_own]; omega)), (by first | omega | (dsimp only [am_own]; omega))⟩, Or.inl rfl⟩ ?_
  refine And.intro ⟨⟨(by first | omega | (dsimp only [am_own]; omega)), (by first | omega | (dsimp only [am_own]; omega))⟩, ⟨(by first | omega | (dsimp only [am_own]; omega)), (by first | omega | (dsimp only [am_own]; omega))⟩⟩ (And.intro (fun h => absurd h (show ¬ (0 : Int) + 1 + 1 < 2 by omega)) (fun _ => ?_))
  obtain ⟨l1, l2, l3, l4, l5⟩ := low (am_set (am_set M2 0 13 0 0) 0 13 1 0) (fun p k hp => by rw [set_p hp, set_p hp])
  refine ⟨rfl, (hX2.set ⟨rfl, Or.inr (Or.inl rfl)⟩).set ⟨rfl, Or.inr (Or.inl rfl)⟩, l1, l2, l3, l4, l5, fun k hk => ?_⟩
  show (am_set (am_set M2 0 13 0 0) 0 13 1 0).1 0 13 k = 0
  by_cases q : k = 1
  · rw [q]; exact set_eq
  · rw [set_k q, show k = 0 by omega]; exact set_eq
def mbK (M M' : Am_M) : Prop := gX (fun e p _ => e = 0 ∧ p = 47) M M' ∧ M'.1 0 47 0 = 0 ∧ (∀ k : Nat, k < 5 → M'.1 0 47 (1 + k) = k) ∧ (∀ i, i < 6 → M'.1 0 47 (6 + i) = M.1 0 42 (i * 4 + 1)) ∧ ∀ k, 12 ≤ k → k < 92 → M'.1 0 47 k = 0
theorem c_M_begin {Γ : Am_G} {d : Nat} {M : Am_M} : am_Ev Γ (d + 1) n_M_begin [.inr (.inr (0, 41))] M (fun r M' => r = none ∧ mbK M M') := by
  have l3 : ∀ (k i : Nat) (M1 : Am_M), i + k = 92 → 12 ≤ i → gX (fun e p _ => e = 0 ∧ p = 47) M M1 → M1.1 0 47 0 = 0 → (∀ k : Nat, k < 5 → M1.1 0 47 (1 + k) = k) → (∀ i, i < 6 → M1.1 0 47 (6 + i) = M.1 0 42 (i * 4 + 1)) → (∀ j, 12 ≤ j → j < i → M1.1 0 47 j = 0) → am_At Γ (d + 1) n_M_begin 65 [some (.inr (.inr (0, 41))), some (.inl (i : Int))] [] M1 (fun r M' => r = none ∧ mbK M M') := by
    intro k
    induction k with
    | zero =>
      intro i M1 hi h12 hX h0 h1 h6 hz
      have : i = 92 := by omega
      subst this
      refine am_go 60 [65] (by decide) ?_
      refine And.intro ⟨⟨(by first | omega | (dsimp only [am_own]; omega)), (by first | omega | (dsimp only [am_own]; omega))⟩, ⟨(by first | omega | (dsimp only [am_own]; omega)), (by first | omega | (dsimp only [am_own]; omega))⟩⟩ (And.intro (fun h => ?_) (fun h => ⟨rfl, hX, h0, h1, h6, hz⟩))
      exfalso; omega
    | succ k ih =>
      intro i M1 hi h12 hX h0 h1 h6 hz
      refine am_go 60 [65] (by decide) ?_
      refine And.intro ⟨⟨(by first | omega | (dsimp only [am_own]; omega)), (by first | omega | (dsimp only [am_own]; omega))⟩, ⟨(by first | omega | (dsimp only [am_own]; omega)), (by first | omega | (dsimp only [am_own]; omega))⟩⟩ (And.intro (fun h => ?_) (fun h => ?_))
      rotate_left
      · exfalso; omega
      refine And.intro ⟨by omega, by omega⟩ ?_
      refine ih (i + 1) (am_set M1 0 47 i 0) (by omega) (by omega) (hX.set ⟨rfl, rfl⟩) ?_ (fun k hk => ?_) (fun k hk => ?_) (fun j hj hj2 => ?_)
      · rw [set_k (by omega)]; exact h0
      · rw [set_k (by omega)]; exact h1 k hk
      · rw [set_k (by omega)]; exact h6 k hk
      · by_cases q : j = i
        · rw [q]; exact set_eq
        · rw [set_k q]; exact hz j hj (by omega)
  have l2 : ∀ (k i : Nat) (M1 : Am_M), i + k = 6 → gX (fun e p _ => e = 0 ∧ p = 47) M M1 → M1.1 0 47 0 = 0 → (∀ k : Nat, k < 5 → M1.1 0 47 (1 + k) = k) → (∀ j, j < i → M1.1 0 47 (6 + j) = M.1 0 42 (j * 4 + 1)) → am_At Γ (d + 1) n_M_begin 31 [some (.inr (.inr (0, 41))), some (.inl (i : Int))] [] M1 (fun r M' => r = none ∧ mbK M M') := by
    intro k
    induction k with
    | zero =>
      intro i M1 hi hX h0 h1 h6
      have : i = 6 := by omega
      subst this
      refine am_go 60 [31, 65] (by decide) ?_
      refine And.intro ⟨⟨(by first | omega | (dsimp only [am_own]; omega)), (by first | omega | (dsimp only [am_own]; omega))⟩, ⟨(by first | omega | (dsimp only [am_own]; omega)), (by first | omega | (dsimp only [am_own]; omega))⟩⟩ (And.intro (fun h => ?_) (fun h => ?_))
      · exfalso; omega
      · exact l3 80 12 M1 (by omega) (by omega) hX h0 h1 h6 (fun j a b => by omega)
    | succ k ih =>
      intro i M1 hi hX h0 h1 h6
      refine am_go 60 [31, 65] (by decide) ?_
      refine And.intro ⟨⟨(by first | omega | (dsimp only [am_own]; omega)), (by first | omega | (dsimp only [am_own]; omega))⟩, ⟨(by first | omega | (dsimp only [am_own]; omega)), (by first | omega | (dsimp only [am_own]; omega))⟩⟩ (And.intro (fun h => ?_) (fun h => ?_))
      rotate_left
      · exfalso; omega
      refine And.intro ⟨by omega, by omega⟩ ?_
      refine And.intro ⟨by omega, by omega⟩ ?_
      have ei : (6 + (i : Int)).toNat = 6 + i := by omega
      have ev : M1.1 0 42 (4 * (i : Int) + 1).toNat = M.1 0 42 (i * 4 + 1) := by
        rw [show (4 * (i : Int) + 1).toNat = i * 4 + 1 by omega]
        exact hX 0 42 _ (by omega)
      have go := ih (i + 1) (am_set M1 0 47 (6 + i) (M1.1 0 42 (4 * (i : Int) + 1).toNat)) (by omega) (hX.set ⟨rfl, rfl⟩) (by rw [set_k (by omega)]; exact h0) (fun k hk => by rw [set_k (by omega)]; exact h1 k hk) (fun j hj => by
        by_cases q : j = i
        · rw [q, set_eq]; exact ev
        · rw [set_k (by omega)]; exact h6 j (by omega))
      rw [← ei] at go
      exact go
  have l1 : ∀ (k i : Nat) (M1 : Am_M), i + k = 5 → gX (fun e p _ => e = 0 ∧ p = 47) M M1 → M1.1 0 47 0 = 0 → (∀ j : Nat, j < i → M1.1 0 47 (1 + j) = j) → am_At Γ (d + 1) n_M_begin 9 [some (.inr (.inr (0, 41))), some (.inl (i : Int))] [] M1 (fun r M' => r = none ∧ mbK M M') := by
    intro k
    induction k with
    | zero =>
      intro i M1 hi hX h0 h1
      have : i = 5 := by omega
      subst this
      refine am_go 60 [9, 31] (by decide) ?_
      refine And.intro ⟨⟨(by first | omega | (dsimp only [am_own]; omega)), (by first | omega | (dsimp only [am_own]; omega))⟩, ⟨(by first | omega | (dsimp only [am_own]; omega)), (by first | omega | (dsimp only [am_own]; omega))⟩⟩ (And.intro (fun h => ?_) (fun h => ?_))
      · exfalso; omega
      · exact l2 6 0 M1 (by omega) hX h0 h1 (fun j a => absurd a (Nat.not_lt_zero j))
    | succ k ih =>
      intro i M1 hi hX h0 h1
      refine am_go 60 [9, 31] (by decide) ?_
      refine And.intro ⟨⟨(by first | omega | (dsimp only [am_own]; omega)), (by first | omega | (dsimp only [am_own]; omega))⟩, ⟨(by first | omega | (dsimp only [am_own]; omega)), (by first | omega | (dsimp only [am_own]; omega))⟩⟩ (And.intro (fun h => ?_) (fun h => ?_))
      rotate_left
      · exfalso; omega
      refine And.intro ⟨by omega, by omega⟩ ?_
      have ei : (1 + (i : Int)).toNat = 1 + i := by omega
      have go := ih (i + 1) (am_set M1 0 47 (1 + i) (i : Int)) (by omega) (hX.set ⟨rfl, rfl⟩) (by rw [set_k (by omega)]; exact h0) (fun j hj => by
        by_cases q : j = i
        · rw [q, set_eq]
        · rw [set_k (by omega)]; exact h1 j (by omega))
      rw [← ei] at go
      exact go
  refine am_ev_of (by decide) (am_le rfl) (am_go 60 [9] (by decide) ?_)
  refine And.intro ⟨by omega, by omega⟩ ?_
  exact l1 5 0 (am_set M 0 47 0 0) (by omega) (gX.rf.set ⟨rfl, rfl⟩) set_eq (fun j a => absurd a (Nat.not_lt_zero j))
