/-! the class: people and evenings copied, orders -/
theorem cpy_p {M : Am_M} {e1 p1 e2 p2 n e p k : Nat} (h : p ≠ p2) : (am_cpy M e1 p1 e2 p2 n).1 e p k = M.1 e p k := by simp [am_cpy, h]
theorem cpy_e {M : Am_M} {e1 p1 e2 p2 n e p k : Nat} (h : e ≠ e2) : (am_cpy M e1 p1 e2 p2 n).1 e p k = M.1 e p k := by simp [am_cpy, h]
theorem cpy_in {M : Am_M} {e1 p1 e2 p2 n k : Nat} (h : k < n) : (am_cpy M e1 p1 e2 p2 n).1 e2 p2 k = M.1 e1 p1 k := by simp [am_cpy, h]
theorem am_same.cpy {P : Nat → Nat → Prop} {M M' : Am_M} {e1 p1 e2 p2 n : Nat} (h : am_same P M M') (hp : P e2 p2) : am_same P M (am_cpy M' e1 p1 e2 p2 n) := ⟨h.1, fun e p k hn => by
  rw [← h.2 e p k hn]
  unfold am_cpy
  dsimp only
  rw [if_neg]
  rintro ⟨rfl, rfl, -⟩
  exact hn hp⟩
def ppC (M : Am_M) (e e2 : Nat) (M' : Am_M) : Prop := am_same (fun e' p => e' = e ∧ 1 ≤ p ∧ p ≤ 5) M M' ∧ M'.1 e 1 4 = M.1 e2 1 4 ∧ (∀ k, k < 6 → M'.1 e 2 k = M.1 e2 2 k ∧ M'.1 e 3 k = M.1 e2 3 k ∧ M'.1 e 4 k = M.1 e2 4 k ∧ M'.1 e 5 k = M.1 e2 5 k)
theorem c_ppCopy {Γ : Am_G} {d : Nat} {M : Am_M} {e e2 : Nat} (hne : e ≠ e2) : am_Ev Γ (d + 1) n_People_copyFrom [.inr (.inr (e, 1)), .inr (.inr (e2, 1))] M (fun r M' => r = none ∧ ppC M e e2 M') := by
  refine am_ev_of (by decide) (am_le rfl) (am_go 60 [] (by decide) ?_)
  refine And.intro ⟨⟨(by first | omega | (dsimp only [am_own]; omega)), (by first | omega | (dsimp only [am_own]; omega)), (by first | omega | (dsimp only [am_own]; omega))⟩, ⟨by omega, by omega⟩, by omega, am_le rfl⟩ ?_
  refine And.intro ⟨⟨(by first | omega | (dsimp only [am_own]; omega)), (by first | omega | (dsimp only [am_own]; omega)), (by first | omega | (dsimp only [am_own]; omega))⟩, ⟨by omega, by omega⟩, by omega, am_le rfl⟩ ?_
  refine And.intro ⟨⟨(by first | omega | (dsimp only [am_own]; omega)), (by first | omega | (dsimp only [am_own]; omega)), (by first | omega | (dsimp only [am_own]; omega))⟩, ⟨by omega, by omega⟩, by omega, am_le rfl⟩ ?_
  refine And.intro ⟨⟨(by first | omega | (dsimp only [am_own]; omega)), (by first | omega | (dsimp only [am_own]; omega)), (by first | omega | (dsimp only [am_own]; omega))⟩, ⟨by omega, by omega⟩, by omega, am_le rfl⟩ ?_
  refine ⟨rfl, ?_⟩
  show ppC M e e2 (am_set (am_cpy (am_cpy (am_cpy (am_cpy M e2 2 e 2 6) e2 3 e 3 6) e2 4 e 4 6) e2 5 e 5 6) e 1 4 ((am_cpy (am_cpy (am_cpy (am_cpy M e2 2 e 2 6) e2 3 e 3 6) e2 4 e 4 6) e2 5 e 5 6).1 e2 1 4))
  refine ⟨((((am_same.rf.cpy ⟨rfl, by omega, by omega⟩).cpy ⟨rfl, by omega, by omega⟩).cpy ⟨rfl, by omega, by omega⟩).cpy ⟨rfl, by omega, by omega⟩).set ⟨rfl, by omega, by omega⟩, ?_, fun k hk => ⟨?_, ?_, ?_, ?_⟩⟩
  · rw [set_eq, cpy_p (by decide), cpy_p (by decide), cpy_p (by decide), cpy_p (by decide)]
  · rw [set_p (by decide), cpy_p (by decide), cpy_p (by decide), cpy_p (by decide), cpy_in hk]
  · rw [set_p (by decide), cpy_p (by decide), cpy_p (by decide), cpy_in hk, cpy_p (by decide)]
  · rw [set_p (by decide), cpy_p (by decide), cpy_in hk, cpy_p (by decide), cpy_p (by decide)]
  · rw [set_p (by decide), cpy_in hk, cpy_p (by decide), cpy_p (by decide), cpy_p (by decide)]
/-- evening e is as evening e2 was -/
def evC (M : Am_M) (e e2 : Nat) (M' : Am_M) : Prop := am_same (fun e' p => e' = e ∧ p ≤ 10) M M' ∧ (M'.1 e 0 6 = M.1 e2 0 6 ∧ M'.1 e 0 7 = M.1 e2 0 7 ∧ M'.1 e 1 4 = M.1 e2 1 4) ∧ (∀ k, k < 6 → M'.1 e 2 k = M.1 e2 2 k ∧ M'.1 e 3 k = M.1 e2 3 k ∧ M'.1 e 4 k = M.1 e2 4 k ∧ M'.1 e 5 k = M.1 e2 5 k ∧ M'.1 e 7 k = M.1 e2 7 k) ∧ (∀ k, k < 5 → M'.1 e 6 k = M.1 e2 6 k) ∧ (∀ k, k < 30 → M'.1 e 8 k = M.1 e2 8 k ∧ M'.1 e 9 k = M.1 e2 9 k) ∧ (∀ k, k < 20 → M'.1 e 10 k = M.1 e2 10 k)
theorem c_evCopy {Γ : Am_G} {d : Nat} {M : Am_M} {e e2 : Nat} (hne : e ≠ e2) : am_Ev Γ (d + 2) n_Evening_copyFrom [.inr (.inr (e, 0)), .inr (.inr (e2, 0))] M (fun r M' => r = none ∧ evC M e e2 M') := by
  refine am_ev_of (by decide) (am_le rfl) (am_go 80 [] (by decide) ?_)
  refine am_by (c_ppCopy (d := d) (e := e) (e2 := e2) hne) (by omega) ?_
  rintro r M1 ⟨rfl, c1, c2, c3⟩
  refine And.intro ⟨⟨(by first | omega | (dsimp only [am_own]; omega)), (by first | omega | (dsimp only [am_own]; omega)), (by first | omega | (dsimp only [am_own]; omega))⟩, ⟨by omega, by omega⟩, by omega, am_le rfl⟩ ?_
  refine And.intro ⟨⟨(by first | omega | (dsimp only [am_own]; omega)), (by first | omega | (dsimp only [am_own]; omega)), (by first | omega | (dsimp only [am_own]; omega))⟩, ⟨by omega, by omega⟩, by omega, am_le rfl⟩ ?_
  refine And.intro ⟨⟨(by first | omega | (dsimp only [am_own]; omega)), (by first | omega | (dsimp only [am_own]; omega)), (by first | omega | (dsimp only [am_own]; omega))⟩, ⟨by omega, by omega⟩, by omega, am_le rfl⟩ ?_
  refine And.intro ⟨⟨(by first | omega | (dsimp only [am_own]; omega)), (by first | omega | (dsimp only [am_own]; omega)), (by first | omega | (dsimp only [am_own]; omega))⟩, ⟨by omega, by omega⟩, by omega, am_le rfl⟩ ?_
  refine And.intro ⟨⟨(by first | omega | (dsimp only [am_own]; omega)), (by first | omega | (dsimp only [am_own]; omega)), (by first | omega | (dsimp only [am_own]; omega))⟩, ⟨by omega, by omega⟩, by omega, am_le rfl⟩ ?_
  refine ⟨rfl, ?_⟩
  generalize hM2 : am_cpy (am_cpy (am_cpy (am_cpy (am_cpy M1 e2 6 e 6 5) e2 7 e 7 6) e2 8 e 8 30) e2 9 e 9 30) e2 10 e 10 20 = M2
  have g : ∀ e' p k, p ≤ 5 → M2.1 e' p k = M1.1 e' p k := fun e' p k hp => by rw [← hM2, cpy_p (by omega), cpy_p (by omega), cpy_p (by omega), cpy_p (by omega), cpy_p (by omega)]
  have fe : ∀ p k, M1.1 e2 p k = M.1 e2 p k := fun p k => c1.2 e2 p k (by omega)
  show evC M e e2 (am_set (am_set (am_cpy (am_cpy (am_cpy (am_cpy (am_cpy M1 e2 6 e 6 5) e2 7 e 7 6) e2 8 e 8 30) e2 9 e 9 30) e2 10 e 10 20) e 0 6 ((am_cpy (am_cpy (am_cpy (am_cpy (am_cpy M1 e2 6 e 6 5) e2 7 e 7 6) e2 8 e 8 30) e2 9 e 9 30) e2 10 e 10 20).1 e2 0 6)) e 0 7 ((am_set (am_cpy (am_cpy (am_cpy (am_cpy (am_cpy M1 e2 6 e 6 5) e2 7 e 7 6) e2 8 e 8 30) e2 9 e 9 30) e2 10 e 10 20) e 0 6 ((am_cpy (am_cpy (am_cpy (am_cpy (am_cpy M1 e2 6 e 6 5) e2 7 e 7 6) e2 8 e 8 30) e2 9 e 9 30) e2 10 e 10 20).1 e2 0 6)).1 e2 0 7))
  rw [hM2]
  have s2 : am_same (fun e' p => e' = e ∧ p ≤ 10) M M2 := by
    rw [← hM2]
    exact (((((c1.wk (fun e' p h => ⟨h.1, by omega⟩)).cpy ⟨rfl, by omega⟩).cpy ⟨rfl, by omega⟩).cpy ⟨rfl, by omega⟩).cpy ⟨rfl, by omega⟩).cpy ⟨rfl, by omega⟩
  refine ⟨(s2.set ⟨rfl, by omega⟩).set ⟨rfl, by omega⟩, ⟨?_, ?_, ?_⟩, fun k hk => ?_, fun k hk => ?_, fun k hk => ?_, fun k hk => ?_⟩
  · rw [set_k (by decide), set_eq, g _ _ _ (by omega), fe]
  · rw [set_eq, set_e (Ne.symm hne), g _ _ _ (by omega), fe]
  · rw [set_p (by decide), set_p (by decide), g _ _ _ (by omega)]; exact c2
  · obtain ⟨a, b, c, d4⟩ := c3 k hk
    rw [set_p (by decide), set_p (by decide), set_p (by decide), set_p (by decide), set_p (by decide), set_p (by decide), set_p (by decide), set_p (by decide), set_p (by decide), set_p (by decide), g _ 2 _ (by omega), g _ 3 _ (by omega), g _ 4 _ (by omega), g _ 5 _ (by omega)]
    refine ⟨a, b, c, d4, ?_⟩
    rw [← hM2, cpy_p (by decide), cpy_p (by decide), cpy_p (by decide), cpy_in hk, cpy_p (by decide)]
    exact fe 7 k
  · rw [set_p (by decide), set_p (by decide), ← hM2, cpy_p (by decide), cpy_p (by decide), cpy_p (by decide), cpy_p (by decide), cpy_in hk]
    exact fe 6 k
  · rw [set_p (by decide), set_p (by decide), set_p (by decide), set_p (by decide), ← hM2, cpy_p (p := 8) (by decide), cpy_p (p := 8) (by decide), cpy_in hk, cpy_p (p := 8) (by decide), cpy_p (p := 8) (by decide), cpy_p (p := 9) (by decide), cpy_in hk, cpy_p (p := 9) (by decide), cpy_p (p := 9) (by decide), cpy_p (p := 9) (by decide)]
    exact ⟨fe 8 k, fe 9 k⟩
  · rw [set_p (by decide), set_p (by decide), ← hM2, cpy_in hk, cpy_p (by decide), cpy_p (by decide), cpy_p (by decide), cpy_p (by decide)]
    exact fe 10 k
/-- which of the first n places has x, if any -/
def hasI (f : Nat → Int) (x : Int) : Nat → Int
  | 0 => 0
  | n + 1 => if hasI f x n = 1 ∨ f n = x then 1 else 0
theorem hasI_01 (f : Nat → Int) (x : Int) : ∀ n, hasI f x n = 0 ∨ hasI f x n = 1
  | 0 => Or.inl rfl
  | n + 1 => by unfold hasI; split <;> simp
theorem hasI_1 {f : Nat → Int} {x : Int} : ∀ {n : Nat}, hasI f x n = 1 ↔ ∃ k, k < n ∧ f k = x
  | 0 => by simp [hasI]
  | n + 1 => by
    rw [hasI]
    constructor
    · intro h
      by_cases q : hasI f x n = 1 ∨ f n = x
      · rcases q with q | q
        · obtain ⟨k, hk, e⟩ := hasI_1.mp q
          exact ⟨k, by omega, e⟩
        · exact ⟨n, by omega, q⟩
      · rw [if_neg q] at h; omega
    · rintro ⟨k, hk, e⟩
      rw [if_pos]
      by_cases q : k = n
      · subst q; exact Or.inr e
      · exact Or.inl (hasI_1.mpr ⟨k, by omega, e⟩)
theorem c_wasPut {Γ : Am_G} {d : Nat} {M : Am_M} {e pu : Nat} {x : Int} (hp : M.1 e 0 7 = pu) (hp5 : pu ≤ 5) (hx : am_R x) (ho : ∀ k, k < pu → am_R (M.1 e 6 k)) : am_Ev Γ (d + 1) n_Evening_wasPut [.inr (.inr (e, 0)), .inl x] M (fun r M' => r = some (.inl (hasI (M.1 e 6) x pu)) ∧ M' = M) := by
  have loop : ∀ (k i : Nat), i + k = pu → (∀ j, j < i → M.1 e 6 j ≠ x) → am_At Γ (d + 1) n_Evening_wasPut 2 [some (.inr (.inr (e, 0))), some (.inl x), some (.inl (i : Int))] [] M (fun r M' => r = some (.inl (hasI (M.1 e 6) x pu)) ∧ M' = M) := by
    intro k
    induction k with
    | zero =>
      intro i hi hn
      have : i = pu := by omega
      subst this
      refine am_go 60 [2] (by decide) ?_
      refine And.intro ⟨⟨(by first | omega | (dsimp only [am_own]; omega)), (by first | omega | (dsimp only [am_own]; omega))⟩, (show am_R (M.1 e 0 7) from ⟨(by first | omega | (dsimp only [am_own]; omega)), (by first | omega | (dsimp only [am_own]; omega))⟩)⟩ (And.intro (fun h => ?_) (fun h => ?_))
      · exfalso
        have h : (i : Int) < M.1 e 0 7 := h
        omega
      · have h0 : hasI (M.1 e 6) x i = 0 := by
          rcases hasI_01 (M.1 e 6) x i with q | q
          · exact q
          · obtain ⟨k, hk, e1⟩ := hasI_1.mp q
            exact absurd e1 (hn k hk)
        rw [h0]
        exact ⟨Or.inl rfl, rfl, rfl⟩
    | succ k ih =>
      intro i hi hn
      refine am_go 60 [2] (by decide) ?_
      refine And.intro ⟨⟨(by first | omega | (dsimp only [am_own]; omega)), (by first | omega | (dsimp only [am_own]; omega))⟩, (show am_R (M.1 e 0 7) from ⟨(by first | omega | (dsimp only [am_own]; omega)), (by first | omega | (dsimp only [am_own]; omega))⟩)⟩ (And.intro (fun h => ?_) (fun h => ?_))
      · refine And.intro ⟨(by first | omega | (dsimp only [am_own]; omega)), (by first | omega | (dsimp only [am_own]; omega))⟩ ?_
        refine And.intro ⟨(show am_R (M.1 e 6 i) from ho i (by omega)), hx⟩ (And.intro (fun h1 => ?_) (fun h1 => ?_))
        · have h1 : M.1 e 6 i = x := h1
          have h0 : hasI (M.1 e 6) x pu = 1 := hasI_1.mpr ⟨i, by omega, h1⟩
          rw [h0]
          exact ⟨Or.inr rfl, rfl, rfl⟩
        · have h1 : ¬ M.1 e 6 i = x := h1
          refine ih (i + 1) (by omega) (fun j hj => ?_)
          by_cases q : j = i
          · subst q; exact h1
          · exact hn j (by omega)
      · exfalso
        have h : ¬ (i : Int) < M.1 e 0 7 := h
        omega
  refine am_ev_of (by decide) (am_le rfl) (am_go 60 [2] (by decide) ?_)
  exact loop pu 0 (by omega) (fun j hj => absurd hj (by omega))
/-- those that are to come, by bits -/
def comeL (ord : Nat → Int) : Nat → Nat → Int → Int
  | 0, _, acc => acc
  | k + 1, i, acc => comeL ord k (i + 1) (am_or acc (am_shl 1 (ord i)))
theorem c_setToCome {Γ : Am_G} {d : Nat} {M : Am_M} {e pu mt : Nat} (hp : M.1 e 0 7 = pu) (hm : M.1 e 0 6 = mt) (hpm : pu ≤ mt) (hm5 : mt ≤ 5) : am_Ev Γ (d + 1) n_Evening_setToCome [.inr (.inr (e, 0))] M (fun r M' => r = some (.inl (comeL (M.1 e 6) (mt - pu) pu 0)) ∧ M' = M) := by
  have loop : ∀ (k i : Nat) (acc : Int), i + k = mt → am_At Γ (d + 1) n_Evening_setToCome 7 [some (.inr (.inr (e, 0))), some (.inl acc), some (.inl (i : Int))] [] M (fun r M' => r = some (.inl (comeL (M.1 e 6) k i acc)) ∧ M' = M) := by
    intro k
    induction k with
    | zero =>
      intro i acc hi
      refine am_go 60 [7] (by decide) ?_
      refine And.intro ⟨⟨(by first | omega | (dsimp only [am_own]; omega)), (by first | omega | (dsimp only [am_own]; omega))⟩, (show am_R (M.1 e 0 6) from ⟨(by first | omega | (dsimp only [am_own]; omega)), (by first | omega | (dsimp only [am_own]; omega))⟩)⟩ (And.intro (fun h => ?_) (fun h => ?_))
      · exfalso
        have h : (i : Int) < M.1 e 0 6 := h
        omega
      · exact ⟨rfl, rfl⟩
    | succ k ih =>
      intro i acc hi
      refine am_go 60 [7] (by decide) ?_
      refine And.intro ⟨⟨(by first | omega | (dsimp only [am_own]; omega)), (by first | omega | (dsimp only [am_own]; omega))⟩, (show am_R (M.1 e 0 6) from ⟨(by first | omega | (dsimp only [am_own]; omega)), (by first | omega | (dsimp only [am_own]; omega))⟩)⟩ (And.intro (fun h => ?_) (fun h => ?_))
      · refine And.intro ⟨(by first | omega | (dsimp only [am_own]; omega)), (by first | omega | (dsimp only [am_own]; omega))⟩ ?_
        exact ih (i + 1) _ (by omega)
      · exfalso
        have h : ¬ (i : Int) < M.1 e 0 6 := h
        omega
  refine am_ev_of (by decide) (am_le rfl) (am_go 60 [7] (by decide) ?_)
  have h := loop (mt - pu) pu 0 (by omega)
  rw [← hp] at h
  exact h
/-- an order in which the matter at place q comes next, behind those put -/
def brO (ord : Nat → Int) (pu q : Nat) : Nat → Int := fun k => if k = pu then ord q else if pu < k ∧ k ≤ q then ord (k - 1) else ord k
theorem c_bring {Γ : Am_G} {d : Nat} {M : Am_M} {e pu mt q : Nat} {x : Int} (hp : M.1 e 0 7 = pu) (hm : M.1 e 0 6 = mt) (hm5 : mt ≤ 5) (hpq : pu ≤ q) (hq : q < mt) (hx : M.1 e 6 q = x) (hfirst : ∀ k, pu ≤ k → k < q → M.1 e 6 k ≠ x) (ho : ∀ k, k < mt → am_R (M.1 e 6 k)) : am_Ev Γ (d + 1) n_Evening_bring [.inr (.inr (e, 0)), .inl x] M (fun r M' => r = none ∧ am_same (fun e' p => e' = e ∧ p = 6) M M' ∧ ∀ k, M'.1 e 6 k = brO (M.1 e 6) pu q k) := by
  have hxR : am_R x := by rw [← hx]; exact ho q hq
  have loop : ∀ (k i : Nat) (z : Option Am_V) (M1 : Am_M), i + k = q → pu ≤ i → am_same (fun e' p => e' = e ∧ p = 6) M M1 → (∀ j, i ≤ j → M1.1 e 6 j = M.1 e 6 j) → (∀ j, j < i → M1.1 e 6 j = brO (M.1 e 6) pu q j) → am_At Γ (d + 1) n_Evening_bring 7 [some (.inr (.inr (e, 0))), some (.inl x), some (.inl (if i = pu then x else M.1 e 6 (i - 1))), some (.inl (i : Int)), z] [] M1 (fun r M' => r = none ∧ am_same (fun e' p => e' = e ∧ p = 6) M M' ∧ ∀ k, M'.1 e 6 k = brO (M.1 e 6) pu q k) := by
    intro k
    induction k with
    | zero =>
      intro i z M1 hi hpi hs h1 h2
      have : i = q := by omega
      subst this
      have hm1 : M1.1 e 0 6 = mt := (hs.2 e 0 6 (by omega)).trans hm
      have hi6 : M1.1 e 6 i = x := (h1 i (by omega)).trans hx
      refine am_go 60 [7] (by decide) ?_
      refine And.intro ⟨⟨(by first | omega | (dsimp only [am_own]; omega)), (by first | omega | (dsimp only [am_own]; omega))⟩, (show am_R (M1.1 e 0 6) from ⟨(by first | omega | (dsimp only [am_own]; omega)), (by first | omega | (dsimp only [am_own]; omega))⟩)⟩ (And.intro (fun h => ?_) (fun h => ?_))
      · refine And.intro ⟨(by first | omega | (dsimp only [am_own]; omega)), (by first | omega | (dsimp only [am_own]; omega))⟩ ?_
        refine And.intro ⟨(by first | omega | (dsimp only [am_own]; omega)), (by first | omega | (dsimp only [am_own]; omega))⟩ ?_
        refine And.intro ⟨am_Re hi6 hxR, hxR⟩ (And.intro (fun h3 => ?_) (fun h3 => absurd hi6 h3))
        refine ⟨rfl, hs.set ⟨rfl, rfl⟩, fun j => ?_⟩
        by_cases qj : j = i
        · subst qj
          refine set_eq.trans ?_
          unfold brO
          by_cases q2 : j = pu
          · rw [if_pos q2, if_pos q2]; exact hx.symm
          · rw [if_neg q2, if_neg q2, if_pos (by omega)]
        · refine (set_k qj).trans ?_
          by_cases q2 : j < i
          · exact h2 j q2
          · rw [h1 j (by omega)]
            unfold brO
            rw [if_neg (by omega), if_neg (by omega)]
      · exfalso
        have h : ¬ (i : Int) < M1.1 e 0 6 := h
        omega
    | succ k ih =>
      intro i z M1 hi hpi hs h1 h2
      have hm1 : M1.1 e 0 6 = mt := (hs.2 e 0 6 (by omega)).trans hm
      have hi6 : M1.1 e 6 i = M.1 e 6 i := h1 i (by omega)
      refine am_go 60 [7] (by decide) ?_
      refine And.intro ⟨⟨(by first | omega | (dsimp only [am_own]; omega)), (by first | omega | (dsimp only [am_own]; omega))⟩, (show am_R (M1.1 e 0 6) from ⟨(by first | omega | (dsimp only [am_own]; omega)), (by first | omega | (dsimp only [am_own]; omega))⟩)⟩ (And.intro (fun h => ?_) (fun h => ?_))
      · refine And.intro ⟨(by first | omega | (dsimp only [am_own]; omega)), (by first | omega | (dsimp only [am_own]; omega))⟩ ?_
        refine And.intro ⟨(by first | omega | (dsimp only [am_own]; omega)), (by first | omega | (dsimp only [am_own]; omega))⟩ ?_
        refine And.intro ⟨am_Re hi6 (ho i (by omega)), hxR⟩ (And.intro (fun h3 => absurd (hi6.symm.trans h3) (hfirst i hpi (by omega))) (fun h3 => ?_))
        have go := ih (i + 1) (some (.inl (M1.1 e 6 i))) (am_set M1 e 6 i (if i = pu then x else M.1 e 6 (i - 1))) (by omega) (by omega) (hs.set ⟨rfl, rfl⟩) (fun j hj => ?_) (fun j hj => ?_)
        · rw [if_neg (by omega), Nat.add_sub_cancel, ← hi6] at go
          exact go
        · rw [set_k (by omega)]; exact h1 j (by omega)
        · by_cases qj : j = i
          · subst qj
            rw [set_eq]
            unfold brO
            by_cases q2 : j = pu
            · rw [if_pos q2, if_pos q2]; exact hx.symm
            · rw [if_neg q2, if_neg q2, if_pos (by omega)]
          · rw [set_k qj]; exact h2 j (by omega)
      · exfalso
        have h : ¬ (i : Int) < M1.1 e 0 6 := h
        omega
  refine am_ev_of (by decide) (am_le rfl) (am_go 60 [7] (by decide) ?_)
  have h := loop (q - pu) pu none M (by omega) (by omega) am_same.rf (fun j _ => rfl) (fun j hj => by unfold brO; rw [if_neg (by omega), if_neg (by omega)])
  rw [if_pos rfl, ← hp] at h
  exact h
