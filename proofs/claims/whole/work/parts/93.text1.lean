/-! texts: the class's tokens -/
/-- cells of owner 0 that may change -/
def tX (S : Nat → Nat → Prop) (M M' : Am_M) : Prop := ∀ e p k, ¬ (e = 0 ∧ S p k) → M'.1 e p k = M.1 e p k
theorem tX.rf {S : Nat → Nat → Prop} {M : Am_M} : tX S M M := fun _ _ _ _ => rfl
theorem tX.tr {S : Nat → Nat → Prop} {M M' M'' : Am_M} (h : tX S M M') (h' : tX S M' M'') : tX S M M'' := fun e p k hn => (h' e p k hn).trans (h e p k hn)
theorem tX.wk {S S' : Nat → Nat → Prop} {M M' : Am_M} (h : tX S M M') (hs : ∀ p k, S p k → S' p k) : tX S' M M' := fun e p k hn => h e p k (fun z => hn ⟨z.1, hs p k z.2⟩)
theorem tX.set {S : Nat → Nat → Prop} {M M' : Am_M} {p k : Nat} {v : Int} (h : tX S M M') (hp : S p k) : tX S M (am_set M' 0 p k v) := fun e' p' k' hn => by
  have e : (am_set M' 0 p k v).1 e' p' k' = M'.1 e' p' k' := by
    unfold am_set
    dsimp only
    rw [if_neg]
    rintro ⟨rfl, rfl, rfl⟩
    exact hn ⟨rfl, hp⟩
  rw [e]
  exact h e' p' k' hn
def tW (M : Am_M) (n : Nat) : Prop := M.1 0 14 1 = n ∧ n ≤ 200 ∧ ∀ k, k < n → 0 ≤ M.1 0 15 k ∧ M.1 0 15 k ≤ 255
def sS (p k : Nat) : Prop := p = 14 ∧ (k = 7 ∨ k = 8)
theorem c_sortOf {Γ : Am_G} {d : Nat} {M : Am_M} {x : Int} (hx : am_R x) : am_Ev Γ (d + 1) n_Text_sortOf [.inl x] M (fun r M' => r = some (.inl (tsort x)) ∧ M' = M) := by
  have dig : ¬ (97 ≤ x ∧ x ≤ 122) → am_At Γ (d + 1) n_Text_sortOf 14 [some (.inl x)] [] M (fun r M' => r = some (.inl (tsort x)) ∧ M' = M) := by
    intro q
    have e : tsort x = if 48 ≤ x ∧ x ≤ 57 then 1 else 2 := by unfold tsort; rw [if_neg q]
    rw [e]
    refine am_go 20 [] (by decide) ?_
    refine And.intro ⟨hx, ⟨(by first | omega | (dsimp only [am_own]; omega)), (by first | omega | (dsimp only [am_own]; omega))⟩⟩ (And.intro (fun h => ?_) (fun h => ?_))
    · rw [if_neg (by omega)]; exact ⟨rfl, rfl⟩
    refine And.intro ⟨hx, ⟨(by first | omega | (dsimp only [am_own]; omega)), (by first | omega | (dsimp only [am_own]; omega))⟩⟩ (And.intro (fun h2 => ?_) (fun h2 => ?_))
    · rw [if_neg (by omega)]; exact ⟨rfl, rfl⟩
    · rw [if_pos (by omega)]; exact ⟨rfl, rfl⟩
  refine am_ev_of (by decide) (am_le rfl) (am_go 20 [14] (by decide) ?_)
  refine And.intro ⟨hx, ⟨(by first | omega | (dsimp only [am_own]; omega)), (by first | omega | (dsimp only [am_own]; omega))⟩⟩ (And.intro (fun h => dig (by omega)) (fun h => ?_))
  refine And.intro ⟨hx, ⟨(by first | omega | (dsimp only [am_own]; omega)), (by first | omega | (dsimp only [am_own]; omega))⟩⟩ (And.intro (fun h2 => dig (by omega)) (fun h2 => ?_))
  have e : tsort x = 0 := tsort_0.mpr (by omega)
  rw [e]
  exact ⟨rfl, rfl⟩
theorem c_step {Γ : Am_G} {d n p : Nat} {M : Am_M} (hW : tW M n) (hp : M.1 0 14 8 = p) (hpn : p ≤ n) : am_Ev Γ (d + 2) n_Text_step [.inr (.inr (0, 14))] M (fun r M' => r = none ∧ tX sS M M' ∧ M'.1 0 14 7 = (tkS (M.1 0 15) n p : Nat) ∧ M'.1 0 14 8 = (tkE (M.1 0 15) n (tkS (M.1 0 15) n p) : Nat)) := by
  obtain ⟨w1, w2, w3⟩ := hW
  generalize ht : M.1 0 15 = t at *
  have hsb := tkS_b t hpn
  have heb := tkE_b t hsb.2
  have hts : tskip t (n - p) p = tkS t n p := rfl
  have hte : tkE t n (tkS t n p) = if n ≤ tkS t n p then tkS t n p else if tsort (t (tkS t n p)) = 2 then tkS t n p + 1 else trun t (tsort (t (tkS t n p))) (n - (tkS t n p + 1)) (tkS t n p + 1) := rfl
  generalize tkS t n p = s at *
  generalize tkE t n s = e at *
  have low : ∀ M1 : Am_M, tX sS M M1 → M1.1 0 14 1 = n ∧ ∀ k, M1.1 0 15 k = t k := fun M1 h => ⟨(h 0 14 1 (by unfold sS; omega)).trans w1, fun k => (h 0 15 k (by unfold sS; omega)).trans (by rw [ht])⟩
  have s3 := tsort_3 (t s)
  -- the token's end
  have run : ∀ (k q : Nat) (M1 : Am_M), q + k = n → s < n → tX sS M M1 → M1.1 0 14 7 = s → M1.1 0 14 8 = q → (if tsort (t s) = 2 then q else trun t (tsort (t s)) k q) = e → am_At Γ (d + 2) n_Text_step 89 [some (.inr (.inr (0, 14))), some (.inl (tsort (t s)))] [] M1 (fun r M' => r = none ∧ tX sS M M' ∧ M'.1 0 14 7 = s ∧ M'.1 0 14 8 = e) := by
    intro k
    induction k with
    | zero =>
      intro q M1 hq hsn hX h7 h8 he
      obtain ⟨l1, l2⟩ := low M1 hX
      have he2 : q = e := by rw [← he]; split <;> rfl
      refine am_go 60 [89] (by decide) ?_
      refine And.intro ⟨(show am_R (M1.1 0 14 8) from ⟨by omega, by omega⟩), (show am_R (M1.1 0 14 1) from ⟨by omega, by omega⟩)⟩ (And.intro (fun h => ?_) (fun h => ⟨rfl, hX, h7, by omega⟩))
      exfalso
      have h : M1.1 0 14 8 < M1.1 0 14 1 := h
      omega
    | succ k ih =>
      intro q M1 hq hsn hX h7 h8 he
      obtain ⟨l1, l2⟩ := low M1 hX
      refine am_go 60 [89] (by decide) ?_
      refine And.intro ⟨(show am_R (M1.1 0 14 8) from ⟨by omega, by omega⟩), (show am_R (M1.1 0 14 1) from ⟨by omega, by omega⟩)⟩ (And.intro (fun h => ?_) (fun h => ?_))
      rotate_left
      · exfalso
        have h : ¬ M1.1 0 14 8 < M1.1 0 14 1 := h
        omega
      refine And.intro ⟨⟨by omega, by omega⟩, ⟨(by first | omega | (dsimp only [am_own]; omega)), (by first | omega | (dsimp only [am_own]; omega))⟩⟩ (And.intro (fun h2 => ?_) (fun h2 => ?_))
      · have h2 : tsort (t s) = 2 := h2
        rw [if_pos h2] at he
        exact ⟨rfl, hX, h7, by omega⟩
      have h2 : ¬ tsort (t s) = 2 := h2
      rw [if_neg h2] at he
      refine And.intro (show 0 ≤ M1.1 0 14 8 ∧ M1.1 0 14 8 < 200 from ⟨by omega, by omega⟩) ?_
      have eb : M1.1 0 15 (M1.1 0 14 8).toNat = t q := by rw [h8, l2]; rfl
      have hb := w3 q (by omega)
      have hc := c_sortOf (Γ := Γ) (d := d) (M := M1) (x := t q) ⟨by omega, by omega⟩
      rw [← eb] at hc
      refine am_by hc (by omega) ?_
      rintro r M2 ⟨rfl, rfl⟩
      rw [eb]
      have s3q := tsort_3 (t q)
      refine And.intro ⟨⟨by omega, by omega⟩, ⟨by omega, by omega⟩⟩ (And.intro (fun h3 => ?_) (fun h3 => ?_))
      · have h3 : tsort (t q) = tsort (t s) := h3
        unfold trun at he
        rw [if_pos h3] at he
        refine ih (q + 1) (am_set M2 0 14 8 (M2.1 0 14 8 + 1)) (by omega) hsn (hX.set ⟨rfl, Or.inr rfl⟩) (by rw [set_k (by decide)]; exact h7) (by rw [set_eq]; omega) (by rw [if_neg h2]; exact he)
      · have h3 : ¬ tsort (t q) = tsort (t s) := h3
        unfold trun at he
        rw [if_neg h3] at he
        exact ⟨rfl, hX, h7, by omega⟩
  -- the token begins
  have st54 : ∀ M1 : Am_M, tX sS M M1 → M1.1 0 14 7 = s → M1.1 0 14 8 = s → am_At Γ (d + 2) n_Text_step 54 [some (.inr (.inr (0, 14))), none] [] M1 (fun r M' => r = none ∧ tX sS M M' ∧ M'.1 0 14 7 = s ∧ M'.1 0 14 8 = e) := by
    intro M1 hX h7 h8
    obtain ⟨l1, l2⟩ := low M1 hX
    refine am_go 60 [89] (by decide) ?_
    refine And.intro ⟨(show am_R (M1.1 0 14 7) from ⟨by omega, by omega⟩), (show am_R (M1.1 0 14 1) from ⟨by omega, by omega⟩)⟩ (And.intro (fun h => ?_) (fun h => ?_))
    · have h : M1.1 0 14 7 = M1.1 0 14 1 := h
      rw [if_pos (by omega)] at hte
      exact ⟨rfl, hX, h7, by omega⟩
    have h : ¬ M1.1 0 14 7 = M1.1 0 14 1 := h
    rw [if_neg (by omega)] at hte
    refine And.intro (show 0 ≤ M1.1 0 14 7 ∧ M1.1 0 14 7 < 200 from ⟨by omega, by omega⟩) ?_
    have eb : M1.1 0 15 (M1.1 0 14 7).toNat = t s := by rw [h7, l2]; rfl
    have hb := w3 s (by omega)
    have hc := c_sortOf (Γ := Γ) (d := d) (M := M1) (x := t s) ⟨by omega, by omega⟩
    rw [← eb] at hc
    refine am_by hc (by omega) ?_
    rintro r M2 ⟨rfl, rfl⟩
    rw [eb]
    exact run (n - (s + 1)) (s + 1) (am_set M2 0 14 8 (M2.1 0 14 8 + 1)) (by omega) (by omega) (hX.set ⟨rfl, Or.inr rfl⟩) (by rw [set_k (by decide)]; exact h7) (by rw [set_eq]; omega) hte.symm
  have st46 : ∀ M1 : Am_M, tX sS M M1 → M1.1 0 14 7 = s → am_At Γ (d + 2) n_Text_step 46 [some (.inr (.inr (0, 14))), none] [] M1 (fun r M' => r = none ∧ tX sS M M' ∧ M'.1 0 14 7 = s ∧ M'.1 0 14 8 = e) := by
    intro M1 hX h7
    refine am_go 60 [54] (by decide) ?_
    exact st54 (am_set M1 0 14 8 (M1.1 0 14 7)) (hX.set ⟨rfl, Or.inr rfl⟩) (by rw [set_k (by decide)]; exact h7) (by rw [set_eq]; exact h7)
  have skip : ∀ (k q : Nat) (M1 : Am_M), q + k = n → tX sS M M1 → M1.1 0 14 7 = q → tskip t k q = s → am_At Γ (d + 2) n_Text_step 8 [some (.inr (.inr (0, 14))), none] [] M1 (fun r M' => r = none ∧ tX sS M M' ∧ M'.1 0 14 7 = s ∧ M'.1 0 14 8 = e) := by
    intro k
    induction k with
    | zero =>
      intro q M1 hq hX h7 hs
      obtain ⟨l1, l2⟩ := low M1 hX
      have hs : q = s := hs
      refine am_go 60 [8, 46] (by decide) ?_
      refine And.intro ⟨(show am_R (M1.1 0 14 7) from ⟨by omega, by omega⟩), (show am_R (M1.1 0 14 1) from ⟨by omega, by omega⟩)⟩ (And.intro (fun h => ?_) (fun h => st46 M1 hX (by omega)))
      exfalso
      have h : M1.1 0 14 7 < M1.1 0 14 1 := h
      omega
    | succ k ih =>
      intro q M1 hq hX h7 hs
      obtain ⟨l1, l2⟩ := low M1 hX
      unfold tskip at hs
      refine am_go 60 [8, 46] (by decide) ?_
      refine And.intro ⟨(show am_R (M1.1 0 14 7) from ⟨by omega, by omega⟩), (show am_R (M1.1 0 14 1) from ⟨by omega, by omega⟩)⟩ (And.intro (fun h => ?_) (fun h => ?_))
      rotate_left
      · exfalso
        have h : ¬ M1.1 0 14 7 < M1.1 0 14 1 := h
        omega
      refine And.intro (show 0 ≤ M1.1 0 14 7 ∧ M1.1 0 14 7 < 200 from ⟨by omega, by omega⟩) ?_
      have eb : M1.1 0 15 (M1.1 0 14 7).toNat = t q := by rw [h7, l2]; rfl
      have hb := w3 q (by omega)
      refine And.intro ⟨am_Re eb ⟨by omega, by omega⟩, ⟨(by first | omega | (dsimp only [am_own]; omega)), (by first | omega | (dsimp only [am_own]; omega))⟩⟩ (And.intro (fun h2 => ?_) (fun h2 => ?_))
      · have h2 : M1.1 0 15 (M1.1 0 14 7).toNat = 32 := h2
        rw [if_pos (by omega)] at hs
        exact ih (q + 1) (am_set M1 0 14 7 (M1.1 0 14 7 + 1)) (by omega) (hX.set ⟨rfl, Or.inl rfl⟩) (by rw [set_eq]; omega) hs
      · have h2 : ¬ M1.1 0 15 (M1.1 0 14 7).toNat = 32 := h2
        rw [if_neg (by omega)] at hs
        exact st46 M1 hX (by omega)
  refine am_ev_of (by decide) (am_le rfl) (am_go 60 [8] (by decide) ?_)
  exact skip (n - p) p (am_set M 0 14 7 (M.1 0 14 8)) (by omega) (tX.rf.set ⟨rfl, Or.inl rfl⟩) (by rw [set_eq]; exact hp) hts
theorem c_spelt {Γ : Am_G} {d w : Nat} {M : Am_M} (hw : w < 10) : am_Ev Γ (d + 1) n_Text_spelt [.inl (w : Int)] M (fun r M' => r = some (.inr (.inr (w, 99))) ∧ M' = M) := by
  refine am_ev_of (by decide) (am_le rfl) (am_go 20 [] (by decide) ?_)
  refine And.intro ⟨⟨by omega, by omega⟩, rfl⟩ (And.intro (fun hz => ?_) (And.intro (fun hz => ?_) (And.intro (fun hz => ?_) (And.intro (fun hz => ?_) (And.intro (fun hz => ?_) (And.intro (fun hz => ?_) (And.intro (fun hz => ?_) (And.intro (fun hz => ?_) (And.intro (fun hz => ?_) (And.intro (fun hz => ?_) trivial))))))))))
  · have hz : (w : Int) < 0 ∨ 8 < (w : Int) := hz
    have : w = 9 := by omega
    subst this
    refine am_s_ldc (r := (79, .ldc 108, 2, 0, 0, 0)) (w := 9) (am_rowat 20 rfl) rfl (by decide) rfl ?_
    refine am_go 20 [] (by decide) ?_
    exact ⟨rfl, rfl⟩
  · have hz : (w : Int) = 0 := hz
    have : w = 0 := by omega
    subst this
    refine am_s_ldc (r := (52, .ldc 90, 2, 0, 0, 0)) (w := 0) (am_rowat 2 rfl) rfl (by decide) rfl ?_
    refine am_go 20 [] (by decide) ?_
    exact ⟨rfl, rfl⟩
  · have hz : (w : Int) = 1 := hz
    have : w = 1 := by omega
    subst this
    refine am_s_ldc (r := (55, .ldc 92, 2, 0, 0, 0)) (w := 1) (am_rowat 4 rfl) rfl (by decide) rfl ?_
    refine am_go 20 [] (by decide) ?_
    exact ⟨rfl, rfl⟩
  · have hz : (w : Int) = 2 := hz
    have : w = 2 := by omega
    subst this
    refine am_s_ldc (r := (58, .ldc 94, 2, 0, 0, 0)) (w := 2) (am_rowat 6 rfl) rfl (by decide) rfl ?_
    refine am_go 20 [] (by decide) ?_
    exact ⟨rfl, rfl⟩
  · have hz : (w : Int) = 3 := hz
    have : w = 3 := by omega
    subst this
    refine am_s_ldc (r := (61, .ldc 96, 2, 0, 0, 0)) (w := 3) (am_rowat 8 rfl) rfl (by decide) rfl ?_
    refine am_go 20 [] (by decide) ?_
    exact ⟨rfl, rfl⟩
  · have hz : (w : Int) = 4 := hz
    have : w = 4 := by omega
    subst this
    refine am_s_ldc (r := (64, .ldc 98, 2, 0, 0, 0)) (w := 4) (am_rowat 10 rfl) rfl (by decide) rfl ?_
    refine am_go 20 [] (by decide) ?_
    exact ⟨rfl, rfl⟩
  · have hz : (w : Int) = 5 := hz
    have : w = 5 := by omega
    subst this
    refine am_s_ldc (r := (67, .ldc 100, 2, 0, 0, 0)) (w := 5) (am_rowat 12 rfl) rfl (by decide) rfl ?_
    refine am_go 20 [] (by decide) ?_
    exact ⟨rfl, rfl⟩
  · have hz : (w : Int) = 6 := hz
    have : w = 6 := by omega
    subst this
    refine am_s_ldc (r := (70, .ldc 102, 2, 0, 0, 0)) (w := 6) (am_rowat 14 rfl) rfl (by decide) rfl ?_
    refine am_go 20 [] (by decide) ?_
    exact ⟨rfl, rfl⟩
  · have hz : (w : Int) = 7 := hz
    have : w = 7 := by omega
    subst this
    refine am_s_ldc (r := (73, .ldc 104, 2, 0, 0, 0)) (w := 7) (am_rowat 16 rfl) rfl (by decide) rfl ?_
    refine am_go 20 [] (by decide) ?_
    exact ⟨rfl, rfl⟩
  · have hz : (w : Int) = 8 := hz
    have : w = 8 := by omega
    subst this
    refine am_s_ldc (r := (76, .ldc 106, 2, 0, 0, 0)) (w := 8) (am_rowat 18 rfl) rfl (by decide) rfl ?_
    refine am_go 20 [] (by decide) ?_
    exact ⟨rfl, rfl⟩
theorem c_isAtHand {Γ : Am_G} {d n s e w : Nat} {M : Am_M} (hW : tW M n) (hs : M.1 0 14 7 = s) (he : M.1 0 14 8 = e) (hse : s ≤ e) (hen : e ≤ n) (hw : w < 10) : am_Ev Γ (d + 5) n_Text_isAtHand [.inr (.inr (0, 14)), .inr (.inr (w, 99))] M (fun r M' => r = some (.inl (if isW (M.1 0 15) s e w = true then 1 else 0)) ∧ M' = M) := by
  obtain ⟨w1, w2, w3⟩ := hW
  have hl := wd_len w hw
  have eW : isW (M.1 0 15) s e w = if e = s + (wdL w).length then wEq (M.1 0 15) s (wdL w) else false := rfl
  have loop : e = s + (wdL w).length → ∀ (l : List Int) (i : Nat), (wdL w).drop i = l → i ≤ (wdL w).length → am_At Γ (d + 5) n_Text_isAtHand 20 [some (.inr (.inr (0, 14))), some (.inr (.inr (w, 99))), some (.inl (i : Int))] [] M (fun r M' => r = some (.inl (if wEq (M.1 0 15) (s + i) l = true then 1 else 0)) ∧ M' = M) := by
    intro hel l
    induction l with
    | nil =>
      intro i hd hi
      have hlen : (wdL w).length ≤ i := List.drop_eq_nil_iff.mp hd
      refine am_go 60 [20] (by decide) ?_
      refine am_len22 (d := d + 3) hw (am_le rfl) ?_
      refine am_go 60 [20] (by decide) ?_
      refine And.intro ⟨⟨by omega, by omega⟩, ⟨by omega, by omega⟩⟩ (And.intro (fun h => ?_) (fun h => ?_))
      · exfalso; omega
      · exact ⟨Or.inr rfl, rfl, rfl⟩
    | cons b l ih =>
      intro i hd hi
      have hil : i < (wdL w).length := by
        rcases Nat.lt_or_ge i (wdL w).length with q | q
        · exact q
        · rw [List.drop_eq_nil_iff.mpr q] at hd; cases hd
      have hd2 := List.drop_eq_getElem_cons hil
      rw [hd] at hd2
      obtain ⟨hb, hl2⟩ := List.cons.inj hd2
      have hbg : b = (wdL w).getD i 0 := by rw [hb, List.getD_eq_getElem?_getD, List.getElem?_eq_getElem hil]; rfl
      have hlet := wd_let w hw i hil
      have hby := w3 (s + i) (by omega)
      refine am_go 60 [20] (by decide) ?_
      refine am_len22 (d := d + 3) hw (am_le rfl) ?_
      refine am_go 60 [20] (by decide) ?_
      refine And.intro ⟨⟨by omega, by omega⟩, ⟨by omega, by omega⟩⟩ (And.intro (fun h => ?_) (fun h => ?_))
      rotate_left
      · exfalso; omega
      refine And.intro (show 0 ≤ M.1 0 14 7 + (i : Int) ∧ M.1 0 14 7 + (i : Int) < 200 from ⟨by omega, by omega⟩) ?_
      have eb : M.1 0 15 (M.1 0 14 7 + (i : Int)).toNat = M.1 0 15 (s + i) := congrArg _ (by omega)
      refine am_chr41 (d := d + 1) hw hil (am_le rfl) ?_
      refine am_go 60 [20] (by decide) ?_
      refine And.intro ⟨am_Re eb ⟨by omega, by omega⟩, ⟨by omega, by omega⟩⟩ (And.intro (fun h2 => ?_) (fun h2 => ?_))
      · have h2 : M.1 0 15 (M.1 0 14 7 + (i : Int)).toNat = (wdL w).getD i 0 := h2
        have e1 : wEq (M.1 0 15) (s + i) (b :: l) = wEq (M.1 0 15) (s + (i + 1)) l := by
          show (if M.1 0 15 (s + i) = b then wEq (M.1 0 15) (s + i + 1) l else false) = _
          rw [if_pos (by omega)]
          rfl
        rw [e1]
        exact ih (i + 1) hl2.symm (by omega)
      · have h2 : ¬ M.1 0 15 (M.1 0 14 7 + (i : Int)).toNat = (wdL w).getD i 0 := h2
        have e1 : wEq (M.1 0 15) (s + i) (b :: l) = false := by
          show (if M.1 0 15 (s + i) = b then wEq (M.1 0 15) (s + i + 1) l else false) = _
          rw [if_neg (by omega)]
        rw [e1]
        exact ⟨Or.inl rfl, rfl, rfl⟩
  refine am_ev_of (by decide) (am_le rfl) (am_go 60 [20] (by decide) ?_)
  refine am_len10 (d := d + 3) hw (am_le rfl) ?_
  refine am_go 60 [20] (by decide) ?_
  refine And.intro ⟨(show am_R (M.1 0 14 8 - M.1 0 14 7) from ⟨by omega, by omega⟩), ⟨by omega, by omega⟩⟩ (And.intro (fun h => ?_) (fun h => ?_))
  · have h : M.1 0 14 8 - M.1 0 14 7 = ((wdL w).length : Int) := h
    have e2 : isW (M.1 0 15) s e w = wEq (M.1 0 15) s (wdL w) := by rw [eW, if_pos (show e = s + (wdL w).length by omega)]
    rw [e2]
    exact loop (by omega) (wdL w) 0 rfl (Nat.zero_le _)
  · have h : ¬ M.1 0 14 8 - M.1 0 14 7 = ((wdL w).length : Int) := h
    have e2 : isW (M.1 0 15) s e w = false := by rw [eW, if_neg (show ¬ e = s + (wdL w).length by omega)]
    rw [e2]
    exact ⟨Or.inl rfl, rfl, rfl⟩
theorem c_wordAtHand {Γ : Am_G} {d n s e : Nat} {M : Am_M} (hW : tW M n) (hs : M.1 0 14 7 = s) (he : M.1 0 14 8 = e) (hse : s ≤ e) (hen : e ≤ n) : am_Ev Γ (d + 6) n_Text_wordAtHand [.inr (.inr (0, 14))] M (fun r M' => r = some (.inl (twd (M.1 0 15) s e)) ∧ M' = M) := by
  have loop : ∀ (k w : Nat), w + k = 10 → am_At Γ (d + 6) n_Text_wordAtHand 2 [some (.inr (.inr (0, 14))), some (.inl (w : Int))] [] M (fun r M' => r = some (.inl (tfw (isW (M.1 0 15) s e) k w)) ∧ M' = M) := by
    intro k
    induction k with
    | zero =>
      intro w hwk
      refine am_go 60 [2] (by decide) ?_
      refine And.intro ⟨⟨by omega, by omega⟩, ⟨(by first | omega | (dsimp only [am_own]; omega)), (by first | omega | (dsimp only [am_own]; omega))⟩⟩ (And.intro (fun h => ?_) (fun h => ⟨rfl, rfl⟩))
      exfalso; omega
    | succ k ih =>
      intro w hwk
      refine am_go 60 [2] (by decide) ?_
      refine And.intro ⟨⟨by omega, by omega⟩, ⟨(by first | omega | (dsimp only [am_own]; omega)), (by first | omega | (dsimp only [am_own]; omega))⟩⟩ (And.intro (fun h => ?_) (fun h => ?_))
      rotate_left
      · exfalso; omega
      refine am_by (c_spelt (d := d) (w := w) (by omega)) (by omega) ?_
      rintro r M1 ⟨rfl, rfl⟩
      refine am_by (c_isAtHand (d := d) hW hs he hse hen (w := w) (by omega)) (by omega) ?_
      rintro r M1 ⟨rfl, rfl⟩
      unfold tfw
      by_cases q : isW (M1.1 0 15) s e w = true
      · rw [if_pos q, if_pos q]
        refine And.intro ⟨(by first | omega | (dsimp only [am_own]; omega)), (by first | omega | (dsimp only [am_own]; omega))⟩ (And.intro (fun h => absurd h (by decide)) (fun _ => ?_))
        exact ⟨rfl, rfl⟩
      · rw [if_neg q, if_neg q]
        refine And.intro ⟨(by first | omega | (dsimp only [am_own]; omega)), (by first | omega | (dsimp only [am_own]; omega))⟩ (And.intro (fun _ => ?_) (fun h => absurd rfl h))
        exact ih (w + 1) (by omega)
  refine am_ev_of (by decide) (am_le rfl) (am_go 60 [2] (by decide) ?_)
  exact loop 10 0 rfl
theorem c_numberAtHand {Γ : Am_G} {d n s : Nat} {M : Am_M} (hW : tW M n) (hs : M.1 0 14 7 = s) (he : M.1 0 14 8 = (tkE (M.1 0 15) n s : Nat)) (hsn : s ≤ n) : am_Ev Γ (d + 2) n_Text_numberAtHand [.inr (.inr (0, 14))] M (fun r M' => r = some (.inl (tnum (M.1 0 15) n s)) ∧ M' = M) := by
  obtain ⟨w1, w2, w3⟩ := hW
  have heb := tkE_b (M.1 0 15) hsn
  have eN : tnum (M.1 0 15) n s = if s < n ∧ tsort (M.1 0 15 s) = 1 ∧ tkE (M.1 0 15) n s - s ≤ 2 then tnv (M.1 0 15) s (tkE (M.1 0 15) n s - s) else -1 := rfl
  generalize tkE (M.1 0 15) n s = e at *
  have loop : e - s ≤ 2 → ∀ (k j : Nat), j + k = e - s → am_At Γ (d + 2) n_Text_numberAtHand 49 [some (.inr (.inr (0, 14))), some (.inl (tnv (M.1 0 15) s j)), some (.inl ((s + j : Nat) : Int))] [] M (fun r M' => r = some (.inl (tnv (M.1 0 15) s (e - s))) ∧ M' = M) := by
    intro he2 k
    induction k with
    | zero =>
      intro j hj
      have : j = e - s := by omega
      subst this
      refine am_go 60 [49] (by decide) ?_
      refine And.intro ⟨⟨by omega, by omega⟩, (show am_R (M.1 0 14 8) from ⟨by omega, by omega⟩)⟩ (And.intro (fun h => ?_) (fun h => ⟨rfl, rfl⟩))
      exfalso
      have h : ((s + (e - s) : Nat) : Int) < M.1 0 14 8 := h
      omega
    | succ k ih =>
      intro j hj
      refine am_go 60 [49] (by decide) ?_
      refine And.intro ⟨⟨by omega, by omega⟩, (show am_R (M.1 0 14 8) from ⟨by omega, by omega⟩)⟩ (And.intro (fun h => ?_) (fun h => ?_))
      · refine And.intro ⟨by omega, by omega⟩ ?_
        exact ih (j + 1) (by omega)
      · exfalso
        have h : ¬ ((s + j : Nat) : Int) < M.1 0 14 8 := h
        omega
  refine am_ev_of (by decide) (am_le rfl) (am_go 60 [49] (by decide) ?_)
  refine And.intro ⟨(show am_R (M.1 0 14 7) from ⟨by omega, by omega⟩), (show am_R (M.1 0 14 1) from ⟨by omega, by omega⟩)⟩ (And.intro (fun h => ?_) (fun h => ?_))
  · have h : M.1 0 14 7 = M.1 0 14 1 := h
    rw [eN, if_neg (by omega)]
    exact ⟨rfl, rfl⟩
  have h : ¬ M.1 0 14 7 = M.1 0 14 1 := h
  refine And.intro (show 0 ≤ M.1 0 14 7 ∧ M.1 0 14 7 < 200 from ⟨by omega, by omega⟩) ?_
  have eb : M.1 0 15 (M.1 0 14 7).toNat = M.1 0 15 s := by rw [hs]; rfl
  have hb := w3 s (by omega)
  have hc := c_sortOf (Γ := Γ) (d := d) (M := M) (x := M.1 0 15 s) ⟨by omega, by omega⟩
  rw [← eb] at hc
  refine am_by hc (by omega) ?_
  rintro r M1 ⟨rfl, rfl⟩
  rw [eb]
  have s3 := tsort_3 (M1.1 0 15 s)
  refine And.intro ⟨⟨by omega, by omega⟩, ⟨(by first | omega | (dsimp only [am_own]; omega)), (by first | omega | (dsimp only [am_own]; omega))⟩⟩ (And.intro (fun h2 => ?_) (fun h2 => ?_))
  rotate_left
  · have h2 : ¬ tsort (M1.1 0 15 s) = 1 := h2
    rw [eN, if_neg (by omega)]
    exact ⟨rfl, rfl⟩
  have h2 : tsort (M1.1 0 15 s) = 1 := h2
  refine And.intro ⟨(show am_R (M1.1 0 14 8 - M1.1 0 14 7) from ⟨by omega, by omega⟩), ⟨(by first | omega | (dsimp only [am_own]; omega)), (by first | omega | (dsimp only [am_own]; omega))⟩⟩ (And.intro (fun h3 => ?_) (fun h3 => ?_))
  · have h3 : 2 < M1.1 0 14 8 - M1.1 0 14 7 := h3
    rw [eN, if_neg (by omega)]
    exact ⟨rfl, rfl⟩
  · have h3 : ¬ 2 < M1.1 0 14 8 - M1.1 0 14 7 := h3
    rw [eN, if_pos ⟨by omega, h2, by omega⟩]
    have go := loop (by omega) (e - s) 0 (by omega)
    rw [show ((s + 0 : Nat) : Int) = M1.1 0 14 7 by omega] at go
    exact go
theorem c_numbersOf {Γ : Am_G} {d : Nat} {M : Am_M} {w : Int} (hw : 0 ≤ w ∧ w ≤ 9) : am_Ev Γ (d + 1) n_Text_numbersOf [.inl w] M (fun r M' => r = some (.inl ((tmany w : Nat) : Int)) ∧ M' = M) := by
  refine am_ev_of (by decide) (am_le rfl) (am_go 20 [] (by decide) ?_)
  refine And.intro ⟨⟨by omega, by omega⟩, rfl⟩ (And.intro (fun hz => ?_) (And.intro (fun hz => ?_) (And.intro (fun hz => ?_) (And.intro (fun hz => ?_) (And.intro (fun hz => ?_) (And.intro (fun hz => ?_) (And.intro (fun hz => ?_) trivial)))))))
  · have hz : w < 4 ∨ 9 < w := hz
    have e : tmany w = 2 := by unfold tmany; rw [if_neg (by omega), if_neg (by omega), if_neg (by omega)]
    rw [e]
    exact ⟨rfl, rfl⟩
  · have hz : w = 4 := hz
    subst hz
    exact ⟨rfl, rfl⟩
  · have hz : w = 5 := hz
    subst hz
    exact ⟨rfl, rfl⟩
  · have hz : w = 6 := hz
    subst hz
    exact ⟨rfl, rfl⟩
  · have hz : w = 7 := hz
    subst hz
    exact ⟨rfl, rfl⟩
  · have hz : w = 8 := hz
    subst hz
    exact ⟨rfl, rfl⟩
  · have hz : w = 9 := hz
    subst hz
    exact ⟨rfl, rfl⟩
theorem c_leastOf {Γ : Am_G} {d : Nat} {M : Am_M} {w : Int} {i : Nat} (hw : 0 ≤ w ∧ w ≤ 9) (hi : i < 3) : am_Ev Γ (d + 1) n_Text_leastOf [.inl w, .inl (i : Int)] M (fun r M' => r = some (.inl (tleast w (i : Int))) ∧ M' = M) := by
  refine am_ev_of (by decide) (am_le rfl) (am_go 20 [] (by decide) ?_)
  refine And.intro ⟨⟨by omega, by omega⟩, rfl⟩ (And.intro (fun hz => ?_) (And.intro (fun hz => ?_) (And.intro (fun hz => ?_) (And.intro (fun hz => ?_) (And.intro (fun hz => ?_) (And.intro (fun hz => ?_) trivial))))))
  · have hz : w < 4 ∨ 8 < w := hz
    have e : tleast w (i : Int) = 0 := by unfold tleast; rw [if_neg (by omega), if_neg (by omega)]
    rw [e]
    exact ⟨rfl, rfl⟩
  · have hz : w = 4 := hz
    subst hz
    exact ⟨rfl, rfl⟩
  · have hz : w = 5 := hz
    subst hz
    exact ⟨rfl, rfl⟩
  · have hz : w = 6 := hz
    subst hz
    exact ⟨rfl, rfl⟩
  · have hz : w = 7 := hz
    subst hz
    have e : tleast 7 (i : Int) = if (i : Int) = 0 then 0 else 1 := rfl
    rw [e]
    refine And.intro ⟨by omega, by omega⟩ (And.intro (fun h => ?_) (fun h => ?_))
    · rw [if_pos h]; exact ⟨rfl, rfl⟩
    · rw [if_neg h]; exact ⟨rfl, rfl⟩
  · have hz : w = 8 := hz
    subst hz
    exact ⟨rfl, rfl⟩
theorem c_mostOf {Γ : Am_G} {d : Nat} {M : Am_M} {w : Int} {i : Nat} (hw : 0 ≤ w ∧ w ≤ 9) (hi : i < 3) : am_Ev Γ (d + 1) n_Text_mostOf [.inr (.inr (0, 14)), .inl w, .inl (i : Int)] M (fun r M' => r = some (.inl (tmost w (i : Int) (M.1 0 14 5) (M.1 0 14 6))) ∧ M' = M) := by
  have other : tmost w (i : Int) (M.1 0 14 5) (M.1 0 14 6) = (if (i : Int) = 0 then 30 else 9) → am_At Γ (d + 1) n_Text_mostOf 85 [some (.inr (.inr (0, 14))), some (.inl w), some (.inl (i : Int))] [] M (fun r M' => r = some (.inl (tmost w (i : Int) (M.1 0 14 5) (M.1 0 14 6))) ∧ M' = M) := by
    intro e
    rw [e]
    refine am_go 20 [] (by decide) ?_
    refine And.intro ⟨by omega, by omega⟩ (And.intro (fun h => ?_) (fun h => ?_))
    · rw [if_pos h]; exact ⟨rfl, rfl⟩
    · rw [if_neg h]; exact ⟨rfl, rfl⟩
  have worths : tmost w (i : Int) (M.1 0 14 5) (M.1 0 14 6) = (if (i : Int) = 0 then M.1 0 14 5 - 1 else if (i : Int) = 1 then M.1 0 14 6 - 1 else 9) → am_At Γ (d + 1) n_Text_mostOf 55 [some (.inr (.inr (0, 14))), some (.inl w), some (.inl (i : Int))] [] M (fun r M' => r = some (.inl (tmost w (i : Int) (M.1 0 14 5) (M.1 0 14 6))) ∧ M' = M) := by
    intro e
    rw [e]
    refine am_go 20 [] (by decide) ?_
    refine And.intro ⟨by omega, by omega⟩ (And.intro (fun h => ?_) (fun h => ?_))
    · rw [if_pos h]; exact ⟨rfl, rfl⟩
    rw [if_neg h]
    refine And.intro ⟨⟨by omega, by omega⟩, ⟨(by first | omega | (dsimp only [am_own]; omega)), (by first | omega | (dsimp only [am_own]; omega))⟩⟩ (And.intro (fun h2 => ?_) (fun h2 => ?_))
    · rw [if_pos h2]; exact ⟨rfl, rfl⟩
    · rw [if_neg h2]; exact ⟨rfl, rfl⟩
  refine am_ev_of (by decide) (am_le rfl) (am_go 20 [55, 85] (by decide) ?_)
  refine And.intro ⟨⟨by omega, by omega⟩, rfl⟩ (And.intro (fun hz => ?_) (And.intro (fun hz => ?_) (And.intro (fun hz => ?_) (And.intro (fun hz => ?_) (And.intro (fun hz => ?_) (And.intro (fun hz => ?_) trivial))))))
  · have hz : w < 4 ∨ 8 < w := hz
    exact other (by unfold tmost; rw [if_neg (by omega), if_neg (by omega), if_neg (by omega)])
  · have hz : w = 4 := hz
    subst hz
    exact ⟨rfl, rfl⟩
  · have hz : w = 5 := hz
    subst hz
    exact worths rfl
  · have hz : w = 6 := hz
    subst hz
    exact worths rfl
  · have hz : w = 7 := hz
    subst hz
    have e : tmost 7 (i : Int) (M.1 0 14 5) (M.1 0 14 6) = if (i : Int) = 0 then M.1 0 14 5 - 1 else 9 := rfl
    rw [e]
    refine And.intro ⟨by omega, by omega⟩ (And.intro (fun h => ?_) (fun h => ?_))
    · rw [if_pos h]; exact ⟨rfl, rfl⟩
    · rw [if_neg h]; exact ⟨rfl, rfl⟩
  · have hz : w = 8 := hz
    subst hz
    exact ⟨rfl, rfl⟩
theorem c_countWord {Γ : Am_G} {d : Nat} {M : Am_M} {w : Int} (hw : 0 ≤ w ∧ w ≤ 9) : am_Ev Γ (d + 1) n_Text_countWord [.inr (.inr (0, 14)), .inl w] M (fun r M' => r = none ∧ tX (fun p k => p = 14 ∧ (k = 5 ∨ k = 6)) M M' ∧ M'.1 0 14 5 = tcP w (M.1 0 14 5) ∧ M'.1 0 14 6 = tcM w (M.1 0 14 6)) := by
  refine am_ev_of (by decide) (am_le rfl) (am_go 20 [] (by decide) ?_)
  refine And.intro ⟨⟨by omega, by omega⟩, ⟨(by first | omega | (dsimp only [am_own]; omega)), (by first | omega | (dsimp only [am_own]; omega))⟩⟩ (And.intro (fun h => ?_) (fun h => ?_))
  · have h : w = 9 := h
    subst h
    refine ⟨rfl, (tX.rf.set ⟨rfl, Or.inl rfl⟩).set ⟨rfl, Or.inr rfl⟩, ?_, ?_⟩
    · show (am_set (am_set M 0 14 5 0) 0 14 6 0).1 0 14 5 = 0
      rw [set_k (by decide)]; exact set_eq
    · exact set_eq
  have h : ¬ w = 9 := h
  refine And.intro ⟨⟨by omega, by omega⟩, ⟨(by first | omega | (dsimp only [am_own]; omega)), (by first | omega | (dsimp only [am_own]; omega))⟩⟩ (And.intro (fun h2 => ?_) (fun h2 => ?_))
  · have h2 : w = 4 := h2
    subst h2
    refine ⟨rfl, tX.rf.set ⟨rfl, Or.inr rfl⟩, ?_, ?_⟩
    · show (am_set M 0 14 6 (M.1 0 14 6 + 1)).1 0 14 5 = M.1 0 14 5
      exact set_k (by decide)
    · exact set_eq
  have h2 : ¬ w = 4 := h2
  refine And.intro ⟨⟨by omega, by omega⟩, ⟨(by first | omega | (dsimp only [am_own]; omega)), (by first | omega | (dsimp only [am_own]; omega))⟩⟩ (And.intro (fun h3 => ?_) (fun h3 => ?_))
  · have h3 : 3 < w := h3
    refine ⟨rfl, tX.rf, ?_, ?_⟩
    · unfold tcP; rw [if_neg h, if_neg h2, if_neg (by omega)]
    · unfold tcM; rw [if_neg h, if_neg h2]
  · have h3 : ¬ 3 < w := h3
    refine ⟨rfl, tX.rf.set ⟨rfl, Or.inl rfl⟩, ?_, ?_⟩
    · unfold tcP; rw [if_neg h, if_neg h2, if_pos (by omega)]; exact set_eq
    · unfold tcM; rw [if_neg h, if_neg h2]; exact set_k (by decide)
