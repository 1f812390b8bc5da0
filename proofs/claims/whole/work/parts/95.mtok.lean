/-! texts: the reference's tokens -/
def mW (M : Am_M) (n : Nat) : Prop := M.1 0 41 6 = n ∧ n ≤ 200 ∧ ∀ k, k < n → 0 ≤ M.1 0 45 k ∧ M.1 0 45 k ≤ 255
theorem mW.fr {M M' : Am_M} {n : Nat} {S : Nat → Nat → Prop} (h : mW M n) (hX : tX S M M') (h1 : ¬ S 41 6) (h2 : ∀ k, ¬ S 45 k) : mW M' n ∧ M'.1 0 45 = M.1 0 45 := by
  have e : M'.1 0 45 = M.1 0 45 := by
    funext k
    exact hX 0 45 k (fun z => h2 k z.2)
  refine ⟨⟨(hX 0 41 6 (fun z => h1 z.2)).trans h.1, h.2.1, fun k hk => ?_⟩, e⟩
  rw [e]
  exact h.2.2 k hk
def mS (p k : Nat) : Prop := p = 41 ∧ 8 ≤ k ∧ k ≤ 12
theorem lc_b (x y : Int64) : am_R (if y < x then 1 else if x = y then 0 else -1) := by
  split
  · exact ⟨by omega, by omega⟩
  · split <;> exact ⟨by omega, by omega⟩
theorem lc_0 (x y : Int64) : (if y < x then (1 : Int) else if x = y then 0 else -1) = 0 ↔ x = y := by
  by_cases q : x = y
  · subst q
    rw [if_neg Int64.lt_irrefl, if_pos rfl]
    exact ⟨fun _ => rfl, fun _ => rfl⟩
  · rw [if_neg q]
    refine ⟨fun h => ?_, fun h => absurd h q⟩
    exfalso
    split at h <;> omega
theorem of64 {a b : Int} (ha : -4 ≤ a ∧ a < 7625597484987) (hb : -4 ≤ b ∧ b < 7625597484987) : Int64.ofInt a = Int64.ofInt b ↔ a = b := by
  constructor
  · intro h
    have h2 := congrArg Int64.toInt h
    rw [Int64.toInt_ofInt_of_le (by omega) (by omega), Int64.toInt_ofInt_of_le (by omega) (by omega)] at h2
    exact h2
  · intro h
    rw [h]
theorem tok_step {v x : Int} (hx : am_R x) : Int64.ofInt 27 * Int64.ofInt v + (Int32.ofInt x).toInt64 - Int64.ofInt 96 = Int64.ofInt (27 * v + x - 96) := by
  have e1 : Int32.minValue.toInt = -2147483648 := by decide +kernel
  have e2 : Int32.maxValue.toInt = 2147483647 := by decide +kernel
  rw [Int64.ofInt_sub, Int64.ofInt_add, Int64.ofInt_mul, Int32.toInt64_ofInt (by rw [e1]; exact hx.1) (by rw [e2]; exact hx.2)]
def tkQ (s e : Nat) (tok num : Int) (M : Am_M) (r : Option Am_V) (M' : Am_M) : Prop := r = none ∧ tX mS M M' ∧ M'.1 0 41 9 = (s : Nat) ∧ M'.1 0 41 8 = (e : Nat) ∧ M'.2 = Int64.ofInt tok ∧ (tok = -1 → M'.1 0 41 12 = num)
theorem c_M_nextToken {Γ : Am_G} {d n p : Nat} {M : Am_M} {t : Nat → Int} (hW : mW M n) (ht : M.1 0 45 = t) (hp : M.1 0 41 8 = p) (hpn : p ≤ n) : am_Ev Γ (d + 2) n_M_nextToken [.inr (.inr (0, 41))] M (tkQ (tkS t n p) (tkE t n (tkS t n p)) (ttok t n (tkS t n p)) (tnum t n (tkS t n p)) M) := by
  obtain ⟨w1, w2, w3⟩ := hW
  rw [ht] at w3
  have hsb := tkS_b t hpn
  have heb := tkE_b t hsb.2
  have hts : tskip t (n - p) p = tkS t n p := rfl
  have hte : tkE t n (tkS t n p) = if n ≤ tkS t n p then tkS t n p else if tsort (t (tkS t n p)) = 2 then tkS t n p + 1 else trun t (tsort (t (tkS t n p))) (n - (tkS t n p + 1)) (tkS t n p + 1) := rfl
  have htk : ttok t n (tkS t n p) = if n ≤ tkS t n p then -2 else if tsort (t (tkS t n p)) = 0 then (if tkE t n (tkS t n p) - tkS t n p ≤ 9 then tval t (tkS t n p) (tkE t n (tkS t n p) - tkS t n p) else -4) else if tsort (t (tkS t n p)) = 1 then (if tkE t n (tkS t n p) - tkS t n p ≤ 2 then -1 else -4) else if t (tkS t n p) = 59 then -3 else -4 := rfl
  have htn : tnum t n (tkS t n p) = if tkS t n p < n ∧ tsort (t (tkS t n p)) = 1 ∧ tkE t n (tkS t n p) - tkS t n p ≤ 2 then tnv t (tkS t n p) (tkE t n (tkS t n p) - tkS t n p) else -1 := rfl
  have htb := ttok_kind t hsb.2
  generalize tkS t n p = s at *
  generalize tkE t n s = e at *
  generalize ttok t n s = tok at *
  generalize tnum t n s = num at *
  have low : ∀ M1 : Am_M, tX mS M M1 → M1.1 0 41 6 = n ∧ ∀ k, M1.1 0 45 k = t k := fun M1 h => ⟨(h 0 41 6 (by unfold mS; omega)).trans w1, fun k => (h 0 45 k (by unfold mS; omega)).trans (by rw [ht])⟩
  -- letters: the end
  have lend : s < n → tsort (t s) = 0 → ∀ M1 : Am_M, tX mS M M1 → M1.1 0 41 9 = s → M1.1 0 41 8 = e → M1.2 = Int64.ofInt (if e - s ≤ 9 then tval t s (e - s) else -4) → am_At Γ (d + 2) n_M_nextToken 191 [some (.inr (.inr (0, 41)))] [] M1 (tkQ s e tok num M) := by
    intro hsn h0 M1 hX h9 h8 hv
    rw [if_neg (by omega), if_pos h0] at htk
    refine am_go 60 [] (by decide) ?_
    refine And.intro ⟨(show am_R (M1.1 0 41 8 - M1.1 0 41 9) from ⟨by omega, by omega⟩), ⟨(by first | omega | (dsimp only [am_own]; omega)), (by first | omega | (dsimp only [am_own]; omega))⟩⟩ (And.intro (fun h => ?_) (fun h => ?_))
    · have h : 9 < M1.1 0 41 8 - M1.1 0 41 9 := h
      rw [if_neg (by omega)] at htk
      refine ⟨rfl, hX, h9, h8, ?_, fun z => ?_⟩
      · rw [htk]
      · exfalso; omega
    · have h : ¬ 9 < M1.1 0 41 8 - M1.1 0 41 9 := h
      rw [if_pos (by omega)] at htk hv
      refine ⟨rfl, hX, h9, h8, ?_, fun z => ?_⟩
      · rw [htk]; exact hv
      · exfalso
        have := (htb.2.2.mp z).2.1
        omega
  have letters : s < n → tsort (t s) = 0 → ∀ (k q : Nat) (M1 : Am_M), q + k = n → s ≤ q → tX mS M M1 → M1.1 0 41 9 = s → M1.1 0 41 8 = q → M1.2 = Int64.ofInt (if q - s ≤ 9 then tval t s (q - s) else -4) → trun t 0 k q = e → am_At Γ (d + 2) n_M_nextToken 101 [some (.inr (.inr (0, 41)))] [] M1 (tkQ s e tok num M) := by
    intro hsn h0 k
    induction k with
    | zero =>
      intro q M1 hq hsq hX h9 h8 hv he
      obtain ⟨l1, l2⟩ := low M1 hX
      have he : q = e := he
      subst he
      refine am_go 60 [101, 191] (by decide) ?_
      refine And.intro ⟨(show am_R (M1.1 0 41 8) from ⟨by omega, by omega⟩), (show am_R (M1.1 0 41 6) from ⟨by omega, by omega⟩)⟩ (And.intro (fun h => ?_) (fun h => lend hsn h0 M1 hX h9 h8 hv))
      exfalso
      have h : M1.1 0 41 8 < M1.1 0 41 6 := h
      omega
    | succ k ih =>
      intro q M1 hq hsq hX h9 h8 hv he
      obtain ⟨l1, l2⟩ := low M1 hX
      refine am_go 60 [101, 191] (by decide) ?_
      refine And.intro ⟨(show am_R (M1.1 0 41 8) from ⟨by omega, by omega⟩), (show am_R (M1.1 0 41 6) from ⟨by omega, by omega⟩)⟩ (And.intro (fun h => ?_) (fun h => ?_))
      rotate_left
      · exfalso
        have h : ¬ M1.1 0 41 8 < M1.1 0 41 6 := h
        omega
      refine And.intro (show 0 ≤ M1.1 0 41 8 ∧ M1.1 0 41 8 < 200 from ⟨by omega, by omega⟩) ?_
      have eb : M1.1 0 45 (M1.1 0 41 8).toNat = t q := by rw [h8, l2]; rfl
      have hb := w3 q (by omega)
      have hc := c_M_in (Γ := Γ) (d := d) (M := M1) (t q) 97 122 ⟨by omega, by omega⟩ ⟨by omega, by omega⟩ ⟨by omega, by omega⟩
      rw [← eb] at hc
      refine am_by hc (by omega) ?_
      rintro r M2 ⟨rfl, rfl⟩
      rw [eb]
      have he : (if tsort (t q) = 0 then trun t 0 k (q + 1) else q) = e := he
      by_cases hl : 97 ≤ t q ∧ t q ≤ 122
      · rw [if_pos hl]
        rw [if_pos (tsort_0.mpr hl)] at he
        refine And.intro ⟨(by first | omega | (dsimp only [am_own]; omega)), (by first | omega | (dsimp only [am_own]; omega))⟩ (And.intro (fun h => absurd h (by decide)) (fun _ => ?_))
        refine And.intro ⟨(show am_R (M2.1 0 41 8 - M2.1 0 41 9) from ⟨by omega, by omega⟩), ⟨(by first | omega | (dsimp only [am_own]; omega)), (by first | omega | (dsimp only [am_own]; omega))⟩⟩ (And.intro (fun h2 => ?_) (fun h2 => ?_))
        · have h2 : M2.1 0 41 8 - M2.1 0 41 9 < 9 := h2
          refine And.intro (show 0 ≤ M2.1 0 41 8 ∧ M2.1 0 41 8 < 200 from ⟨by omega, by omega⟩) ?_
          refine ih (q + 1) (am_set (M2.1, Int64.ofInt 27 * M2.2 + (Int32.ofInt (M2.1 0 45 (M2.1 0 41 8).toNat)).toInt64 - Int64.ofInt 96) 0 41 8 (M2.1 0 41 8 + 1)) (by omega) (by omega) (tX.set (M' := (M2.1, Int64.ofInt 27 * M2.2 + (Int32.ofInt (M2.1 0 45 (M2.1 0 41 8).toNat)).toInt64 - Int64.ofInt 96)) hX ⟨rfl, by omega, by omega⟩) (by rw [set_k (by decide)]; exact h9) (by rw [set_eq]; omega) ?_ he
          show Int64.ofInt 27 * M2.2 + (Int32.ofInt (M2.1 0 45 (M2.1 0 41 8).toNat)).toInt64 - Int64.ofInt 96 = _
          rw [if_pos (by omega)] at hv
          rw [hv, eb, tok_step ⟨by omega, by omega⟩, if_pos (by omega), show q + 1 - s = q - s + 1 by omega]
          have e3 : tval t s (q - s + 1) = 27 * tval t s (q - s) + (t (s + (q - s)) - 96) := rfl
          rw [e3, show s + (q - s) = q by omega, Int.add_sub_assoc]
        · have h2 : ¬ M2.1 0 41 8 - M2.1 0 41 9 < 9 := h2
          refine ih (q + 1) (am_set (M2.1, Int64.ofInt (-4)) 0 41 8 (M2.1 0 41 8 + 1)) (by omega) (by omega) (tX.set (M' := (M2.1, Int64.ofInt (-4))) hX ⟨rfl, by omega, by omega⟩) (by rw [set_k (by decide)]; exact h9) (by rw [set_eq]; omega) ?_ he
          show Int64.ofInt (-4) = _
          rw [if_neg (by omega)]
      · rw [if_neg hl]
        rw [if_neg (fun z => hl (tsort_0.mp z))] at he
        refine And.intro ⟨(by first | omega | (dsimp only [am_own]; omega)), (by first | omega | (dsimp only [am_own]; omega))⟩ (And.intro (fun _ => ?_) (fun h => absurd rfl h))
        subst he
        exact lend hsn h0 M2 hX h9 h8 hv
  -- digits
  have dend : s < n → tsort (t s) = 1 → ∀ M1 : Am_M, tX mS M M1 → M1.1 0 41 9 = s → M1.1 0 41 8 = e → M1.1 0 41 11 = ((e - s : Nat) : Int) → (e - s ≤ 2 → M1.1 0 41 12 = tnv t s (e - s)) → am_At Γ (d + 2) n_M_nextToken 333 [some (.inr (.inr (0, 41)))] [] M1 (tkQ s e tok num M) := by
    intro hsn h1 M1 hX h9 h8 h11 h12
    rw [if_neg (by omega), if_neg (by omega), if_pos h1] at htk
    refine am_go 60 [] (by decide) ?_
    refine And.intro ⟨(show am_R (M1.1 0 41 11) from ⟨by omega, by omega⟩), ⟨(by first | omega | (dsimp only [am_own]; omega)), (by first | omega | (dsimp only [am_own]; omega))⟩⟩ (And.intro (fun h => ?_) (fun h => ?_))
    · have h : 2 < M1.1 0 41 11 := h
      rw [if_neg (by omega)] at htk
      refine ⟨rfl, hX, h9, h8, ?_, fun z => ?_⟩
      · rw [htk]
      · exfalso; omega
    · have h : ¬ 2 < M1.1 0 41 11 := h
      rw [if_pos (by omega)] at htk
      refine ⟨rfl, hX, h9, h8, ?_, fun z => ?_⟩
      · rw [htk]
      · rw [htn, if_pos ⟨hsn, h1, by omega⟩]
        exact h12 (by omega)
  have digits : s < n → tsort (t s) = 1 → ∀ (k q : Nat) (M1 : Am_M), q + k = n → s ≤ q → tX mS M M1 → M1.1 0 41 9 = s → M1.1 0 41 8 = q → M1.1 0 41 11 = ((q - s : Nat) : Int) → (q - s ≤ 2 → M1.1 0 41 12 = tnv t s (q - s)) → trun t 1 k q = e → am_At Γ (d + 2) n_M_nextToken 241 [some (.inr (.inr (0, 41)))] [] M1 (tkQ s e tok num M) := by
    intro hsn h1 k
    induction k with
    | zero =>
      intro q M1 hq hsq hX h9 h8 h11 h12 he
      obtain ⟨l1, l2⟩ := low M1 hX
      have he : q = e := he
      subst he
      refine am_go 60 [241, 333] (by decide) ?_
      refine And.intro ⟨(show am_R (M1.1 0 41 8) from ⟨by omega, by omega⟩), (show am_R (M1.1 0 41 6) from ⟨by omega, by omega⟩)⟩ (And.intro (fun h => ?_) (fun h => dend hsn h1 M1 hX h9 h8 h11 h12))
      exfalso
      have h : M1.1 0 41 8 < M1.1 0 41 6 := h
      omega
    | succ k ih =>
      intro q M1 hq hsq hX h9 h8 h11 h12 he
      obtain ⟨l1, l2⟩ := low M1 hX
      refine am_go 60 [241, 333] (by decide) ?_
      refine And.intro ⟨(show am_R (M1.1 0 41 8) from ⟨by omega, by omega⟩), (show am_R (M1.1 0 41 6) from ⟨by omega, by omega⟩)⟩ (And.intro (fun h => ?_) (fun h => ?_))
      rotate_left
      · exfalso
        have h : ¬ M1.1 0 41 8 < M1.1 0 41 6 := h
        omega
      refine And.intro (show 0 ≤ M1.1 0 41 8 ∧ M1.1 0 41 8 < 200 from ⟨by omega, by omega⟩) ?_
      have eb : M1.1 0 45 (M1.1 0 41 8).toNat = t q := by rw [h8, l2]; rfl
      have hb := w3 q (by omega)
      have hc := c_M_in (Γ := Γ) (d := d) (M := M1) (t q) 48 57 ⟨by omega, by omega⟩ ⟨by omega, by omega⟩ ⟨by omega, by omega⟩
      rw [← eb] at hc
      refine am_by hc (by omega) ?_
      rintro r M2 ⟨rfl, rfl⟩
      rw [eb]
      have he : (if tsort (t q) = 1 then trun t 1 k (q + 1) else q) = e := he
      by_cases hl : 48 ≤ t q ∧ t q ≤ 57
      · rw [if_pos hl]
        rw [if_pos (tsort_1.mpr hl)] at he
        refine And.intro ⟨(by first | omega | (dsimp only [am_own]; omega)), (by first | omega | (dsimp only [am_own]; omega))⟩ (And.intro (fun h => absurd h (by decide)) (fun _ => ?_))
        have next : ∀ v : Int, (q + 1 - s ≤ 2 → v = tnv t s (q + 1 - s)) → am_At Γ (d + 2) n_M_nextToken 241 [some (.inr (.inr (0, 41)))] [] (am_set (am_set (am_set M2 0 41 12 v) 0 41 11 (M2.1 0 41 11 + 1)) 0 41 8 (M2.1 0 41 8 + 1)) (tkQ s e tok num M) := by
          intro v hv
          refine ih (q + 1) _ (by omega) (by omega) (((hX.set ⟨rfl, by omega, by omega⟩).set ⟨rfl, by omega, by omega⟩).set ⟨rfl, by omega, by omega⟩) ?_ (by rw [set_eq]; omega) ?_ (fun z => ?_) he
          · rw [set_k (by decide), set_k (by decide), set_k (by decide)]; exact h9
          · rw [set_k (by decide), set_eq, h11]; omega
          · rw [set_k (by decide), set_k (by decide), set_eq]; exact hv z
        refine And.intro ⟨(show am_R (M2.1 0 41 11) from ⟨by omega, by omega⟩), ⟨(by first | omega | (dsimp only [am_own]; omega)), (by first | omega | (dsimp only [am_own]; omega))⟩⟩ (And.intro (fun h2 => ?_) (fun h2 => ?_))
        · have h2 : M2.1 0 41 11 < 2 := h2
          refine And.intro (show 0 ≤ M2.1 0 41 8 ∧ M2.1 0 41 8 < 200 from ⟨by omega, by omega⟩) ?_
          refine next (10 * M2.1 0 41 12 + M2.1 0 45 (M2.1 0 41 8).toNat - 48) (fun _ => ?_)
          rw [eb, h12 (by omega), show q + 1 - s = q - s + 1 by omega]
          have e3 : tnv t s (q - s + 1) = 10 * tnv t s (q - s) + t (s + (q - s)) - 48 := rfl
          rw [e3, show s + (q - s) = q by omega]
        · have h2 : ¬ M2.1 0 41 11 < 2 := h2
          exact next (M2.1 0 41 12) (fun _ => by omega)
      · rw [if_neg hl]
        rw [if_neg (fun z => hl (tsort_1.mp z))] at he
        refine And.intro ⟨(by first | omega | (dsimp only [am_own]; omega)), (by first | omega | (dsimp only [am_own]; omega))⟩ (And.intro (fun _ => ?_) (fun h => absurd rfl h))
        subst he
        exact dend hsn h1 M2 hX h9 h8 h11 h12
  -- another sign
  have other : s < n → tsort (t s) = 2 → ∀ M1 : Am_M, tX mS M M1 → M1.1 0 41 9 = s → M1.1 0 41 8 = s → am_At Γ (d + 2) n_M_nextToken 357 [some (.inr (.inr (0, 41)))] [] M1 (tkQ s e tok num M) := by
    intro hsn h2 M1 hX h9 h8
    obtain ⟨l1, l2⟩ := low M1 hX
    rw [if_neg (by omega), if_neg (by omega), if_neg (by omega)] at htk
    rw [if_neg (by omega), if_pos h2] at hte
    have hb := w3 s (by omega)
    have eb : M1.1 0 45 (M1.1 0 41 8).toNat = t s := by rw [h8, l2]; rfl
    refine am_go 60 [] (by decide) ?_
    refine And.intro (show 0 ≤ M1.1 0 41 8 ∧ M1.1 0 41 8 < 200 from ⟨by omega, by omega⟩) ?_
    refine And.intro ⟨am_Re eb ⟨by omega, by omega⟩, ⟨(by first | omega | (dsimp only [am_own]; omega)), (by first | omega | (dsimp only [am_own]; omega))⟩⟩ (And.intro (fun h => ?_) (fun h => ?_))
    · have h : M1.1 0 45 (M1.1 0 41 8).toNat = 59 := h
      rw [if_pos (by omega)] at htk
      refine ⟨rfl, tX.set (M' := (M1.1, Int64.ofInt (-3))) hX ⟨rfl, by decide, by decide⟩, ?_, ?_, ?_, fun z => ?_⟩
      · rw [set_k (by decide)]; exact h9
      · rw [set_eq]
        show M1.1 0 41 8 + 1 = _
        omega
      · rw [htk]; rfl
      · exfalso; omega
    · have h : ¬ M1.1 0 45 (M1.1 0 41 8).toNat = 59 := h
      rw [if_neg (by omega)] at htk
      refine ⟨rfl, tX.set (M' := (M1.1, Int64.ofInt (-4))) hX ⟨rfl, by decide, by decide⟩, ?_, ?_, ?_, fun z => ?_⟩
      · rw [set_k (by decide)]; exact h9
      · rw [set_eq]
        show M1.1 0 41 8 + 1 = _
        omega
      · rw [htk]; rfl
      · exfalso; omega
  have s3 := tsort_3 (t s)
  have st222 : s < n → ¬ tsort (t s) = 0 → ∀ M1 : Am_M, tX mS M M1 → M1.1 0 41 9 = s → M1.1 0 41 8 = s → M1.1 0 41 11 = 0 → M1.1 0 41 12 = 0 → am_At Γ (d + 2) n_M_nextToken 222 [some (.inr (.inr (0, 41)))] [] M1 (tkQ s e tok num M) := by
    intro hsn h0 M1 hX h9 h8 h11 h12
    obtain ⟨l1, l2⟩ := low M1 hX
    have hb := w3 s (by omega)
    have eb : M1.1 0 45 (M1.1 0 41 8).toNat = t s := by rw [h8, l2]; rfl
    refine am_go 60 [241, 357] (by decide) ?_
    refine And.intro (show 0 ≤ M1.1 0 41 8 ∧ M1.1 0 41 8 < 200 from ⟨by omega, by omega⟩) ?_
    have hc := c_M_in (Γ := Γ) (d := d) (M := M1) (t s) 48 57 ⟨by omega, by omega⟩ ⟨by omega, by omega⟩ ⟨by omega, by omega⟩
    rw [← eb] at hc
    refine am_by hc (by omega) ?_
    rintro r M2 ⟨rfl, rfl⟩
    rw [eb]
    by_cases hl : 48 ≤ t s ∧ t s ≤ 57
    · rw [if_pos hl]
      have h1 := tsort_1.mpr hl
      refine And.intro ⟨(by first | omega | (dsimp only [am_own]; omega)), (by first | omega | (dsimp only [am_own]; omega))⟩ (And.intro (fun h => absurd h (by decide)) (fun _ => ?_))
      rw [if_neg (by omega), if_neg (by omega), h1] at hte
      refine digits hsn h1 (n - s) s M2 (by omega) (Nat.le_refl s) hX h9 h8 (by rw [h11, Nat.sub_self]; rfl) (fun _ => by rw [h12, Nat.sub_self]; rfl) ?_
      rw [hte, show n - s = (n - (s + 1)) + 1 by omega]
      show (if tsort (t s) = 1 then trun t 1 (n - (s + 1)) (s + 1) else s) = _
      rw [if_pos h1]
    · rw [if_neg hl]
      have h1 : ¬ tsort (t s) = 1 := fun z => hl (tsort_1.mp z)
      refine And.intro ⟨(by first | omega | (dsimp only [am_own]; omega)), (by first | omega | (dsimp only [am_own]; omega))⟩ (And.intro (fun _ => ?_) (fun h => absurd rfl h))
      exact other hsn (by omega) M2 hX h9 h8
  have st56 : ∀ M1 : Am_M, tX mS M M1 → M1.1 0 41 9 = s → M1.1 0 41 8 = s → M1.1 0 41 11 = 0 → M1.1 0 41 12 = 0 → am_At Γ (d + 2) n_M_nextToken 56 [some (.inr (.inr (0, 41)))] [] M1 (tkQ s e tok num M) := by
    intro M1 hX h9 h8 h11 h12
    obtain ⟨l1, l2⟩ := low M1 hX
    refine am_go 60 [101, 222] (by decide) ?_
    refine And.intro ⟨(show am_R (M1.1 0 41 8) from ⟨by omega, by omega⟩), (show am_R (M1.1 0 41 6) from ⟨by omega, by omega⟩)⟩ (And.intro (fun h => ?_) (fun h => ?_))
    · have h : M1.1 0 41 8 = M1.1 0 41 6 := h
      rw [if_pos (by omega)] at htk
      refine ⟨rfl, hX, h9, ?_, ?_, fun z => ?_⟩
      · have := heb.2.2.2 (by omega)
        show M1.1 0 41 8 = _
        omega
      · rw [htk]
      · exfalso; omega
    have h : ¬ M1.1 0 41 8 = M1.1 0 41 6 := h
    have hsn : s < n := by omega
    have hb := w3 s hsn
    have eb : M1.1 0 45 (M1.1 0 41 8).toNat = t s := by rw [h8, l2]; rfl
    refine And.intro (show 0 ≤ M1.1 0 41 8 ∧ M1.1 0 41 8 < 200 from ⟨by omega, by omega⟩) ?_
    have hc := c_M_in (Γ := Γ) (d := d) (M := M1) (t s) 97 122 ⟨by omega, by omega⟩ ⟨by omega, by omega⟩ ⟨by omega, by omega⟩
    rw [← eb] at hc
    refine am_by hc (by omega) ?_
    rintro r M2 ⟨rfl, rfl⟩
    rw [eb]
    by_cases hl : 97 ≤ t s ∧ t s ≤ 122
    · rw [if_pos hl]
      have h0 := tsort_0.mpr hl
      refine And.intro ⟨(by first | omega | (dsimp only [am_own]; omega)), (by first | omega | (dsimp only [am_own]; omega))⟩ (And.intro (fun h => absurd h (by decide)) (fun _ => ?_))
      rw [if_neg (by omega), if_neg (by omega), h0] at hte
      refine letters hsn h0 (n - s) s (M2.1, Int64.ofNat 0) (by omega) (Nat.le_refl s) hX h9 h8 ?_ ?_
      · rw [if_pos (by omega), Nat.sub_self]
        rfl
      · rw [hte, show n - s = (n - (s + 1)) + 1 by omega]
        show (if tsort (t s) = 0 then trun t 0 (n - (s + 1)) (s + 1) else s) = _
        rw [if_pos h0]
    · rw [if_neg hl]
      have h0 : ¬ tsort (t s) = 0 := fun z => hl (tsort_0.mp z)
      refine And.intro ⟨(by first | omega | (dsimp only [am_own]; omega)), (by first | omega | (dsimp only [am_own]; omega))⟩ (And.intro (fun _ => ?_) (fun h => absurd rfl h))
      exact st222 hsn h0 M2 hX h9 h8 h11 h12
  have st38 : ∀ M1 : Am_M, tX mS M M1 → M1.1 0 41 8 = s → am_At Γ (d + 2) n_M_nextToken 38 [some (.inr (.inr (0, 41)))] [] M1 (tkQ s e tok num M) := by
    intro M1 hX h8
    refine am_go 60 [56] (by decide) ?_
    refine st56 (am_set (am_set (am_set M1 0 41 9 (M1.1 0 41 8)) 0 41 11 0) 0 41 12 0) (((hX.set ⟨rfl, by omega, by omega⟩).set ⟨rfl, by omega, by omega⟩).set ⟨rfl, by omega, by omega⟩) ?_ ?_ ?_ ?_
    · rw [set_k (by decide), set_k (by decide), set_eq]; exact h8
    · rw [set_k (by decide), set_k (by decide), set_k (by decide)]; exact h8
    · rw [set_k (by decide), set_eq]
    · rw [set_eq]
  have skip : ∀ (k q : Nat) (M1 : Am_M), q + k = n → tX mS M M1 → M1.1 0 41 8 = q → tskip t k q = s → am_At Γ (d + 2) n_M_nextToken 0 [some (.inr (.inr (0, 41)))] [] M1 (tkQ s e tok num M) := by
    intro k
    induction k with
    | zero =>
      intro q M1 hq hX h8 he
      obtain ⟨l1, l2⟩ := low M1 hX
      have he : q = s := he
      subst he
      refine am_go 60 [0, 38] (by decide) ?_
      refine And.intro ⟨(show am_R (M1.1 0 41 8) from ⟨by omega, by omega⟩), (show am_R (M1.1 0 41 6) from ⟨by omega, by omega⟩)⟩ (And.intro (fun h => ?_) (fun h => st38 M1 hX h8))
      exfalso
      have h : M1.1 0 41 8 < M1.1 0 41 6 := h
      omega
    | succ k ih =>
      intro q M1 hq hX h8 he
      obtain ⟨l1, l2⟩ := low M1 hX
      have hb := w3 q (by omega)
      have eb : M1.1 0 45 (M1.1 0 41 8).toNat = t q := by rw [h8, l2]; rfl
      have he : (if t q = 32 then tskip t k (q + 1) else q) = s := he
      refine am_go 60 [0, 38] (by decide) ?_
      refine And.intro ⟨(show am_R (M1.1 0 41 8) from ⟨by omega, by omega⟩), (show am_R (M1.1 0 41 6) from ⟨by omega, by omega⟩)⟩ (And.intro (fun h => ?_) (fun h => ?_))
      rotate_left
      · exfalso
        have h : ¬ M1.1 0 41 8 < M1.1 0 41 6 := h
        omega
      refine And.intro (show 0 ≤ M1.1 0 41 8 ∧ M1.1 0 41 8 < 200 from ⟨by omega, by omega⟩) ?_
      refine And.intro ⟨am_Re eb ⟨by omega, by omega⟩, ⟨(by first | omega | (dsimp only [am_own]; omega)), (by first | omega | (dsimp only [am_own]; omega))⟩⟩ (And.intro (fun h2 => ?_) (fun h2 => ?_))
      · have h2 : M1.1 0 45 (M1.1 0 41 8).toNat = 32 := h2
        rw [if_pos (by omega)] at he
        exact ih (q + 1) (am_set M1 0 41 8 (M1.1 0 41 8 + 1)) (by omega) (hX.set ⟨rfl, by omega, by omega⟩) (by rw [set_eq]; omega) he
      · have h2 : ¬ M1.1 0 45 (M1.1 0 41 8).toNat = 32 := h2
        rw [if_neg (by omega)] at he
        subst he
        exact st38 M1 hX h8
  exact am_ev_of (by decide) (am_le rfl) (skip (n - p) p M (by omega) tX.rf hp hts)
