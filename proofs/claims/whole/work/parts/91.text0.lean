/-! texts: tokens, as functions -/
def tsort (x : Int) : Int := if 97 ≤ x ∧ x ≤ 122 then 0 else if 48 ≤ x ∧ x ≤ 57 then 1 else 2
/-- over blanks -/
def tskip (t : Nat → Int) : Nat → Nat → Nat
  | 0, p => p
  | k + 1, p => if t p = 32 then tskip t k (p + 1) else p
/-- over bytes of one sort -/
def trun (t : Nat → Int) (c : Int) : Nat → Nat → Nat
  | 0, p => p
  | k + 1, p => if tsort (t p) = c then trun t c k (p + 1) else p
def tkS (t : Nat → Int) (n p : Nat) : Nat := tskip t (n - p) p
def tkE (t : Nat → Int) (n s : Nat) : Nat := if n ≤ s then s else if tsort (t s) = 2 then s + 1 else trun t (tsort (t s)) (n - (s + 1)) (s + 1)
theorem tskip_b (t : Nat → Int) : ∀ k p, p ≤ tskip t k p ∧ tskip t k p ≤ p + k
  | 0, p => ⟨Nat.le_refl _, Nat.le_refl _⟩
  | k + 1, p => by
    have := tskip_b t k (p + 1)
    unfold tskip
    split <;> omega
theorem trun_b (t : Nat → Int) (c : Int) : ∀ k p, p ≤ trun t c k p ∧ trun t c k p ≤ p + k
  | 0, p => ⟨Nat.le_refl _, Nat.le_refl _⟩
  | k + 1, p => by
    have := trun_b t c k (p + 1)
    unfold trun
    split <;> omega
theorem trun_in (t : Nat → Int) (c : Int) : ∀ k p q, p ≤ q → q < trun t c k p → tsort (t q) = c
  | 0, p, q, h1, h2 => by
    unfold trun at h2
    omega
  | k + 1, p, q, h1, h2 => by
    unfold trun at h2
    by_cases z : tsort (t p) = c
    · rw [if_pos z] at h2
      by_cases y : q = p
      · rw [y]; exact z
      · exact trun_in t c k (p + 1) q (by omega) h2
    · rw [if_neg z] at h2
      omega
theorem tkS_b (t : Nat → Int) {n p : Nat} (h : p ≤ n) : p ≤ tkS t n p ∧ tkS t n p ≤ n := by
  have := tskip_b t (n - p) p
  unfold tkS
  omega
theorem tkE_b (t : Nat → Int) {n s : Nat} (h : s ≤ n) : s ≤ tkE t n s ∧ tkE t n s ≤ n ∧ (s < n → s < tkE t n s) ∧ (s = n → tkE t n s = s) := by
  unfold tkE
  by_cases q : n ≤ s
  · rw [if_pos q]; omega
  · rw [if_neg q]
    by_cases q2 : tsort (t s) = 2
    · rw [if_pos q2]; omega
    · rw [if_neg q2]
      have := trun_b t (tsort (t s)) (n - (s + 1)) (s + 1)
      omega
theorem tsort_3 (x : Int) : tsort x = 0 ∨ tsort x = 1 ∨ tsort x = 2 := by
  unfold tsort
  split
  · exact Or.inl rfl
  · split
    · exact Or.inr (Or.inl rfl)
    · exact Or.inr (Or.inr rfl)
theorem tsort_0 {x : Int} : tsort x = 0 ↔ 97 ≤ x ∧ x ≤ 122 := by
  unfold tsort
  by_cases q : 97 ≤ x ∧ x ≤ 122
  · rw [if_pos q]; exact ⟨fun _ => q, fun _ => rfl⟩
  · rw [if_neg q]
    refine ⟨fun h => ?_, fun h => absurd h q⟩
    exfalso
    split at h <;> omega
theorem tsort_1 {x : Int} : tsort x = 1 ↔ 48 ≤ x ∧ x ≤ 57 := by
  unfold tsort
  by_cases q : 97 ≤ x ∧ x ≤ 122
  · rw [if_pos q]; exact ⟨fun h => absurd h (by decide), fun h => by omega⟩
  · rw [if_neg q]
    by_cases q2 : 48 ≤ x ∧ x ≤ 57
    · rw [if_pos q2]; exact ⟨fun _ => q2, fun _ => rfl⟩
    · rw [if_neg q2]; exact ⟨fun h => absurd h (by decide), fun h => absurd h q2⟩
theorem tkE_in (t : Nat → Int) {n s q : Nat} (h1 : s ≤ q) (h2 : q < tkE t n s) : tsort (t q) = tsort (t s) := by
  by_cases z : q = s
  · rw [z]
  · unfold tkE at h2
    by_cases q1 : n ≤ s
    · rw [if_pos q1] at h2; omega
    · rw [if_neg q1] at h2
      by_cases q2 : tsort (t s) = 2
      · rw [if_pos q2] at h2; omega
      · rw [if_neg q2] at h2
        exact trun_in t _ _ (s + 1) q (by omega) h2
/-- words -/
def wdL (w : Nat) : List Int := match w with
  | 0 => [112, 108, 97, 105, 110]
  | 1 => [119, 97, 116, 99, 104]
  | 2 => [115, 116, 111, 117, 116]
  | 3 => [116, 111, 108, 100]
  | 4 => [109, 97, 116, 116, 101, 114]
  | 5 => [102, 111, 114]
  | 6 => [97, 103, 97, 105, 110, 115, 116]
  | 7 => [99, 111, 117, 110, 116, 115]
  | 8 => [104, 111, 108, 100]
  | _ => [104, 97, 108, 108]
def wEq (t : Nat → Int) : Nat → List Int → Bool
  | _, [] => true
  | s, b :: l => if t s = b then wEq t (s + 1) l else false
def isW (t : Nat → Int) (s e w : Nat) : Bool := if e = s + (wdL w).length then wEq t s (wdL w) else false
def tfw (P : Nat → Bool) : Nat → Nat → Int
  | 0, _ => -1
  | k + 1, w => if P w = true then (w : Int) else tfw P k (w + 1)
def twd (t : Nat → Int) (s e : Nat) : Int := tfw (isW t s e) 10 0
theorem tfw_cases (P : Nat → Bool) : ∀ k w, (∃ j : Nat, w ≤ j ∧ j < w + k ∧ tfw P k w = (j : Int) ∧ P j = true) ∨ (tfw P k w = -1 ∧ ∀ j, w ≤ j → j < w + k → P j = false)
  | 0, w => Or.inr ⟨rfl, fun j a b => by omega⟩
  | k + 1, w => by
    unfold tfw
    cases q : P w with
    | true =>
      left
      exact ⟨w, Nat.le_refl _, by omega, by simp, q⟩
    | false =>
      rw [if_neg (by simp)]
      rcases tfw_cases P k (w + 1) with ⟨j, a, b, c, d⟩ | ⟨c, d⟩
      · exact Or.inl ⟨j, by omega, by omega, c, d⟩
      · refine Or.inr ⟨c, fun j a b => ?_⟩
        by_cases z : j = w
        · rw [z]; exact q
        · exact d j (by omega) (by omega)
theorem twd_cases (t : Nat → Int) (s e : Nat) : (∃ j : Nat, j < 10 ∧ twd t s e = (j : Int) ∧ isW t s e j = true) ∨ (twd t s e = -1 ∧ ∀ j, j < 10 → isW t s e j = false) := by
  rcases tfw_cases (isW t s e) 10 0 with ⟨j, a, b, c, d⟩ | ⟨c, d⟩
  · exact Or.inl ⟨j, by omega, c, d⟩
  · exact Or.inr ⟨c, fun j hj => d j (by omega) (by omega)⟩
theorem twd_b (t : Nat → Int) (s e : Nat) : -1 ≤ twd t s e ∧ twd t s e ≤ 9 := by
  rcases twd_cases t s e with ⟨j, a, b, -⟩ | ⟨a, -⟩ <;> omega
theorem wEq_iff (t : Nat → Int) : ∀ (l : List Int) (s : Nat), wEq t s l = true ↔ ∀ i, i < l.length → t (s + i) = l.getD i 0
  | [], s => ⟨fun _ i hi => absurd hi (Nat.not_lt_zero i), fun _ => rfl⟩
  | b :: l, s => by
    unfold wEq
    by_cases q : t s = b
    · rw [if_pos q, wEq_iff t l (s + 1)]
      constructor
      · intro h i hi
        cases i with
        | zero => exact q
        | succ i =>
          have := h i (by rw [List.length_cons] at hi; omega)
          rw [show s + (i + 1) = s + 1 + i by omega, this]
          rfl
      · intro h i hi
        have := h (i + 1) (by rw [List.length_cons]; omega)
        rw [show s + 1 + i = s + (i + 1) by omega, this]
        rfl
    · rw [if_neg q]
      refine ⟨fun h => absurd h (by decide), fun h => ?_⟩
      exact absurd (h 0 (by rw [List.length_cons]; omega)) q
/-- letters as digits of base 27 -/
def tvF (f : Nat → Int) : Nat → Int
  | 0 => 0
  | k + 1 => 27 * tvF f k + f k
theorem tvF_nn {f : Nat → Int} : ∀ k, (∀ i, i < k → 1 ≤ f i ∧ f i ≤ 26) → 0 ≤ tvF f k
  | 0, _ => Int.le_refl 0
  | k + 1, h => by
    have h1 := tvF_nn k (fun i hi => h i (by omega))
    have h2 := h k (by omega)
    show 0 ≤ 27 * tvF f k + f k
    omega
theorem tvF_inj {f g : Nat → Int} : ∀ k l, (∀ i, i < k → 1 ≤ f i ∧ f i ≤ 26) → (∀ i, i < l → 1 ≤ g i ∧ g i ≤ 26) → tvF f k = tvF g l → k = l ∧ ∀ i, i < k → f i = g i
  | 0, 0, _, _, _ => ⟨rfl, fun i hi => absurd hi (Nat.not_lt_zero i)⟩
  | 0, l + 1, _, h2, h => by
    have h1 := tvF_nn l (fun i hi => h2 i (by omega))
    have h3 := h2 l (by omega)
    have h : (0 : Int) = 27 * tvF g l + g l := h
    omega
  | k + 1, 0, h1, _, h => by
    have h2 := tvF_nn k (fun i hi => h1 i (by omega))
    have h3 := h1 k (by omega)
    have h : 27 * tvF f k + f k = (0 : Int) := h
    omega
  | k + 1, l + 1, h1, h2, h => by
    have h3 := h1 k (by omega)
    have h4 := h2 l (by omega)
    have h : 27 * tvF f k + f k = 27 * tvF g l + g l := h
    obtain ⟨e1, e2⟩ := tvF_inj k l (fun i hi => h1 i (by omega)) (fun i hi => h2 i (by omega)) (by omega)
    refine ⟨by omega, fun i hi => ?_⟩
    by_cases q : i = k
    · rw [q]
      subst e1
      omega
    · exact e2 i (by omega)
theorem tvF_le {f : Nat → Int} : ∀ k, (∀ i, i < k → 1 ≤ f i ∧ f i ≤ 26) → tvF f k < 27 ^ k
  | 0, _ => by
    show (0 : Int) < 27 ^ 0
    decide
  | k + 1, h => by
    have h1 := tvF_le k (fun i hi => h i (by omega))
    have h2 := h k (by omega)
    show 27 * tvF f k + f k < 27 ^ (k + 1)
    rw [Int.pow_succ]
    omega
theorem tvF_congr {f g : Nat → Int} : ∀ k, (∀ i, i < k → f i = g i) → tvF f k = tvF g k
  | 0, _ => rfl
  | k + 1, h => by
    show 27 * tvF f k + f k = 27 * tvF g k + g k
    rw [tvF_congr k (fun i hi => h i (by omega)), h k (by omega)]
def wvL (w : Nat) : Int := match w with
  | 0 => 8740238
  | 1 => 12257495
  | 2 => 10502561
  | 3 => 404923
  | 4 => 187475625
  | 5 => 4797
  | 6 => 488582165
  | 7 => 51442444
  | 8 => 168727
  | _ => 158529
theorem wv_ok : ∀ w, w < 10 → tvF (fun i => (wdL w).getD i 0 - 96) (wdL w).length = wvL w := by decide +kernel
theorem wd_let : ∀ w, w < 10 → ∀ i, i < (wdL w).length → 97 ≤ (wdL w).getD i 0 ∧ (wdL w).getD i 0 ≤ 122 := by decide +kernel
theorem wd_len : ∀ w, w < 10 → 3 ≤ (wdL w).length ∧ (wdL w).length ≤ 7 := by decide +kernel
theorem wv_b : ∀ w, w < 10 → 0 < wvL w ∧ wvL w < 1000000000 := by decide +kernel
theorem wv_inj : ∀ w, w < 10 → ∀ v, v < 10 → wvL w = wvL v → w = v := by decide +kernel
def tval (t : Nat → Int) (s k : Nat) : Int := tvF (fun i => t (s + i) - 96) k
/-- the token of letters: its value, if it is not too long -/
def ttok (t : Nat → Int) (n s : Nat) : Int := if n ≤ s then -2 else if tsort (t s) = 0 then (if tkE t n s - s ≤ 9 then tval t s (tkE t n s - s) else -4) else if tsort (t s) = 1 then (if tkE t n s - s ≤ 2 then -1 else -4) else if t s = 59 then -3 else -4
theorem ttok_word (t : Nat → Int) {n s : Nat} (hs : s ≤ n) {w : Nat} (hw : w < 10) : ttok t n s = wvL w ↔ isW t s (tkE t n s) w = true := by
  have hb := wv_b w hw
  have hl := wd_len w hw
  have he := tkE_b t hs
  unfold ttok
  by_cases q1 : n ≤ s
  · rw [if_pos q1]
    refine ⟨fun h => by omega, fun h => ?_⟩
    unfold isW at h
    rw [if_neg (by have := he.2.2.2 (by omega); omega)] at h
    cases h
  rw [if_neg q1]
  by_cases q2 : tsort (t s) = 0
  · rw [if_pos q2]
    have hlet : ∀ i, i < tkE t n s - s → 1 ≤ t (s + i) - 96 ∧ t (s + i) - 96 ≤ 26 := fun i hi => by
      have := tsort_0.mp ((tkE_in t (n := n) (q := s + i) (by omega) (by omega)).trans q2)
      omega
    have hwl : ∀ i, i < (wdL w).length → 1 ≤ (wdL w).getD i 0 - 96 ∧ (wdL w).getD i 0 - 96 ≤ 26 := fun i hi => by
      have := wd_let w hw i hi
      omega
    by_cases q3 : tkE t n s - s ≤ 9
    · rw [if_pos q3]
      constructor
      · intro h
        rw [← wv_ok w hw] at h
        obtain ⟨e1, e2⟩ := tvF_inj _ _ hlet hwl h
        unfold isW
        rw [if_pos (by omega), wEq_iff]
        intro i hi
        have := e2 i (by omega)
        omega
      · intro h
        unfold isW at h
        by_cases q4 : tkE t n s = s + (wdL w).length
        · rw [if_pos q4, wEq_iff] at h
          rw [← wv_ok w hw]
          unfold tval
          rw [show tkE t n s - s = (wdL w).length by omega]
          exact tvF_congr _ (fun i hi => by rw [h i hi])
        · rw [if_neg q4] at h; cases h
    · rw [if_neg q3]
      refine ⟨fun h => by omega, fun h => ?_⟩
      unfold isW at h
      rw [if_neg (by omega)] at h
      cases h
  · rw [if_neg q2]
    have no : isW t s (tkE t n s) w = true → False := fun h => by
      unfold isW at h
      by_cases q4 : tkE t n s = s + (wdL w).length
      · rw [if_pos q4, wEq_iff] at h
        have h0 := h 0 (by omega)
        have h1 := wd_let w hw 0 (by omega)
        rw [← h0] at h1
        exact q2 (tsort_0.mpr h1)
      · rw [if_neg q4] at h; cases h
    refine ⟨fun h => ?_, fun h => (no h).elim⟩
    exfalso
    split at h
    · split at h <;> omega
    · split at h <;> omega
theorem ttok_b (t : Nat → Int) {n s : Nat} (hs : s ≤ n) : -4 ≤ ttok t n s ∧ ttok t n s < 7625597484987 := by
  unfold ttok
  split
  · omega
  · split
    · rename_i q2
      split
      · rename_i q3
        have hlet : ∀ i, i < tkE t n s - s → 1 ≤ t (s + i) - 96 ∧ t (s + i) - 96 ≤ 26 := fun i hi => by
          have := tsort_0.mp ((tkE_in t (n := n) (q := s + i) (by omega) (by omega)).trans q2)
          omega
        have h1 := tvF_nn _ hlet
        have h2 := tvF_le _ hlet
        have h3 : ((27 : Int) ^ (tkE t n s - s)) ≤ 7625597484987 := by
          have : ∀ k, k ≤ 9 → (27 : Int) ^ k ≤ 7625597484987 := by decide +kernel
          exact this _ q3
        unfold tval
        omega
      · omega
    · split
      · split <;> omega
      · split <;> omega
theorem ttok_kind (t : Nat → Int) {n s : Nat} (hs : s ≤ n) : (ttok t n s = -2 ↔ s = n) ∧ (ttok t n s = -3 ↔ (s < n ∧ t s = 59)) ∧ (ttok t n s = -1 ↔ (s < n ∧ tsort (t s) = 1 ∧ tkE t n s - s ≤ 2)) := by
  unfold ttok
  by_cases q1 : n ≤ s
  · rw [if_pos q1]
    refine ⟨⟨fun _ => by omega, fun _ => rfl⟩, ⟨fun h => absurd h (by decide), fun h => by omega⟩, ⟨fun h => absurd h (by decide), fun h => by omega⟩⟩
  rw [if_neg q1]
  by_cases q2 : tsort (t s) = 0
  · have h59 : t s ≠ 59 := fun z => by have := tsort_0.mp q2; omega
    have hlet : ∀ i, i < tkE t n s - s → 1 ≤ t (s + i) - 96 ∧ t (s + i) - 96 ≤ 26 := fun i hi => by
      have := tsort_0.mp ((tkE_in t (n := n) (q := s + i) (by omega) (by omega)).trans q2)
      omega
    have hv : 0 ≤ tval t s (tkE t n s - s) := tvF_nn _ hlet
    rw [if_pos q2]
    refine ⟨⟨fun h => ?_, fun h => by omega⟩, ⟨fun h => ?_, fun h => absurd h.2 h59⟩, ⟨fun h => ?_, fun h => by omega⟩⟩ <;> (exfalso; split at h <;> omega)
  rw [if_neg q2]
  by_cases q3 : tsort (t s) = 1
  · have h59 : t s ≠ 59 := fun z => by have := tsort_1.mp q3; omega
    rw [if_pos q3]
    by_cases q4 : tkE t n s - s ≤ 2
    · rw [if_pos q4]
      exact ⟨⟨fun h => absurd h (by decide), fun h => by omega⟩, ⟨fun h => absurd h (by decide), fun h => absurd h.2 h59⟩, ⟨fun _ => ⟨by omega, q3, q4⟩, fun _ => rfl⟩⟩
    · rw [if_neg q4]
      exact ⟨⟨fun h => absurd h (by decide), fun h => by omega⟩, ⟨fun h => absurd h (by decide), fun h => absurd h.2 h59⟩, ⟨fun h => absurd h (by decide), fun h => absurd h.2.2 q4⟩⟩
  rw [if_neg q3]
  by_cases q5 : t s = 59
  · rw [if_pos q5]
    exact ⟨⟨fun h => absurd h (by decide), fun h => by omega⟩, ⟨fun _ => ⟨by omega, q5⟩, fun _ => rfl⟩, ⟨fun h => absurd h (by decide), fun h => absurd h.2.1 q3⟩⟩
  · rw [if_neg q5]
    exact ⟨⟨fun h => absurd h (by decide), fun h => by omega⟩, ⟨fun h => absurd h (by decide), fun h => absurd h.2 q5⟩, ⟨fun h => absurd h (by decide), fun h => absurd h.2.1 q3⟩⟩
/-- numbers -/
def tnv (t : Nat → Int) (s : Nat) : Nat → Int
  | 0 => 0
  | k + 1 => 10 * tnv t s k + t (s + k) - 48
def tnum (t : Nat → Int) (n s : Nat) : Int := if s < n ∧ tsort (t s) = 1 ∧ tkE t n s - s ≤ 2 then tnv t s (tkE t n s - s) else -1
theorem tnv_b (t : Nat → Int) (s : Nat) : ∀ k, k ≤ 2 → (∀ i, i < k → 48 ≤ t (s + i) ∧ t (s + i) ≤ 57) → 0 ≤ tnv t s k ∧ tnv t s k ≤ 99
  | 0, _, _ => by
    show (0 : Int) ≤ 0 ∧ (0 : Int) ≤ 99
    omega
  | 1, _, h => by
    have := h 0 (by omega)
    show 0 ≤ 10 * (0 : Int) + t (s + 0) - 48 ∧ 10 * (0 : Int) + t (s + 0) - 48 ≤ 99
    omega
  | 2, _, h => by
    have h0 := h 0 (by omega)
    have h1 := h 1 (by omega)
    show 0 ≤ 10 * (10 * (0 : Int) + t (s + 0) - 48) + t (s + 1) - 48 ∧ 10 * (10 * (0 : Int) + t (s + 0) - 48) + t (s + 1) - 48 ≤ 99
    omega
  | k + 3, h, _ => by omega
theorem tnum_b (t : Nat → Int) {n s : Nat} (hs : s ≤ n) : -1 ≤ tnum t n s ∧ tnum t n s ≤ 99 := by
  unfold tnum
  split
  · rename_i q
    have := tnv_b t s _ q.2.2 (fun i hi => tsort_1.mp ((tkE_in t (n := n) (q := s + i) (by omega) (by omega)).trans q.2.1))
    omega
  · omega
/-- a line -/
def tmany (w : Int) : Nat := if w = 9 then 0 else if w = 4 ∨ w = 8 then 1 else if w = 5 ∨ w = 6 then 3 else 2
def tleast (w i : Int) : Int := if w = 4 ∨ w = 8 then 1 else if w = 7 then (if i = 0 then 0 else 1) else 0
def tmost (w i pe ma : Int) : Int := if w = 4 ∨ w = 8 then 9 else if w = 7 then (if i = 0 then pe - 1 else 9) else if w = 5 ∨ w = 6 then (if i = 0 then pe - 1 else if i = 1 then ma - 1 else 9) else if i = 0 then 30 else 9
def tnums (t : Nat → Int) (n : Nat) (w pe ma : Int) : Nat → Nat → Nat → Nat ⊕ (Nat × List Int)
  | 0, _, p => .inr (p, [])
  | k + 1, i, p => if tleast w i ≤ tnum t n (tkS t n p) ∧ tnum t n (tkS t n p) ≤ tmost w i pe ma then (match tnums t n w pe ma k (i + 1) (tkE t n (tkS t n p)) with
    | .inl f => .inl f
    | .inr q => .inr (q.1, tnum t n (tkS t n p) :: q.2)) else .inl (tkS t n p)
def tbad (w pe ma : Int) : Prop := w = -1 ∨ (w ≤ 3 ∧ pe = 6) ∨ (w = 4 ∧ ma = 5)
def tline (t : Nat → Int) (n : Nat) (pe ma : Int) (p : Nat) : Nat ⊕ (Nat × Int × List Int) :=
  if twd t (tkS t n p) (tkE t n (tkS t n p)) = -1 ∨ (twd t (tkS t n p) (tkE t n (tkS t n p)) ≤ 3 ∧ pe = 6) ∨ (twd t (tkS t n p) (tkE t n (tkS t n p)) = 4 ∧ ma = 5) then .inl (tkS t n p) else (match tnums t n (twd t (tkS t n p) (tkE t n (tkS t n p))) pe ma (tmany (twd t (tkS t n p) (tkE t n (tkS t n p)))) 0 (tkE t n (tkS t n p)) with
    | .inl f => .inl f
    | .inr q => .inr (q.1, twd t (tkS t n p) (tkE t n (tkS t n p)), q.2))
def tcP (w pe : Int) : Int := if w = 9 then 0 else if w = 4 then pe else if w ≤ 3 then pe + 1 else pe
def tcM (w ma : Int) : Int := if w = 9 then 0 else if w = 4 then ma + 1 else ma
/-- a text: the fault's place or -1, the lines -/
def tread (t : Nat → Int) (n : Nat) : Nat → Int → Int → Nat → Int × List (Int × List Int)
  | 0, _, _, _ => (0, [])
  | k + 1, pe, ma, p => match tline t n pe ma p with
    | .inl f => ((f : Int), [])
    | .inr q => if tkS t n q.1 = n then (-1, [(q.2.1, q.2.2)]) else if t (tkS t n q.1) = 59 ∧ k ≠ 0 then ((tread t n k (tcP q.2.1 pe) (tcM q.2.1 ma) (tkS t n q.1 + 1)).1, (q.2.1, q.2.2) :: (tread t n k (tcP q.2.1 pe) (tcM q.2.1 ma) (tkS t n q.1 + 1)).2) else ((tkS t n q.1 : Int), [(q.2.1, q.2.2)])
theorem tnums_b (t : Nat → Int) {n : Nat} {w pe ma : Int} : ∀ k i p, p ≤ n → (∀ f, tnums t n w pe ma k i p = .inl f → f ≤ n) ∧ (∀ q, tnums t n w pe ma k i p = .inr q → q.1 ≤ n ∧ q.2.length = k ∧ ∀ j v, q.2[j]? = some v → tleast w (i + j : Nat) ≤ v ∧ v ≤ tmost w (i + j : Nat) pe ma)
  | 0, i, p, hp => ⟨fun f h => (by unfold tnums at h; cases h), fun q h => by
    unfold tnums at h
    cases h
    exact ⟨hp, rfl, fun j v hj => by simp at hj⟩⟩
  | k + 1, i, p, hp => by
    have h1 := tkS_b t hp
    have h2 := tkE_b t h1.2
    have ih := tnums_b t (n := n) (w := w) (pe := pe) (ma := ma) k (i + 1) (tkE t n (tkS t n p)) h2.2.1
    unfold tnums
    by_cases q : tleast w i ≤ tnum t n (tkS t n p) ∧ tnum t n (tkS t n p) ≤ tmost w i pe ma
    · rw [if_pos q]
      cases hr : tnums t n w pe ma k (i + 1) (tkE t n (tkS t n p)) with
      | inl f =>
        refine ⟨fun f' h => ?_, fun q' h => by cases h⟩
        cases h
        exact ih.1 f hr
      | inr r =>
        refine ⟨fun f' h => (by cases h), fun q' h => ?_⟩
        cases h
        obtain ⟨a, b, c⟩ := ih.2 r hr
        refine ⟨a, by rw [List.length_cons, b], fun j v hj => ?_⟩
        cases j with
        | zero =>
          simp at hj
          subst hj
          exact q
        | succ j =>
          have := c j v (by simpa using hj)
          rw [show i + (j + 1) = i + 1 + j by omega]
          exact this
    · rw [if_neg q]
      refine ⟨fun f' h => ?_, fun q' h => by cases h⟩
      cases h
      exact h1.2
theorem tline_b (t : Nat → Int) {n p : Nat} {pe ma : Int} (hp : p ≤ n) : (∀ f, tline t n pe ma p = .inl f → f ≤ n) ∧ (∀ q, tline t n pe ma p = .inr q → q.1 ≤ n ∧ (0 ≤ q.2.1 ∧ q.2.1 ≤ 9) ∧ ¬ tbad q.2.1 pe ma ∧ q.2.2.length = tmany q.2.1 ∧ ∀ j v, q.2.2[j]? = some v → tleast q.2.1 (j : Nat) ≤ v ∧ v ≤ tmost q.2.1 (j : Nat) pe ma) := by
  have h1 := tkS_b t hp
  have h2 := tkE_b t h1.2
  unfold tline
  generalize hw : twd t (tkS t n p) (tkE t n (tkS t n p)) = w
  have hwb := twd_b t (tkS t n p) (tkE t n (tkS t n p))
  rw [hw] at hwb
  have ih := tnums_b t (n := n) (w := w) (pe := pe) (ma := ma) (tmany w) 0 (tkE t n (tkS t n p)) h2.2.1
  by_cases q : w = -1 ∨ (w ≤ 3 ∧ pe = 6) ∨ (w = 4 ∧ ma = 5)
  · rw [if_pos q]
    refine ⟨fun f' h => ?_, fun q' h => by cases h⟩
    cases h
    exact h1.2
  · rw [if_neg q]
    cases hr : tnums t n w pe ma (tmany w) 0 (tkE t n (tkS t n p)) with
    | inl f =>
      refine ⟨fun f' h => ?_, fun q' h => by cases h⟩
      cases h
      exact ih.1 f hr
    | inr r =>
      refine ⟨fun f' h => (by cases h), fun q' h => ?_⟩
      cases h
      obtain ⟨a, b, c⟩ := ih.2 r hr
      refine ⟨a, (show 0 ≤ w ∧ w ≤ 9 by omega), q, b, fun j v hj => ?_⟩
      have := c j v hj
      rw [Nat.zero_add] at this
      exact this
