/-! fair: what both seek -/
def ctr (arm l : Int) : Nat → Int → Int
  | 0, _ => -1
  | k + 1, c => if l ≤ c * arm then c else ctr arm l k (c + 1)
theorem ctr_spec (arm l : Int) : ∀ (k : Nat) (c : Int), 1 ≤ c → (ctr arm l k c = -1 ∧ ∀ c', c ≤ c' → c' < c + k → c' * arm < l) ∨ (c ≤ ctr arm l k c ∧ ctr arm l k c < c + k ∧ l ≤ ctr arm l k c * arm ∧ ∀ c', c ≤ c' → c' < ctr arm l k c → c' * arm < l)
  | 0, c, _ => Or.inl ⟨rfl, fun c' h1 h2 => by omega⟩
  | k + 1, c, hc => by
    rw [ctr]
    by_cases q : l ≤ c * arm
    · rw [if_pos q]
      exact Or.inr ⟨Int.le_refl c, by push_cast; omega, q, fun c' h1 h2 => by omega⟩
    · rw [if_neg q]
      rcases ctr_spec arm l k (c + 1) (by omega) with ⟨h1, h2⟩ | ⟨h1, h2, h3, h4⟩
      · refine Or.inl ⟨h1, fun c' a b => ?_⟩
        by_cases q2 : c' = c
        · rw [q2]; omega
        · exact h2 c' (by omega) (by push_cast at b; omega)
      · refine Or.inr ⟨by omega, by push_cast; omega, h3, fun c' a b => ?_⟩
        by_cases q2 : c' = c
        · rw [q2]; omega
        · exact h4 c' (by omega) b
/-- fewest counts that reach l -/
def ctF (arm l : Int) : Int := ctr arm l 9 1
theorem ctF_le {arm l c : Int} (h1 : 1 ≤ c) (h9 : c ≤ 9) (hl : l ≤ c * arm) : 1 ≤ ctF arm l ∧ ctF arm l ≤ c ∧ l ≤ ctF arm l * arm := by
  unfold ctF
  rcases ctr_spec arm l 9 1 (by omega) with ⟨a1, a2⟩ | ⟨a1, a2, a3, a4⟩
  · exact absurd (a2 c h1 (by omega)) (by omega)
  · refine ⟨a1, ?_, a3⟩
    rcases Int.lt_or_le c (ctr arm l 9 1) with q | q
    · exact absurd (a4 c h1 q) (by omega)
    · exact q
theorem ctF_b {arm l : Int} (h : ctF arm l ≠ -1) : 1 ≤ ctF arm l ∧ ctF arm l ≤ 9 ∧ l ≤ ctF arm l * arm := by
  unfold ctF at h ⊢
  rcases ctr_spec arm l 9 1 (by omega) with ⟨a1, a2⟩ | ⟨a1, a2, a3, a4⟩
  · exact absurd a1 h
  · exact ⟨a1, by omega, a3⟩
theorem ctF_mono {arm l l' : Int} (h : l ≤ l') (h' : ctF arm l' ≠ -1) : ctF arm l ≤ ctF arm l' := by
  obtain ⟨a, b, c⟩ := ctF_b h'
  exact (ctF_le (c := ctF arm l') a b (by omega)).2.1
/-- rows as codes: the last one's counts are the last digit -/
def cdO (d : Nat → Nat) : Nat → Nat
  | 0 => 0
  | k + 1 => cdO d k * 9 + d k
def dgO : Nat → Nat → Nat → Nat
  | 0, _, _ => 0
  | k + 1, code, i => if i = k then code % 9 else dgO k (code / 9) i
theorem dgO_lt : ∀ (k code i : Nat), dgO k code i < 9
  | 0, _, _ => by show (0 : Nat) < 9; omega
  | k + 1, code, i => by
    rw [dgO]
    split
    · omega
    · exact dgO_lt k (code / 9) i
theorem cdO_lt {d : Nat → Nat} : ∀ k, (∀ i, i < k → d i < 9) → cdO d k < 9 ^ k
  | 0, _ => by show (0 : Nat) < 1; omega
  | k + 1, h => by
    have ih := cdO_lt (d := d) k (fun i hi => h i (by omega))
    have := h k (by omega)
    rw [cdO, Nat.pow_succ]
    omega
theorem cdO_congr {d e : Nat → Nat} : ∀ k, (∀ i, i < k → d i = e i) → cdO d k = cdO e k
  | 0, _ => rfl
  | k + 1, h => by rw [cdO, cdO, cdO_congr k (fun i hi => h i (by omega)), h k (by omega)]
theorem cdO_dgO : ∀ (k code : Nat), code < 9 ^ k → cdO (dgO k code) k = code
  | 0, code, h => by
    have : code < 1 := h
    show 0 = code
    omega
  | k + 1, code, h => by
    rw [cdO]
    have e1 : dgO (k + 1) code k = code % 9 := by rw [dgO, if_pos rfl]
    have e2 : cdO (dgO (k + 1) code) k = cdO (dgO k (code / 9)) k := cdO_congr k (fun i hi => by rw [dgO, if_neg (by omega)])
    rw [e1, e2, cdO_dgO k (code / 9) (by rw [Nat.pow_succ] at h; omega)]
    omega
theorem cdO_mono {d e : Nat → Nat} : ∀ k, (∀ i, i < k → d i ≤ e i) → cdO d k ≤ cdO e k
  | 0, _ => Nat.le_refl 0
  | k + 1, h => by
    have ih := cdO_mono (d := d) (e := e) k (fun i hi => h i (by omega))
    have := h k (by omega)
    rw [cdO, cdO]
    omega
theorem dgO_cdO {d : Nat → Nat} : ∀ k, (∀ i, i < k → d i < 9) → ∀ i, i < k → dgO k (cdO d k) i = d i
  | 0, _, i, hi => absurd hi (Nat.not_lt_zero i)
  | k + 1, h, i, hi => by
    have := h k (by omega)
    rw [dgO, cdO]
    by_cases q : i = k
    · rw [if_pos q, q]; omega
    · rw [if_neg q, show (cdO d k * 9 + d k) / 9 = cdO d k by omega]
      exact dgO_cdO k (fun j hj => h j (by omega)) i (by omega)
theorem dgO_div : ∀ (k code i : Nat), i < k → dgO k code i = code / 9 ^ (k - 1 - i) % 9
  | 0, _, i, hi => absurd hi (Nat.not_lt_zero i)
  | k + 1, code, i, hi => by
    rw [dgO]
    by_cases q : i = k
    · rw [if_pos q, q, show k + 1 - 1 - k = 0 by omega, Nat.pow_zero, Nat.div_one]
    · rw [if_neg q, dgO_div k (code / 9) i (by omega), Nat.div_div_eq_div_mul, ← Nat.pow_succ', show (k - 1 - i).succ = k + 1 - 1 - i by omega]
/-- the spread of a code, as the reference lays it -/
def spL (arm : Nat → Int) : Nat → Nat → Int → Int → Int
  | 0, _, mo, fe => mo - fe
  | k + 1, left, mo, fe => spL arm k (left / 9) (if mo < ((left % 9 : Nat) + 1 : Int) * arm k then ((left % 9 : Nat) + 1 : Int) * arm k else mo) (if ((left % 9 : Nat) + 1 : Int) * arm k < fe then ((left % 9 : Nat) + 1 : Int) * arm k else fe)
theorem spL_spec (arm : Nat → Int) : ∀ (k left : Nat) (mo fe : Int), ∃ mo' fe', spL arm k left mo fe = mo' - fe' ∧ mo ≤ mo' ∧ (∀ i, i < k → ((dgO k left i : Nat) + 1 : Int) * arm i ≤ mo') ∧ (mo' = mo ∨ ∃ i, i < k ∧ mo' = ((dgO k left i : Nat) + 1 : Int) * arm i) ∧ fe' ≤ fe ∧ (∀ i, i < k → fe' ≤ ((dgO k left i : Nat) + 1 : Int) * arm i) ∧ (fe' = fe ∨ ∃ i, i < k ∧ fe' = ((dgO k left i : Nat) + 1 : Int) * arm i)
  | 0, left, mo, fe => ⟨mo, fe, rfl, Int.le_refl _, fun i hi => absurd hi (Nat.not_lt_zero i), Or.inl rfl, Int.le_refl _, fun i hi => absurd hi (Nat.not_lt_zero i), Or.inl rfl⟩
  | k + 1, left, mo, fe => by
    have ek : ((dgO (k + 1) left k : Nat) + 1 : Int) * arm k = ((left % 9 : Nat) + 1 : Int) * arm k := by rw [dgO, if_pos rfl]
    have ei : ∀ i, i < k → dgO (k + 1) left i = dgO k (left / 9) i := fun i hi => by rw [dgO, if_neg (by omega)]
    rw [spL]
    obtain ⟨mo', fe', h1, h2, h3, h4, h5, h6, h7⟩ := spL_spec arm k (left / 9) (if mo < ((left % 9 : Nat) + 1 : Int) * arm k then ((left % 9 : Nat) + 1 : Int) * arm k else mo) (if ((left % 9 : Nat) + 1 : Int) * arm k < fe then ((left % 9 : Nat) + 1 : Int) * arm k else fe)
    generalize hv : ((left % 9 : Nat) + 1 : Int) * arm k = v at *
    have m1 : mo ≤ mo' ∧ v ≤ mo' := by
      by_cases q : mo < v
      · rw [if_pos q] at h2; omega
      · rw [if_neg q] at h2; omega
    have f1 : fe' ≤ fe ∧ fe' ≤ v := by
      by_cases q : v < fe
      · rw [if_pos q] at h5; omega
      · rw [if_neg q] at h5; omega
    refine ⟨mo', fe', h1, m1.1, fun i hi => ?_, ?_, f1.1, fun i hi => ?_, ?_⟩
    · by_cases q : i = k
      · rw [q, ek]; exact m1.2
      · rw [ei i (by omega)]; exact h3 i (by omega)
    · rcases h4 with h4 | ⟨i, hi, h4⟩
      · by_cases q : mo < v
        · rw [if_pos q] at h4
          exact Or.inr ⟨k, by omega, by rw [ek]; exact h4⟩
        · rw [if_neg q] at h4
          exact Or.inl h4
      · exact Or.inr ⟨i, by omega, by rw [ei i hi]; exact h4⟩
    · by_cases q : i = k
      · rw [q, ek]; exact f1.2
      · rw [ei i (by omega)]; exact h6 i (by omega)
    · rcases h7 with h7 | ⟨i, hi, h7⟩
      · by_cases q : v < fe
        · rw [if_pos q] at h7
          exact Or.inr ⟨k, by omega, by rw [ek]; exact h7⟩
        · rw [if_neg q] at h7
          exact Or.inl h7
      · exact Or.inr ⟨i, by omega, by rw [ei i hi]; exact h7⟩
def spF (arm : Nat → Int) (n code : Nat) : Int := spL arm n code 0 1000
/-- what the class has of a least: its greatest -/
def grF (arm : Nat → Int) (l : Int) : Nat → Int
  | 0 => l
  | k + 1 => if grF arm l k < ctF (arm k) l * arm k then ctF (arm k) l * arm k else grF arm l k
theorem grF_spec (arm : Nat → Int) (l : Int) : ∀ k, l ≤ grF arm l k ∧ (∀ i, i < k → ctF (arm i) l * arm i ≤ grF arm l k) ∧ (grF arm l k = l ∨ ∃ i, i < k ∧ grF arm l k = ctF (arm i) l * arm i)
  | 0 => ⟨Int.le_refl _, fun i hi => absurd hi (Nat.not_lt_zero i), Or.inl rfl⟩
  | k + 1 => by
    obtain ⟨h1, h2, h3⟩ := grF_spec arm l k
    rw [grF]
    by_cases q : grF arm l k < ctF (arm k) l * arm k
    · rw [if_pos q]
      refine ⟨by omega, fun i hi => ?_, Or.inr ⟨k, by omega, rfl⟩⟩
      by_cases q2 : i = k
      · rw [q2]; omega
      · have := h2 i (by omega); omega
    · rw [if_neg q]
      refine ⟨h1, fun i hi => ?_, ?_⟩
      · by_cases q2 : i = k
        · rw [q2]; omega
        · exact h2 i (by omega)
      · rcases h3 with h3 | ⟨i, hi, h3⟩
        · exact Or.inl h3
        · exact Or.inr ⟨i, by omega, h3⟩
def okF (arm : Nat → Int) (n : Nat) (l : Int) : Prop := ∀ i, i < n → ctF (arm i) l ≠ -1
/-- what the class seeks -/
def fairC (arm : Nat → Int) (n : Nat) (l0 : Int) (Seen : Int → Prop) : Prop := (okF arm n l0 ∧ ∃ j c, j < n ∧ 1 ≤ c ∧ c ≤ 9 ∧ l0 = c * arm j) ∧ ∀ l, Seen l → okF arm n l → grF arm l0 n - l0 < grF arm l n - l ∨ (grF arm l0 n - l0 = grF arm l n - l ∧ l0 ≤ l)
/-- what the reference seeks -/
def fairR (arm : Nat → Int) (n found : Nat) : Prop := found < 9 ^ n ∧ (∀ c, c < 9 ^ n → spF arm n found ≤ spF arm n c) ∧ (∀ c, c < found → spF arm n found < spF arm n c)
theorem fair_eq {arm : Nat → Int} {n found : Nat} {l0 : Int} (hn : 1 ≤ n) (ha : ∀ i, i < n → 0 ≤ arm i ∧ arm i ≤ 30) (hC : fairC arm n l0 (fun l => ∃ j c, j < n ∧ 1 ≤ c ∧ c ≤ 9 ∧ l = c * arm j)) (hR : fairR arm n found) : spF arm n found = grF arm l0 n - l0 ∧ ∀ i, i < n → ((dgO n found i : Nat) + 1 : Int) = ctF (arm i) l0 := by
  obtain ⟨⟨hok, j0, c0, hj0, hc1, hc9, hl0⟩, hmin⟩ := hC
  obtain ⟨hf, hopt, hfirst⟩ := hR
  have vb : ∀ (c : Int) i, i < n → 1 ≤ c → c ≤ 9 → 0 ≤ c * arm i ∧ c * arm i ≤ 270 := fun c i hi h1 h9 => by
    have := ha i hi
    have := mul_b (a := c) (b := arm i) (A := 9) (B := 30) (by omega) (by omega)
    omega
  have dR : ∀ i, i < n → 1 ≤ ctF (arm i) l0 ∧ ctF (arm i) l0 ≤ 9 ∧ l0 ≤ ctF (arm i) l0 * arm i := fun i hi => ctF_b (hok i hi)
  have d9 : ∀ i, i < n → (ctF (arm i) l0 - 1).toNat < 9 := fun i hi => by have := dR i hi; omega
  obtain ⟨mf, ff, s1, s2, s3, s4, s5, s6, s7⟩ := spL_spec arm n found 0 1000
  obtain ⟨m0, f0, t1, t2, t3, t4, t5, t6, t7⟩ := spL_spec arm n (cdO (fun i => (ctF (arm i) l0 - 1).toNat) n) 0 1000
  have dg0 : ∀ i, i < n → ((dgO n (cdO (fun i => (ctF (arm i) l0 - 1).toNat) n) i : Nat) + 1 : Int) = ctF (arm i) l0 := fun i hi => by
    rw [dgO_cdO n d9 i hi]
    have := dR i hi
    omega
  have o1 := hopt _ (cdO_lt n d9)
  have o1' : mf - ff ≤ m0 - f0 := by
    unfold spF at o1
    omega
  have db : ∀ i, i < n → (1 : Int) ≤ ((dgO n found i : Nat) + 1 : Int) ∧ ((dgO n found i : Nat) + 1 : Int) ≤ 9 := fun i hi => by
    have := dgO_lt n found i
    omega
  -- the least of the first best row
  have hff : ∃ i, i < n ∧ ff = ((dgO n found i : Nat) + 1 : Int) * arm i := by
    rcases s7 with h | h
    · have := s6 0 (by omega)
      have := vb _ 0 (by omega) (db 0 (by omega)).1 (db 0 (by omega)).2
      omega
    · exact h
  obtain ⟨jf, hjf, eff⟩ := hff
  have okL : okF arm n ff := fun i hi => by
    have := ctF_le (arm := arm i) (l := ff) (db i hi).1 (db i hi).2 (s6 i hi)
    omega
  have leL : ∀ i, i < n → ctF (arm i) ff ≤ ((dgO n found i : Nat) + 1 : Int) := fun i hi => (ctF_le (arm := arm i) (l := ff) (db i hi).1 (db i hi).2 (s6 i hi)).2.1
  obtain ⟨u1, u2, u3⟩ := grF_spec arm ff n
  obtain ⟨w1, w2, w3⟩ := grF_spec arm l0 n
  have gL : grF arm ff n ≤ mf := by
    rcases u3 with h | ⟨i, hi, h⟩
    · have := s3 jf hjf; omega
    · have h1 := leL i hi
      have h2 := s3 i hi
      have h3 : ctF (arm i) ff * arm i ≤ ((dgO n found i : Nat) + 1 : Int) * arm i := Int.mul_le_mul_of_nonneg_right h1 (ha i hi).1
      omega
  have g0 : m0 ≤ grF arm l0 n := by
    rcases t4 with h | ⟨i, hi, h⟩
    · have := vb c0 j0 hj0 hc1 hc9; omega
    · rw [dg0 i hi] at h
      have := w2 i hi; omega
  have f0l : l0 ≤ f0 := by
    rcases t7 with h | ⟨i, hi, h⟩
    · have := vb c0 j0 hj0 hc1 hc9; omega
    · rw [dg0 i hi] at h
      have := (dR i hi).2.2; omega
  have hm := hmin ff ⟨jf, _, hjf, (db jf hjf).1, (db jf hjf).2, eff⟩ okL
  have hle : l0 ≤ ff := by omega
  have hsp : mf - ff = grF arm l0 n - l0 := by omega
  have hlex : cdO (fun i => (ctF (arm i) l0 - 1).toNat) n ≤ found := by
    have h1 := cdO_mono (d := fun i => (ctF (arm i) l0 - 1).toNat) (e := dgO n found) n (fun i hi => by
      have h1 := ctF_mono hle (okL i hi)
      have h2 := leL i hi
      show (ctF (arm i) l0 - 1).toNat ≤ dgO n found i
      omega)
    rw [cdO_dgO n found hf] at h1
    exact h1
  have heq : cdO (fun i => (ctF (arm i) l0 - 1).toNat) n = found := by
    rcases Nat.lt_or_ge (cdO (fun i => (ctF (arm i) l0 - 1).toNat) n) found with h | h
    · have := hfirst _ h
      unfold spF at this
      omega
    · omega
  refine ⟨by unfold spF; omega, fun i hi => ?_⟩
  have := dg0 i hi
  rw [heq] at this
  exact this
