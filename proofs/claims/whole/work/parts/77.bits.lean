/-! sets as bits -/
def bt (x : Int) (i : Nat) : Bool := (Int32.ofInt x).toBitVec.getLsbD i
theorem bt_or (x y : Int) (i : Nat) : bt (am_or x y) i = (bt x i || bt y i) := by
  unfold bt am_or
  rw [Int32.ofInt_toInt, Int32.toBitVec_or, BitVec.getLsbD_or]
theorem bt_and (x y : Int) (i : Nat) : bt (am_and x y) i = (bt x i && bt y i) := by
  unfold bt am_and
  rw [Int32.ofInt_toInt, Int32.toBitVec_and, BitVec.getLsbD_and]
theorem bt_xor (x y : Int) (i : Nat) : bt (am_xor x y) i = (bt x i ^^ bt y i) := by
  unfold bt am_xor
  rw [Int32.ofInt_toInt, Int32.toBitVec_xor, BitVec.getLsbD_xor]
theorem bt_m1 : ∀ i, i < 32 → bt (-1) i = true := by decide +kernel
theorem bt_0 (i : Nat) : bt 0 i = false := by
  unfold bt
  rw [am_ofInt0]
  exact BitVec.getLsbD_zero
theorem bt_shl1 : ∀ m : Nat, m < 5 → ∀ i, i < 32 → bt (am_shl 1 (m : Int)) i = decide (i = m) := by decide +kernel
theorem bt_ext {x y : Int} (hx : am_R x) (hy : am_R y) (h : ∀ i, i < 32 → bt x i = bt y i) : x = y := by
  have e : Int32.ofInt x = Int32.ofInt y := by
    apply Int32.toBitVec_inj.mp
    apply BitVec.eq_of_getLsbD_eq
    intro i hi
    exact h i hi
  exact (am_eqI hx hy).mp e
theorem and_zero (x y : Int) : am_and x y = 0 ↔ ∀ i, i < 32 → (bt x i && bt y i) = false := by
  constructor
  · intro h i hi
    rw [← bt_and, h, bt_0]
  · intro h
    exact bt_ext (am_R_and _ _) am_R0 (fun i hi => by rw [bt_and, bt_0]; exact h i hi)
theorem shr_bit : ∀ (x : Int32) (m : Nat), m < 5 → (Int32.ofInt ((x >>> (Int32.ofInt (m : Int) &&& 31)).toInt) &&& Int32.ofInt 1) = if x.toBitVec.getLsbD m then 1 else 0 := by
  intro x m hm
  rw [Int32.ofInt_toInt]
  apply Int32.toBitVec_inj.mp
  apply BitVec.eq_of_getLsbD_eq
  intro i hi
  rw [Int32.toBitVec_and, BitVec.getLsbD_and, Int32.toBitVec_shiftRight]
  have e1 : ∀ i, i < 32 → (Int32.ofInt 1).toBitVec.getLsbD i = decide (i = 0) := by decide +kernel
  rw [e1 i hi]
  have e0 : ∀ i, i < 32 → (1 : Int32).toBitVec.getLsbD i = decide (i = 0) := by decide +kernel
  have e2 : ∀ i, (0 : Int32).toBitVec.getLsbD i = false := fun i => BitVec.getLsbD_zero
  have e3 : ∀ m : Nat, m < 5 → ((Int32.ofInt (m : Int) &&& 31).toBitVec.smod 32) = BitVec.ofNat 32 m := by decide +kernel
  rw [e3 m hm]
  by_cases q : i = 0
  · subst q
    have e4 : (BitVec.ofNat 32 m).toNat = m := by
      rw [BitVec.toNat_ofNat]
      omega
    rw [BitVec.sshiftRight_eq', e4, BitVec.getLsbD_sshiftRight]
    have : m + 0 < 32 := by omega
    simp only [this, if_true]
    by_cases q2 : x.toBitVec.getLsbD m = true
    · rw [if_pos q2, e0 0 (by omega)]
      simp [q2]
    · rw [if_neg q2, e2]
      simp [q2]
  · simp only [q, decide_false, Bool.and_false]
    by_cases q2 : x.toBitVec.getLsbD m = true
    · rw [if_pos q2, e0 i hi]
      simp [q]
    · rw [if_neg q2, e2]
theorem am_bit (x : Int) (m : Nat) (hm : m < 5) : am_and (am_shr x m) 1 = if bt x m then 1 else 0 := by
  unfold am_and am_shr
  rw [shr_bit (Int32.ofInt x) m hm]
  unfold bt
  by_cases q : (Int32.ofInt x).toBitVec.getLsbD m = true
  · rw [if_pos q, if_pos q]; decide +kernel
  · rw [if_neg q, if_neg q]; decide +kernel
theorem bt_neg {x : Int} (hx : am_R x) (h : x < 0) : bt x 31 = true := by
  unfold bt
  have h1 : (Int32.ofInt x).toInt = x := am_toInt hx
  have h2 : (Int32.ofInt x).toBitVec.toInt = x := h1
  have h3 := BitVec.toInt_neg_iff (x := (Int32.ofInt x).toBitVec)
  have h4 : 2 ^ 32 ≤ 2 * (Int32.ofInt x).toBitVec.toNat := h3.mp (by omega)
  have h5 : (Int32.ofInt x).toBitVec.msb = true := by
    rw [BitVec.msb_eq_decide]
    exact decide_eq_true (by show 2 ^ 31 ≤ (Int32.ofInt x).toBitVec.toNat; omega)
  rw [BitVec.msb_eq_getLsbD_last] at h5
  exact h5
/-- set and not come: nothing -/
theorem sub_zero (x y : Int) : am_and x (am_xor y (-1)) = 0 ↔ ∀ i, i < 32 → bt x i = true → bt y i = true := by
  rw [and_zero]
  constructor
  · intro h i hi hx
    have := h i hi
    rw [bt_xor, bt_m1 i hi, hx] at this
    simpa using this
  · intro h i hi
    rw [bt_xor, bt_m1 i hi]
    cases hx : bt x i with
    | false => rfl
    | true => rw [h i hi hx]; rfl
-- lists
theorem pig {c : List Nat} : ∀ {l : List Nat}, c.Nodup → l.length = c.length → (∀ m, m ∈ c → m ∈ l) → l.Nodup ∧ ∀ m, m ∈ l → m ∈ c := by
  induction c with
  | nil =>
    intro l _ hl _
    have : l = [] := List.eq_nil_of_length_eq_zero hl
    subst this
    exact ⟨List.nodup_nil, fun m h => h⟩
  | cons a c ih =>
    intro l hn hl hs
    have ha : a ∈ l := hs a (List.mem_cons_self ..)
    obtain ⟨hac, hc⟩ := List.nodup_cons.mp hn
    have hp := List.perm_cons_erase ha
    have hle : (l.erase a).length = c.length := by
      have := hp.length_eq
      rw [List.length_cons] at this hl
      omega
    have hsub : ∀ m, m ∈ c → m ∈ l.erase a := fun m hm => by
      have hma : m ≠ a := fun z => hac (z ▸ hm)
      exact (List.mem_erase_of_ne hma).mpr (hs m (List.mem_cons_of_mem _ hm))
    obtain ⟨i1, i2⟩ := ih hc hle hsub
    refine ⟨?_, fun m hm => ?_⟩
    · rw [hp.nodup_iff, List.nodup_cons]
      exact ⟨fun z => hac (i2 a z), i1⟩
    · have := hp.mem_iff.mp hm
      rcases List.mem_cons.mp this with rfl | h
      · exact List.mem_cons_self ..
      · exact List.mem_cons_of_mem _ (i2 m h)
/-- a list as a code, the first the greatest -/
def cdH (b : Nat) : List Nat → Nat
  | [] => 0
  | m :: l => m * b ^ l.length + cdH b l
def dgH (b : Nat) : Nat → Nat → List Nat
  | 0, _ => []
  | r + 1, code => code / b ^ r :: dgH b r (code % b ^ r)
theorem dgH_len (b : Nat) : ∀ r code, (dgH b r code).length = r
  | 0, _ => rfl
  | r + 1, code => by rw [dgH, List.length_cons, dgH_len b r]
theorem cdH_lt {b : Nat} : ∀ l : List Nat, (∀ m, m ∈ l → m < b) → cdH b l < b ^ l.length
  | [], _ => by show (0 : Nat) < 1; omega
  | m :: l, h => by
    have ih := cdH_lt l (fun x hx => h x (List.mem_cons_of_mem _ hx))
    have hm := h m (List.mem_cons_self ..)
    rw [cdH, List.length_cons, Nat.pow_succ]
    have : (m + 1) * b ^ l.length ≤ b * b ^ l.length := Nat.mul_le_mul_right _ hm
    rw [Nat.add_mul, Nat.one_mul] at this
    rw [Nat.mul_comm (b ^ l.length) b]
    omega
theorem dgH_cdH {b : Nat} (hb : 0 < b) : ∀ l : List Nat, (∀ m, m ∈ l → m < b) → dgH b l.length (cdH b l) = l
  | [], _ => rfl
  | m :: l, h => by
    have ht := fun x hx => h x (List.mem_cons_of_mem m hx)
    have hl := cdH_lt l ht
    have hp : 0 < b ^ l.length := Nat.pow_pos hb
    rw [List.length_cons, dgH, cdH]
    rw [Nat.mul_comm m, Nat.mul_add_div hp, Nat.div_eq_of_lt hl, Nat.mul_add_mod, Nat.mod_eq_of_lt hl, dgH_cdH hb l ht, Nat.add_zero]
theorem cdH_dgH (b : Nat) (hb : 0 < b) : ∀ r code, code < b ^ r → cdH b (dgH b r code) = code
  | 0, code, h => by
    have : code < 1 := h
    show 0 = code
    omega
  | r + 1, code, h => by
    have hp : 0 < b ^ r := Nat.pow_pos hb
    rw [dgH, cdH, dgH_len, cdH_dgH b hb r _ (Nat.mod_lt _ hp)]
    exact Nat.div_add_mod' code (b ^ r)
theorem dgH_b {b : Nat} (hb : 0 < b) : ∀ r code, code < b ^ r → ∀ m, m ∈ dgH b r code → m < b
  | 0, _, _, m, hm => by cases hm
  | r + 1, code, h, m, hm => by
    have hp : 0 < b ^ r := Nat.pow_pos hb
    rw [dgH] at hm
    rcases List.mem_cons.mp hm with rfl | hm
    · rw [Nat.pow_succ] at h
      exact (Nat.div_lt_iff_lt_mul hp).mpr (by rw [Nat.mul_comm]; exact h)
    · exact dgH_b hb r _ (Nat.mod_lt _ hp) m hm
/-- the place j of a code's list -/
theorem dgH_at (b : Nat) (hb : 0 < b) : ∀ r code j, code < b ^ r → j < r → (dgH b r code)[j]? = some (code / b ^ (r - 1 - j) % b)
  | 0, _, j, _, hj => absurd hj (Nat.not_lt_zero j)
  | r + 1, code, 0, h, _ => by
    rw [dgH, List.getElem?_cons_zero, show r + 1 - 1 - 0 = r by omega, Nat.mod_eq_of_lt]
    rw [Nat.pow_succ] at h
    exact (Nat.div_lt_iff_lt_mul (Nat.pow_pos hb)).mpr (by rw [Nat.mul_comm]; exact h)
  | r + 1, code, j + 1, h, hj => by
    have hp : 0 < b ^ r := Nat.pow_pos hb
    rw [dgH, List.getElem?_cons_succ, dgH_at b hb r (code % b ^ r) j (Nat.mod_lt _ hp) (by omega), show r + 1 - 1 - (j + 1) = r - 1 - j by omega]
    have e : b ^ r = b ^ (r - 1 - j) * (b * b ^ j) := by
      rw [← Nat.pow_succ', ← Nat.pow_add]
      congr 1
      omega
    rw [e, Nat.mod_mul_right_div_self, Nat.mod_mod_of_dvd _ (Nat.dvd_mul_right b (b ^ j))]
