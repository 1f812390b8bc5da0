/-! the law: rows -/
section LWC
variable {p : Program} {l : Launch} {e : Env} {R : Room} {s : State} {m : MethodId} {args : Array Value} {below : List Frame} {meth : Method} {c : Code} {H : Heap} {locs : List Loc} {cells slots : Nat} {Q : State → Prop}
theorem am_callL {Γ : Am_G} {K' : Option Am_V → Am_M → Prop} {pc : Nat} {ls : Array Slot} {rest st0 : List Value} {a : Array Value} {H0 : Heap} {A0 : Nat → Prop} (hr : va_Run p l e R s m args below meth c H locs cells slots 0 0 (F0 m pc ls st0) rest (am_Q Γ K' a) (am_A Γ)) (hS : va_S A0 H0 H locs) (hA : ∀ q, am_A Γ q → A0 q)
    (kk : ∀ (v : Option Am_V) (M' : Am_M) (H1 : Heap) (locs1 : List Loc), K' v M' → va_P Γ.1 vwCl (am_world Γ M') H1 → va_S A0 H0 H1 locs1 → W p l e R s m args below meth c H1 locs1 cells slots Q (F0 m (pc + 3) ls ((v.map (am_c Γ.2.2.1)).toList ++ rest))) : W p l e R s m args below meth c H locs cells slots Q (F0 m pc ls st0) := by
  intro T hT X
  obtain ⟨v, st₀, t, T', L, h0, X', hL, e1, e2, ⟨⟨r, M', hv, hK, hok, hP1, hF1⟩, hz, hk⟩, st⟩ := hr T hT X
  cases hv
  rw [h0] at hz hk
  obtain ⟨t2, a1, b1⟩ := kk r M' T'.heap (locs ++ L) hK (by rw [e1]; exact hP1) ⟨Nat.le_trans hS.1 (by rw [e1]; exact hz), fun q h1 h2 => by rw [e1, hk q (Nat.lt_of_lt_of_le h1 hS.1) (fun z => h2 (hA q z))]; exact hS.2.1 q h1 h2, fun q hq => by
      rcases List.mem_append.mp hq with h | h
      · exact hS.2.2 q h
      · exact hA _ (hL q h)⟩ T' rfl X'
  exact ⟨t2, st t2 a1, b1⟩
end LWC
def lw_mlok (x : Nat × Nat) : Prop := Cond.methodLink R_law x.1 (am_mi x.2).1 ∈ am_tbl ∧ Cond.instanceMethod (am_mi x.2).1 ∈ am_tbl ∧ Cond.selects (am_mi x.2).1.cls (am_mi x.2).1 (am_mi x.2).1 ∈ am_tbl ∧ Cond.initialized (am_mi x.2).1.cls ∈ am_tbl
def lwv (Γ : Am_G) (b i : Nat) : List (Nat × Value) := [(3, .int (nI i)), (2, .ref (Γ.2.2.1 0 41)), (1, .ref (Γ.2.2.1 0 11)), (0, .ref b)]
/-- an argument: script[i + k] -/
def lw_ckA (pc k : Nat) : Bool := decide (decode code pc = .ok (.aload_n 0, 1)) && (decide (decode code (pc + 1) = .ok (.iload_n 3, 1)) && (decide (decode code (pc + 2) = .ok (.iconst (k : Int), 1)) && (decide (decode code (pc + 3) = .ok (.iadd, 1)) && decide (decode code (pc + 4) = .ok (.iaload, 1)))))
def lw_ckN : Nat → Nat → Nat → Bool
  | 0, _, _ => true
  | n + 1, pc, k => lw_ckA pc k && lw_ckN n (pc + 5) (k + 1)
def lw_ckM (n k : Nat) (C : String) : Bool := Nat.blt n 163 && (decide ((parseMethodDescriptor (am_mi n).1.desc).map (fun d => d.parameters.length) = some k) && decide ((am_mi n).1.cls = C))
def lw_ckS (pc k i1 n1 i2 n2 : Nat) : Bool := (lw_ckM n1 k RX11 && lw_ckM n2 k RX12) && (decide (decode code pc = .ok (.aload_n 1, 1)) && (lw_ckN k (pc + 1) 1 && (decide (decode code (pc + 1 + 5 * k) = .ok (.invokevirtual i1, 3)) && (decide (decode code (pc + 1 + 5 * k + 3) = .ok (.aload_n 2, 1)) && (lw_ckN k (pc + 1 + 5 * k + 3 + 1) 1 && (decide (decode code (pc + 1 + 5 * k + 3 + 1 + 5 * k) = .ok (.invokevirtual i2, 3)) && decide (decode code (pc + 1 + 5 * k + 3 + 1 + 5 * k + 3) = .ok (.if_icmp .eq (951 - ((pc + 1 + 5 * k + 3 + 1 + 5 * k + 3 : Nat) : Int)), 3))))))))
def lwA (xs : Nat → Int32) (i : Nat) : Nat → Nat → List Int32
  | _, 0 => []
  | k, n + 1 => xs (i + k) :: lwA xs i (k + 1) n
def lwV (xs : Nat → Int32) (i n : Nat) : List Am_V := (lwA xs i 1 n).map (fun x => .inl x.toInt)
theorem lwA_len (xs : Nat → Int32) (i : Nat) : ∀ n k, (lwA xs i k n).length = n
  | 0, _ => rfl
  | n + 1, k => by
    show (lwA xs i (k + 1) n).length + 1 = n + 1
    rw [lwA_len xs i n (k + 1)]
theorem lwV_c {ρ : Nat → Nat → Nat} {xs : Nat → Int32} {i n : Nat} : (lwV xs i n).map (am_c ρ) = (lwA xs i 1 n).map Value.int := by
  unfold lwV
  rw [List.map_map]
  apply List.map_congr_left
  intro x _
  show Value.int (Int32.ofInt x.toInt) = Value.int x
  rw [Int32.ofInt_toInt]
theorem lwR (x : Int32) : am_R x.toInt := ⟨by have := Int32.le_toInt x; omega, by have := Int32.toInt_lt x; omega⟩
section LW
variable {p : Program} {l : Launch} {e : Env} {s : State} {m : MethodId} {below : List Frame} {meth : Method} {c : Code} {Γ : Am_G} {b L : Nat} {xs : Nat → Int32} {M : Am_M} {pc i : Nat} {st : List Value}
def lw_Cx (p : Program) (s : State) (m : MethodId) (meth : Method) (c : Code) (b L : Nat) (xs : Nat → Int32) (Γ : Am_G) : Prop := lw_At p s m meth c b L xs ∧ am_Fix Γ s s.heap ∧ (∀ q, am_A Γ q → s.heap.size ≤ q) ∧ L ≤ 2560
def lw_G (p : Program) (l : Launch) (e : Env) (s : State) (m : MethodId) (below : List Frame) (meth : Method) (c : Code) (Γ : Am_G) (b pc i : Nat) (st : List Value) (M : Am_M) : Prop := ∀ (H : Heap) (locs : List Loc) (lr : Array Slot), va_P Γ.1 vwCl (am_world Γ M) H → va_S (fun q => s.heap.size ≤ q) s.heap H locs → lv_has lr 4 (lwv Γ b i) → W p l e room_1 s m #[Value.ref b] below meth c H locs 150 2374 (lw_Z below #[Value.ref b] s) (F0 m pc lr st)
theorem lw_al {k : Fin 4} {x : Nat} (C : lw_Cx p s m meth c b L xs Γ) (j : Nat) (hd : decode code pc = .ok (.aload_n k, 1)) (hj : (lwv Γ b i)[j]? = some ((k : Nat), .ref x)) (kk : lw_G p l e s m below meth c Γ b (pc + 1) i (.ref x :: st) M) : lw_G p l e s m below meth c Γ b pc i st M := fun H locs lr hP hS hl => lv_aload_n C.1.1 C.1.2.1 hd rfl (lv_at hl j hj) (kk H locs lr hP hS hl)
theorem lw_nIadd (a k : Nat) : nI a + nI k = nI (a + k) := by
  unfold nI
  rw [Int32.ofNat_add]
theorem lw_arg {k : Nat} (C : lw_Cx p s m meth c b L xs Γ) (hck : lw_ckA pc k = true) (hk : k ≤ 5) (hi : i + k < L) (kk : lw_G p l e s m below meth c Γ b (pc + 5) i (.int (xs (i + k)) :: st) M) : lw_G p l e s m below meth c Γ b pc i st M := by
  intro H locs lr hP hS hl
  unfold lw_ckA at hck
  simp only [Bool.and_eq_true, decide_eq_true_eq] at hck
  obtain ⟨d0, d1, d2, d3, d4⟩ := hck
  have hL := C.2.2.2
  refine lv_aload_n C.1.1 C.1.2.1 d0 rfl (lv_at hl 3 rfl) ?_
  refine lv_iload_n C.1.1 C.1.2.1 d1 rfl (lv_at hl 0 rfl) ?_
  refine lv_iconst (v := nI k) C.1.1 C.1.2.1 d2 (by unfold nI; exact Int32.ofInt_eq_ofNat) ?_
  refine lv_iadd C.1.1 C.1.2.1 d3 ?_
  rw [lw_nIadd]
  refine va_sld C.1.1 C.1.2.1 C.1.2.2.2.2.2.2.1 C.1.2.2.2.2.2.2.2.1 (A := fun q => s.heap.size ≤ q) (Nat.not_le.mpr C.1.2.2.2.2.2.2.2.1) hS (vp_in_nI hi (by omega)) d4 ?_
  rw [nI_clamp (by omega)]
  exact kk H locs lr hP hS hl
theorem lw_push (C : lw_Cx p s m meth c b L xs Γ) : ∀ (n pc k : Nat) (st : List Value), lw_ckN n pc k = true → k + n ≤ 5 → i + k + n ≤ L → lw_G p l e s m below meth c Γ b (pc + 5 * n) i (((lwA xs i k n).map Value.int).reverse ++ st) M → lw_G p l e s m below meth c Γ b pc i st M := by
  intro n
  induction n with
  | zero =>
    intro pc k st _ _ _ kk
    exact kk
  | succ n ih =>
    intro pc k st hck h5 hL kk
    unfold lw_ckN at hck
    rw [Bool.and_eq_true] at hck
    refine lw_arg C hck.1 (by omega) (by omega) (ih (pc + 5) (k + 1) _ hck.2 (by omega) (by omega) ?_)
    have e1 : pc + 5 + 5 * n = pc + 5 * (n + 1) := by omega
    have e2 : ((lwA xs i (k + 1) n).map Value.int).reverse ++ (.int (xs (i + k)) :: st) = ((lwA xs i k (n + 1)).map Value.int).reverse ++ st := by
      show _ = ((xs (i + k) :: lwA xs i (k + 1) n).map Value.int).reverse ++ st
      rw [List.map_cons, List.reverse_cons, List.append_assoc]
      rfl
    rw [e1, e2]
    exact kk
theorem lw_call {idx n k ci : Nat} {q : Nat × Nat} {fs : List Am_F} {as : List Am_V} {K' : Option Am_V → Am_M → Prop} (C : lw_Cx p s m meth c b L xs Γ) (hm : lw_mlok (idx, n)) (hck : lw_ckM n k (am_mi n).1.cls = true) (hlen : as.length = k) (hq : q ∈ am_ids) (hs : am_shape q.2 = some (.inr (ci, fs))) (hc : (vwCl[ci]?).map (fun r => r.1) = some (am_mi n).1.cls) (hd : decode code pc = .ok (.invokevirtual idx, 3)) (hok : ∀ v ∈ as, am_okv v) (hW : (st.map fun v => v.category).sum ≤ 8) (hEv : am_Ev Γ 24 n (.inr (.inr q) :: as) M K') (kk : ∀ v M', K' v M' → lw_G p l e s m below meth c Γ b (pc + 3) i ((v.map (am_c Γ.2.2.1)).toList ++ st) M') : lw_G p l e s m below meth c Γ b pc i ((as.map (am_c Γ.2.2.1)).reverse ++ .ref (Γ.2.2.1 q.1 q.2) :: st) M := by
  intro H locs lr hP hS hl
  unfold lw_ckM at hck
  simp only [Bool.and_eq_true, decide_eq_true_eq, Nat.blt_eq] at hck
  obtain ⟨h159, hpar, -⟩ := hck
  have ha : am_miok n := am_mi_all n h159
  obtain ⟨m1, m2, m3, m4⟩ := hm
  obtain ⟨q0, hq0⟩ := List.getElem?_of_mem hq
  have he := am_wget (Γ := Γ) (M := M) hq0
  rw [am_ent_obj hs] at he
  obtain ⟨qc, g1, -, -⟩ := am_shobj hs
  have hcn : qc.1 = (am_mi n).1.cls := by
    rw [g1] at hc
    exact Option.some.inj hc
  have hrec := va_recv C.2.1.1 hP g1 he
  rw [hcn] at hrec
  have hts : ∀ w ∈ lw_tbl, w.before #[Value.ref b] s = true := C.1.2.2.2.2.2.1
  have good : ∀ w, w ∈ am_tbl → w ∈ lw_tbl ∧ ((w.onTables && w.keeps) = true ∨ ∃ ty, w = .arrayClass ty) := fun w hw => ⟨(List.mem_filter.mp hw).1, good_of_word (List.mem_filter.mp hw).2⟩
  have hG : GoodIn lw_tbl (wsV R_law idx (am_mi n).1.cls (am_mi n).1 (am_ws n)) := by
    intro w hw
    unfold wsV at hw
    rcases List.mem_append.mp hw with hw | hw
    · simp only [List.mem_cons, List.not_mem_nil, or_false] at hw
      rcases hw with rfl | rfl | rfl | rfl
      · exact good _ m1
      · exact good _ m2
      · exact good _ m3
      · exact good _ m4
    · rcases List.mem_cons.mp hw with rfl | hw
      · exact good _ ha.1
      · exact good _ hw
  have hokA : ∀ v ∈ (.inr (.inr q) :: as : List Am_V), am_okv v := by
    intro v hv
    rcases List.mem_cons.mp hv with rfl | hv
    · exact Or.inl hq
    · exact hok v hv
  have hRR : (am_room 24).frames + 1 ≤ room_1.frames ∧ 8 + ((am_mi n).2.2.1 + 11) + (am_room 24).locals ≤ room_1.locals := by
    have h60 := ha.2.2.1.2.2.2.2
    refine ⟨by decide, ?_⟩
    show 8 + ((am_mi n).2.2.1 + 11) + 100 * 24 ≤ 84000
    omega
  refine am_callL (A0 := fun q => s.heap.size ≤ q) (rest := st) (va_runV (As := as.map (am_c Γ.2.2.1)) (b := Γ.2.2.1 q.1 q.2) ⟨C.1.1, C.1.2.1, C.1.2.2.2.1, C.1.2.2.2.2.1, hts⟩ (hEv l) (cwV k hts hG rfl rfl rfl ⟨rfl, ha.2.2.1.2.1, ha.2.2.1.2.2.1, hpar⟩ hRR) ⟨am_blind, hrec, fun U hU hWm => ⟨by simp [am_c], hokA, by rw [hU]; exact hP, by rw [hU]; exact am_Fix_warm hWm C.2.1 (fun a ha2 hn => hS.2.1 a ha2 (Nat.not_le.mpr ha2))⟩⟩ rfl (by simpa using hlen) hl.1 rfl (lv_room hW) hd ⟨Nat.le_of_ble_eq_true rfl, Nat.le_of_ble_eq_true rfl⟩) hS C.2.2.1 (fun v M' H1 locs1 hk1 hP1 hS1 => kk v M' hk1 H1 locs1 lr hP1 hS1 hl)
theorem lw_case {k i1 n1 i2 n2 : Nat} (C : lw_Cx p s m meth c b L xs Γ) (hck : lw_ckS pc k i1 n1 i2 n2 = true) (hm1 : lw_mlok (i1, n1)) (hm2 : lw_mlok (i2, n2)) (hk4 : k ≤ 4) (hi : i + 5 ≤ L) (hpair : Pair Γ 24 n1 n2 (lwV xs i k) M) (next : ∀ M', Rel M' → lw_G p l e s m below meth c Γ b 951 i [] M') : lw_G p l e s m below meth c Γ b pc i [] M := by
  unfold lw_ckS at hck
  simp only [Bool.and_eq_true, decide_eq_true_eq] at hck
  obtain ⟨⟨c1, c2⟩, d0, d1, d2, d3, d4, d5, d6⟩ := hck
  have e1 : (am_mi n1).1.cls = RX11 := by
    have := c1
    unfold lw_ckM at this
    simp only [Bool.and_eq_true, decide_eq_true_eq] at this
    exact this.2.2
  have e2 : (am_mi n2).1.cls = RX12 := by
    have := c2
    unfold lw_ckM at this
    simp only [Bool.and_eq_true, decide_eq_true_eq] at this
    exact this.2.2
  have hlen : (lwV xs i k).length = k := by
    unfold lwV
    rw [List.length_map, lwA_len]
  have hok : ∀ v ∈ lwV xs i k, am_okv v := by
    intro v hv
    obtain ⟨x, -, rfl⟩ := List.mem_map.mp hv
    trivial
  have c1' : lw_ckM n1 k (am_mi n1).1.cls = true := by rw [e1]; exact c1
  have c2' : lw_ckM n2 k (am_mi n2).1.cls = true := by rw [e2]; exact c2
  have hs1 : am_shape 11 = some (.inr (10, _)) := rfl
  have hs2 : am_shape 41 = some (.inr (11, _)) := rfl
  refine lw_al C 2 d0 rfl ?_
  refine lw_push C k (pc + 1) 1 _ d1 (by omega) (by omega) ?_
  rw [← lwV_c (ρ := Γ.2.2.1)]
  refine lw_call (q := (0, 11)) C hm1 c1' hlen (by decide +kernel) hs1 (by rw [e1]; rfl) d2 hok (Nat.le_of_ble_eq_true rfl) hpair (fun r M1 hA => ?_)
  obtain ⟨v, rfl, hEv⟩ := hA
  refine lw_al C 1 d3 rfl ?_
  refine lw_push C k _ 1 _ d4 (by omega) (by omega) ?_
  rw [← lwV_c (ρ := Γ.2.2.1)]
  refine lw_call (q := (0, 41)) C hm2 c2' hlen (by decide +kernel) hs2 (by rw [e2]; rfl) d5 hok (Nat.le_of_ble_eq_true rfl) hEv (fun r M2 hB => ?_)
  obtain ⟨rfl, hR⟩ := hB
  intro H locs lr hP hS hl
  refine lv_icmp_eq (tgt := 951) C.1.1 C.1.2.1 d6 (by omega) (fun _ => next M2 hR H locs lr hP hS hl) (fun h => absurd rfl h)
end LW
