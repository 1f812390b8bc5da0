/-! strings: the literals, their length and their chars -/
abbrev bJ_length : ByteArray := prog_16_method_54_code
abbrev yJ_length : MethodName := ⟨"java/lang/String", "length", "()I"⟩
abbrev bJ_coder : ByteArray := prog_16_method_152_code
abbrev yJ_coder : MethodName := ⟨"java/lang/String", "coder", "()B"⟩
abbrev bJ_isLatin1 : ByteArray := prog_16_method_154_code
abbrev yJ_isLatin1 : MethodName := ⟨"java/lang/String", "isLatin1", "()Z"⟩
abbrev bJ_charAt : ByteArray := prog_16_method_56_code
abbrev yJ_charAt : MethodName := ⟨"java/lang/String", "charAt", "(I)C"⟩
abbrev bJ_checkIndex : ByteArray := prog_16_method_155_code
abbrev yJ_checkIndex : MethodName := ⟨"java/lang/String", "checkIndex", "(II)V"⟩
abbrev bJ_l1 : ByteArray := prog_17_method_2_code
abbrev yJ_l1 : MethodName := ⟨"java/lang/StringLatin1", "charAt", "([BI)C"⟩
abbrev bJ_pk : ByteArray := prog_20_method_11_code
abbrev yJ_pk : MethodName := ⟨"jdk/internal/util/Preconditions", "checkIndex", "(IILjava/util/function/BiFunction;)I"⟩
theorem dJ_length_0 : decode bJ_length 0 = .ok (.aload_n 0, 1) := by decide +kernel
theorem dJ_length_1 : decode bJ_length 1 = .ok (.getfield 9, 3) := by decide +kernel
theorem dJ_length_4 : decode bJ_length 4 = .ok (.arraylength, 1) := by decide +kernel
theorem dJ_length_5 : decode bJ_length 5 = .ok (.aload_n 0, 1) := by decide +kernel
theorem dJ_length_6 : decode bJ_length 6 = .ok (.invokevirtual 335, 3) := by decide +kernel
theorem dJ_length_9 : decode bJ_length 9 = .ok (.ishr, 1) := by decide +kernel
theorem dJ_length_10 : decode bJ_length 10 = .ok (.ireturn, 1) := by decide +kernel
theorem dJ_charAt_0 : decode bJ_charAt 0 = .ok (.aload_n 0, 1) := by decide +kernel
theorem dJ_charAt_1 : decode bJ_charAt 1 = .ok (.invokevirtual 492, 3) := by decide +kernel
theorem dJ_charAt_4 : decode bJ_charAt 4 = .ok (.ifCond .eq 12, 3) := by decide +kernel
theorem dJ_charAt_7 : decode bJ_charAt 7 = .ok (.aload_n 0, 1) := by decide +kernel
theorem dJ_charAt_8 : decode bJ_charAt 8 = .ok (.getfield 9, 3) := by decide +kernel
theorem dJ_charAt_11 : decode bJ_charAt 11 = .ok (.iload_n 1, 1) := by decide +kernel
theorem dJ_charAt_12 : decode bJ_charAt 12 = .ok (.invokestatic 495, 3) := by decide +kernel
theorem dJ_charAt_15 : decode bJ_charAt 15 = .ok (.ireturn, 1) := by decide +kernel
theorem dJ_coder_0 : decode bJ_coder 0 = .ok (.getstatic 38, 3) := by decide +kernel
theorem dJ_coder_3 : decode bJ_coder 3 = .ok (.ifCond .eq 10, 3) := by decide +kernel
theorem dJ_coder_6 : decode bJ_coder 6 = .ok (.aload_n 0, 1) := by decide +kernel
theorem dJ_coder_7 : decode bJ_coder 7 = .ok (.getfield 15, 3) := by decide +kernel
theorem dJ_coder_10 : decode bJ_coder 10 = .ok (.goto 4, 3) := by decide +kernel
theorem dJ_coder_14 : decode bJ_coder 14 = .ok (.ireturn, 1) := by decide +kernel
theorem dJ_isLatin1_0 : decode bJ_isLatin1 0 = .ok (.getstatic 38, 3) := by decide +kernel
theorem dJ_isLatin1_3 : decode bJ_isLatin1 3 = .ok (.ifCond .eq 14, 3) := by decide +kernel
theorem dJ_isLatin1_6 : decode bJ_isLatin1 6 = .ok (.aload_n 0, 1) := by decide +kernel
theorem dJ_isLatin1_7 : decode bJ_isLatin1 7 = .ok (.getfield 15, 3) := by decide +kernel
theorem dJ_isLatin1_10 : decode bJ_isLatin1 10 = .ok (.ifCond .ne 7, 3) := by decide +kernel
theorem dJ_isLatin1_13 : decode bJ_isLatin1 13 = .ok (.iconst 1, 1) := by decide +kernel
theorem dJ_isLatin1_14 : decode bJ_isLatin1 14 = .ok (.goto 4, 3) := by decide +kernel
theorem dJ_isLatin1_18 : decode bJ_isLatin1 18 = .ok (.ireturn, 1) := by decide +kernel
theorem dJ_checkIndex_0 : decode bJ_checkIndex 0 = .ok (.iload_n 0, 1) := by decide +kernel
theorem dJ_checkIndex_1 : decode bJ_checkIndex 1 = .ok (.iload_n 1, 1) := by decide +kernel
theorem dJ_checkIndex_2 : decode bJ_checkIndex 2 = .ok (.getstatic 1053, 3) := by decide +kernel
theorem dJ_checkIndex_5 : decode bJ_checkIndex 5 = .ok (.invokestatic 1059, 3) := by decide +kernel
theorem dJ_checkIndex_8 : decode bJ_checkIndex 8 = .ok (.pop, 1) := by decide +kernel
theorem dJ_checkIndex_9 : decode bJ_checkIndex 9 = .ok (.return_, 1) := by decide +kernel
theorem dJ_l1_0 : decode bJ_l1 0 = .ok (.iload_n 1, 1) := by decide +kernel
theorem dJ_l1_1 : decode bJ_l1 1 = .ok (.aload_n 0, 1) := by decide +kernel
theorem dJ_l1_2 : decode bJ_l1 2 = .ok (.arraylength, 1) := by decide +kernel
theorem dJ_l1_3 : decode bJ_l1 3 = .ok (.invokestatic 9, 3) := by decide +kernel
theorem dJ_l1_6 : decode bJ_l1 6 = .ok (.aload_n 0, 1) := by decide +kernel
theorem dJ_l1_7 : decode bJ_l1 7 = .ok (.iload_n 1, 1) := by decide +kernel
theorem dJ_l1_8 : decode bJ_l1 8 = .ok (.baload, 1) := by decide +kernel
theorem dJ_l1_9 : decode bJ_l1 9 = .ok (.sipush 255, 3) := by decide +kernel
theorem dJ_l1_12 : decode bJ_l1 12 = .ok (.iand, 1) := by decide +kernel
theorem dJ_l1_13 : decode bJ_l1 13 = .ok (.i2c, 1) := by decide +kernel
theorem dJ_l1_14 : decode bJ_l1 14 = .ok (.ireturn, 1) := by decide +kernel
theorem dJ_pk_0 : decode bJ_pk 0 = .ok (.iload_n 0, 1) := by decide +kernel
theorem dJ_pk_1 : decode bJ_pk 1 = .ok (.ifCond .lt 8, 3) := by decide +kernel
theorem dJ_pk_4 : decode bJ_pk 4 = .ok (.iload_n 0, 1) := by decide +kernel
theorem dJ_pk_5 : decode bJ_pk 5 = .ok (.iload_n 1, 1) := by decide +kernel
theorem dJ_pk_6 : decode bJ_pk 6 = .ok (.if_icmp .lt 10, 3) := by decide +kernel
theorem dJ_pk_16 : decode bJ_pk 16 = .ok (.iload_n 0, 1) := by decide +kernel
theorem dJ_pk_17 : decode bJ_pk 17 = .ok (.ireturn, 1) := by decide +kernel
def js_ws (y : MethodName) (cc : ByteArray) (n : Nat) (r : Option FieldType) : List Cond := Cond.code y cc n r :: am_tbl
theorem js_gw {y : MethodName} {cc : ByteArray} {n : Nat} {r : Option FieldType} {w : Cond} (h : w ∈ am_tbl) : w ∈ js_ws y cc n r ∧ ((w.onTables && w.keeps) = true ∨ ∃ ty, w = .arrayClass ty) := ⟨List.mem_cons_of_mem _ h, good_of_word (List.mem_filter.mp h).2⟩
theorem js_good {y z : MethodName} {cc zc : ByteArray} {n zn : Nat} {r zr : Option FieldType} {l0 : List Cond} (h : ∀ w ∈ l0, w ∈ am_tbl) (hc : Cond.code y cc n r ∈ am_tbl) : GoodIn (js_ws z zc zn zr) (l0 ++ js_ws y cc n r) := by
  intro w hw
  rcases List.mem_append.mp hw with hw | hw
  · exact js_gw (h w hw)
  · rcases List.mem_cons.mp hw with rfl | hw
    · exact js_gw hc
    · exact js_gw hw
def js_Pc (Γ : Am_G) (as : List Value) (M : Am_M) : Array Value → State → Prop := va_Pc as (fun U => va_P Γ.1 vwCl (am_world Γ M) U.heap ∧ am_Fix Γ U U.heap)
theorem js_blind {Γ : Am_G} {as : List Value} {M : Am_M} : FrameBlind (js_Pc Γ as M) := fun a U g mk h => ⟨h.1, h.2.1, (show am_Fix Γ (U.calling g mk a) U.heap from am_Fix_same (s := U) rfl h.2.2)⟩
/-- a contract of a method of the JDK's that writes nothing -/
def js_Ev (Γ : Am_G) (d : Nat) (y : MethodName) (cc : ByteArray) (n : Nat) (r : Option FieldType) (as : List Value) (M : Am_M) (v : Option Am_V) : Prop := ∀ l : Launch, Met l y (js_ws y cc n r) (am_room d) (js_Pc Γ as M) (am_Q Γ (fun r M' => r = v ∧ M' = M)) 0 0 (am_A Γ)
theorem js_end {Γ : Am_G} {M : Am_M} {v : Option Am_V} {s t : State} {args : Array Value} {H : Heap} {locs : List Loc} (hF : am_Fix Γ s s.heap) (hv : ∀ x, v = some x → am_okv x) (hP : va_P Γ.1 vwCl (am_world Γ M) H) (hS : va_S (am_A Γ) s.heap H locs) (ht : t.heap = H) (hW : s.WarmedH t.vm) : am_Q Γ (fun r M' => r = v ∧ M' = M) args s (.returned (v.map (am_c Γ.2.2.1))) t := ⟨⟨v, M, rfl, ⟨rfl, rfl⟩, hv, by rw [ht]; exact hP, by rw [ht]; exact am_Fix_warm hW hF hS.2.1⟩, hS.F ht⟩
theorem js_endI {Γ : Am_G} {M : Am_M} {x : Int} {z : Int32} {s t : State} {args : Array Value} {H : Heap} {locs : List Loc} (hz : z = Int32.ofInt x) (hF : am_Fix Γ s s.heap) (hP : va_P Γ.1 vwCl (am_world Γ M) H) (hS : va_S (am_A Γ) s.heap H locs) (ht : t.heap = H) (hW : s.WarmedH t.vm) : am_Q Γ (fun r M' => r = some (.inl x) ∧ M' = M) args s (.returned (some (.int z))) t := by
  subst hz
  exact js_end (v := some (.inl x)) hF (fun y hy => by cases hy; trivial) hP hS ht hW
theorem js_len : ∀ w, w < 10 → am_slen.getD w 0 = (wdL w).length := by decide +kernel
theorem js_len2 : ∀ w, w < 10 → Int32.ofNat (am_slen.getD w 0) >>> (Int32.ofInt 0 &&& 31) = Int32.ofInt ((wdL w).length : Int) := by decide +kernel
theorem js_chr : ∀ w, w < 10 → ∀ k, k < (wdL w).length → ((((am_sbyt.getD w []).getD k 0) &&& 255).toUInt32 % 65536).toInt32 = Int32.ofInt ((wdL w).getD k 0) ∧ narrow .char (.int (Int32.ofInt ((wdL w).getD k 0))) = .int (Int32.ofInt ((wdL w).getD k 0)) := by decide +kernel
theorem js_coder {Γ : Am_G} {d w : Nat} {M : Am_M} (hw : w < 10) : js_Ev Γ d yJ_coder bJ_coder 1 (some .byte) [.ref (Γ.2.2.1 w 99)] M (some (.inl 0)) := by
  intro l
  refine Met.ofW (cc := bJ_coder) (maxL := 1) (ret := (some .byte)) (by decide) rfl ?_
  intro p e s m args below meth c s₁ B hml hv
  obtain ⟨rfl, hP, hF⟩ := hv
  have hx := B.exec
  have hb := B.bytes
  have hr := B.returns
  have hts := atoms_spec (ws := js_ws yJ_coder bJ_coder 1 (some .byte)) B.pre
  have hown : s.vm.findClass "java/lang/String" = some m.cls := findClass_of_methodNamed B.named
  have hlocks := B.notSynchronized
  have hS : va_S (am_A Γ) s.heap s.heap [] := va_S.rf
  have hl := lv_entry ([.ref (Γ.2.2.1 w 99)]) (n := 1) (Nat.le_of_ble_eq_true rfl)
  rw [lg_entry_eq]
  generalize (lg_sl ([.ref (Γ.2.2.1 w 99)]) ++ List.replicate (1 - (lg_sl ([.ref (Γ.2.2.1 w 99)])).length) Slot.unset).toArray = ls at hl ⊢
  have hl : lv_has ls 1 [(0, .ref (Γ.2.2.1 w 99))] := hl
  have hE := hF.2.2.2.2.1.1 w hw
  refine va_gets hx hb hF.2.2.2.2.2.2.1 hS hown (hts _ (js_gw (am_in 488 (by decide +kernel) (by decide +kernel))).1) (fun _ h => h) dJ_coder_0 ?_
  refine lv_if_eq (tgt := 13) hx hb dJ_coder_3 (by decide) (fun h => absurd h (by decide)) (fun _ => ?_)
  refine lv_aload_n hx hb dJ_coder_6 rfl (lv_at hl 0 rfl) ?_
  refine vk_getf hx hb hE.2.1 hS hown (hts _ (js_gw (am_in 1302 (by decide +kernel) (by decide +kernel))).1) (fun _ h => h) dJ_coder_7 ?_
  refine lv_goto (tgt := 14) hx hb dJ_coder_10 (by decide) ?_
  exact W.zret hx hb hr (by decide +kernel) (fun t ht hW => js_endI (by decide +kernel) hF hP hS ht hW) hS.2.2 dJ_coder_14
theorem js_isLatin1 {Γ : Am_G} {d w : Nat} {M : Am_M} (hw : w < 10) : js_Ev Γ d yJ_isLatin1 bJ_isLatin1 1 (some .boolean) [.ref (Γ.2.2.1 w 99)] M (some (.inl 1)) := by
  intro l
  refine Met.ofW (cc := bJ_isLatin1) (maxL := 1) (ret := (some .boolean)) (by decide) rfl ?_
  intro p e s m args below meth c s₁ B hml hv
  obtain ⟨rfl, hP, hF⟩ := hv
  have hx := B.exec
  have hb := B.bytes
  have hr := B.returns
  have hts := atoms_spec (ws := js_ws yJ_isLatin1 bJ_isLatin1 1 (some .boolean)) B.pre
  have hown : s.vm.findClass "java/lang/String" = some m.cls := findClass_of_methodNamed B.named
  have hlocks := B.notSynchronized
  have hS : va_S (am_A Γ) s.heap s.heap [] := va_S.rf
  have hl := lv_entry ([.ref (Γ.2.2.1 w 99)]) (n := 1) (Nat.le_of_ble_eq_true rfl)
  rw [lg_entry_eq]
  generalize (lg_sl ([.ref (Γ.2.2.1 w 99)]) ++ List.replicate (1 - (lg_sl ([.ref (Γ.2.2.1 w 99)])).length) Slot.unset).toArray = ls at hl ⊢
  have hl : lv_has ls 1 [(0, .ref (Γ.2.2.1 w 99))] := hl
  have hE := hF.2.2.2.2.1.1 w hw
  refine va_gets hx hb hF.2.2.2.2.2.2.1 hS hown (hts _ (js_gw (am_in 488 (by decide +kernel) (by decide +kernel))).1) (fun _ h => h) dJ_isLatin1_0 ?_
  refine lv_if_eq (tgt := 17) hx hb dJ_isLatin1_3 (by decide) (fun h => absurd h (by decide)) (fun _ => ?_)
  refine lv_aload_n hx hb dJ_isLatin1_6 rfl (lv_at hl 0 rfl) ?_
  refine vk_getf hx hb hE.2.1 hS hown (hts _ (js_gw (am_in 1302 (by decide +kernel) (by decide +kernel))).1) (fun _ h => h) dJ_isLatin1_7 ?_
  refine lv_if_ne (tgt := 17) hx hb dJ_isLatin1_10 (by decide) (fun h => absurd rfl h) (fun _ => ?_)
  refine lv_iconst (v := 1) hx hb dJ_isLatin1_13 (by decide) ?_
  refine lv_goto (tgt := 18) hx hb dJ_isLatin1_14 (by decide) ?_
  exact W.zret hx hb hr (by decide +kernel) (fun t ht hW => js_endI (by decide +kernel) hF hP hS ht hW) hS.2.2 dJ_isLatin1_18
theorem js_length {Γ : Am_G} {d w : Nat} {M : Am_M} (hw : w < 10) : js_Ev Γ (d + 1) yJ_length bJ_length 1 (some .int) [.ref (Γ.2.2.1 w 99)] M (some (.inl ((wdL w).length : Int))) := by
  intro l
  refine Met.ofW (cc := bJ_length) (maxL := 1) (ret := (some .int)) (by decide) rfl ?_
  intro p e s m args below meth c s₁ B hml hv
  obtain ⟨rfl, hP, hF⟩ := hv
  have hx := B.exec
  have hb := B.bytes
  have hr := B.returns
  have hts := atoms_spec (ws := js_ws yJ_length bJ_length 1 (some .int)) B.pre
  have hown : s.vm.findClass "java/lang/String" = some m.cls := findClass_of_methodNamed B.named
  have hlocks := B.notSynchronized
  have hS : va_S (am_A Γ) s.heap s.heap [] := va_S.rf
  have hl := lv_entry ([.ref (Γ.2.2.1 w 99)]) (n := 1) (Nat.le_of_ble_eq_true rfl)
  rw [lg_entry_eq]
  generalize (lg_sl ([.ref (Γ.2.2.1 w 99)]) ++ List.replicate (1 - (lg_sl ([.ref (Γ.2.2.1 w 99)])).length) Slot.unset).toArray = ls at hl ⊢
  have hl : lv_has ls 1 [(0, .ref (Γ.2.2.1 w 99))] := hl
  have hE := hF.2.2.2.2.1.1 w hw
  refine lv_aload_n hx hb dJ_length_0 rfl (lv_at hl 0 rfl) ?_
  refine vk_getf hx hb hE.2.2.1 hS hown (hts _ (js_gw (am_in 1301 (by decide +kernel) (by decide +kernel))).1) (fun _ h => h) dJ_length_1 ?_
  refine va_tlen hx hb hE.2.2.2 hS rfl dJ_length_4 ?_
  refine lv_aload_n hx hb dJ_length_5 rfl (lv_at hl 0 rfl) ?_
  refine am_callW (rest := [.int (Int32.ofNat (am_slen.getD w 0))]) (va_runV (As := []) ⟨hx, hb, hml, hown, hts⟩ (js_coder (d := d) (M := M) hw l) (cwV 0 hts (js_good (l0 := [.methodLink "java/lang/String" 335 yJ_coder, .instanceMethod yJ_coder, .selects "java/lang/String" yJ_coder yJ_coder, .initialized "java/lang/String"]) (am_ac (am_in 484 (by decide +kernel) (by decide +kernel)) (am_ac (am_in 485 (by decide +kernel) (by decide +kernel)) (am_ac (am_in 486 (by decide +kernel) (by decide +kernel)) (am_ac (am_in 72 (by decide +kernel) (by decide +kernel)) am_an)))) (am_in 487 (by decide +kernel) (by decide +kernel))) rfl rfl rfl (by decide +kernel) ⟨by show d + 0 + 1 ≤ d + 1; omega, by show 8 + (1 + 11) + 100 * (d + 0) ≤ 100 * (d + 1); omega⟩) ⟨js_blind, vk_recv hF.2.2.2.2.1 hw hS, fun U hU hW => ⟨rfl, by rw [hU]; exact hP, by rw [hU]; exact am_Fix_warm hW hF hS.2.1⟩⟩ rfl rfl hl.1 rfl (lv_room (Nat.le_of_ble_eq_true rfl)) dJ_length_6 ⟨Nat.le_refl _, Nat.le_refl _⟩) hS (fun v M' H1 locs1 hk hv hP1 hS1 => ?_)
  obtain ⟨rfl, rfl⟩ := hk
  refine lv_ishr hx hb dJ_length_9 ?_
  exact W.iret hx hb hr (fun t ht hW => js_endI (js_len2 w hw) hF hP1 hS1 ht hW) hS1.2.2 dJ_length_10
theorem js_pk {Γ : Am_G} {d : Nat} {M : Am_M} {i n : Int32} {z : Value} (hz : z = .null ∨ ∃ t, z = .ref t) (h0 : ¬ i < 0) (h1 : i < n) : js_Ev Γ d yJ_pk bJ_pk 3 (some .int) [.int i, .int n, z] M (some (.inl i.toInt)) := by
  rcases hz with rfl | ⟨zt, rfl⟩
  · intro l
    refine Met.ofW (cc := bJ_pk) (maxL := 3) (ret := (some .int)) (by decide) rfl ?_
    intro p e s m args below meth c s₁ B hml hv
    obtain ⟨rfl, hP, hF⟩ := hv
    have hx := B.exec
    have hb := B.bytes
    have hr := B.returns
    have hts := atoms_spec (ws := js_ws yJ_pk bJ_pk 3 (some .int)) B.pre
    have hown : s.vm.findClass "jdk/internal/util/Preconditions" = some m.cls := findClass_of_methodNamed B.named
    have hlocks := B.notSynchronized
    have hS : va_S (am_A Γ) s.heap s.heap [] := va_S.rf
    have hl := lv_entry ([.int i, .int n, .null]) (n := 3) (Nat.le_of_ble_eq_true rfl)
    rw [lg_entry_eq]
    generalize (lg_sl ([.int i, .int n, .null]) ++ List.replicate (3 - (lg_sl ([.int i, .int n, .null])).length) Slot.unset).toArray = ls at hl ⊢
    have hl : lv_has ls 3 [(0, .int i), (1, .int n), (2, .null)] := hl
    refine lv_iload_n hx hb dJ_pk_0 rfl (lv_at hl 0 rfl) ?_
    refine lv_if_lt (tgt := 9) hx hb dJ_pk_1 (by decide) (fun h => absurd h h0) (fun _ => ?_)
    refine lv_iload_n hx hb dJ_pk_4 rfl (lv_at hl 0 rfl) ?_
    refine lv_iload_n hx hb dJ_pk_5 rfl (lv_at hl 1 rfl) ?_
    refine lv_icmp_lt (tgt := 16) hx hb dJ_pk_6 (by decide) (fun _ => ?_) (fun h => absurd h1 h)
    refine lv_iload_n hx hb dJ_pk_16 rfl (lv_at hl 0 rfl) ?_
    exact W.iret hx hb hr (fun t ht hW => js_endI (Int32.ofInt_toInt i).symm hF hP hS ht hW) hS.2.2 dJ_pk_17
  · intro l
    refine Met.ofW (cc := bJ_pk) (maxL := 3) (ret := (some .int)) (by decide) rfl ?_
    intro p e s m args below meth c s₁ B hml hv
    obtain ⟨rfl, hP, hF⟩ := hv
    have hx := B.exec
    have hb := B.bytes
    have hr := B.returns
    have hts := atoms_spec (ws := js_ws yJ_pk bJ_pk 3 (some .int)) B.pre
    have hown : s.vm.findClass "jdk/internal/util/Preconditions" = some m.cls := findClass_of_methodNamed B.named
    have hlocks := B.notSynchronized
    have hS : va_S (am_A Γ) s.heap s.heap [] := va_S.rf
    have hl := lv_entry ([.int i, .int n, .ref zt]) (n := 3) (Nat.le_of_ble_eq_true rfl)
    rw [lg_entry_eq]
    generalize (lg_sl ([.int i, .int n, .ref zt]) ++ List.replicate (3 - (lg_sl ([.int i, .int n, .ref zt])).length) Slot.unset).toArray = ls at hl ⊢
    have hl : lv_has ls 3 [(0, .int i), (1, .int n), (2, .ref zt)] := hl
    refine lv_iload_n hx hb dJ_pk_0 rfl (lv_at hl 0 rfl) ?_
    refine lv_if_lt (tgt := 9) hx hb dJ_pk_1 (by decide) (fun h => absurd h h0) (fun _ => ?_)
    refine lv_iload_n hx hb dJ_pk_4 rfl (lv_at hl 0 rfl) ?_
    refine lv_iload_n hx hb dJ_pk_5 rfl (lv_at hl 1 rfl) ?_
    refine lv_icmp_lt (tgt := 16) hx hb dJ_pk_6 (by decide) (fun _ => ?_) (fun h => absurd h1 h)
    refine lv_iload_n hx hb dJ_pk_16 rfl (lv_at hl 0 rfl) ?_
    exact W.iret hx hb hr (fun t ht hW => js_endI (Int32.ofInt_toInt i).symm hF hP hS ht hW) hS.2.2 dJ_pk_17
theorem js_checkIndex {Γ : Am_G} {d : Nat} {M : Am_M} {i n : Int32} (h0 : ¬ i < 0) (h1 : i < n) : js_Ev Γ (d + 1) yJ_checkIndex bJ_checkIndex 2 none [.int i, .int n] M none := by
  intro l
  refine Met.ofW (cc := bJ_checkIndex) (maxL := 2) (ret := none) (by decide) rfl ?_
  intro p e s m args below meth c s₁ B hml hv
  obtain ⟨rfl, hP, hF⟩ := hv
  have hx := B.exec
  have hb := B.bytes
  have hr := B.returns
  have hts := atoms_spec (ws := js_ws yJ_checkIndex bJ_checkIndex 2 none) B.pre
  have hown : s.vm.findClass "java/lang/String" = some m.cls := findClass_of_methodNamed B.named
  have hlocks := B.notSynchronized
  have hS : va_S (am_A Γ) s.heap s.heap [] := va_S.rf
  have hl := lv_entry ([.int i, .int n]) (n := 2) (Nat.le_of_ble_eq_true rfl)
  rw [lg_entry_eq]
  generalize (lg_sl ([.int i, .int n]) ++ List.replicate (2 - (lg_sl ([.int i, .int n])).length) Slot.unset).toArray = ls at hl ⊢
  have hl : lv_has ls 2 [(0, .int i), (1, .int n)] := hl
  have hz : ∃ z : Value, (z = .null ∨ ∃ t, z = .ref t) ∧ va_Z "jdk/internal/util/Preconditions" "SIOOBE_FORMATTER" "Ljava/util/function/BiFunction;" z (am_A Γ) s s.heap := by
    rcases hF.2.2.2.2.2.2.2 with h | ⟨t, h⟩
    · exact ⟨_, Or.inl rfl, h⟩
    · exact ⟨_, Or.inr ⟨t, rfl⟩, h⟩
  obtain ⟨z, hz, hZ⟩ := hz
  refine lv_iload_n hx hb dJ_checkIndex_0 rfl (lv_at hl 0 rfl) ?_
  refine lv_iload_n hx hb dJ_checkIndex_1 rfl (lv_at hl 1 rfl) ?_
  refine va_gets hx hb hZ hS hown (hts _ (js_gw (am_in 504 (by decide +kernel) (by decide +kernel))).1) (fun _ h => h) dJ_checkIndex_2 ?_
  refine am_callW (rest := []) (va_runS (As := [.int i, .int n, z]) ⟨hx, hb, hml, hown, hts⟩ (js_pk (d := d) (M := M) hz h0 h1 l) (va_cwS 3 hts (js_good (l0 := [.methodLink "java/lang/String" 1059 yJ_pk, .static yJ_pk, .initialized "jdk/internal/util/Preconditions"]) (am_ac (am_in 506 (by decide +kernel) (by decide +kernel)) (am_ac (am_in 507 (by decide +kernel) (by decide +kernel)) (am_ac (am_in 74 (by decide +kernel) (by decide +kernel)) am_an))) (am_in 508 (by decide +kernel) (by decide +kernel))) rfl rfl rfl (by decide +kernel) ⟨by show d + 0 + 1 ≤ d + 1; omega, by show 8 + (3 + 11) + 100 * (d + 0) ≤ 100 * (d + 1); omega⟩) ⟨js_blind, fun U hU hW => ⟨rfl, by rw [hU]; exact hP, by rw [hU]; exact am_Fix_warm hW hF hS.2.1⟩⟩ rfl rfl hl.1 rfl (lv_room (Nat.le_of_ble_eq_true rfl)) dJ_checkIndex_5 ⟨Nat.le_refl _, Nat.le_refl _⟩) hS (fun v M' H1 locs1 hk hv hP1 hS1 => ?_)
  obtain ⟨rfl, rfl⟩ := hk
  refine lv_pop hx hb dJ_checkIndex_8 rfl ?_
  exact W.vret hx hb hr (fun t ht hW => js_end (v := none) hF (fun y hy => by cases hy) hP1 hS1 ht hW) hS1.2.2 dJ_checkIndex_9
theorem js_idx : ∀ k : Nat, k < 8 → ¬ Int32.ofInt (k : Int) < 0 ∧ (Int32.ofInt (k : Int)).toNatClampNeg = k ∧ ∀ n : Nat, n < 8 → k < n → Int32.ofInt (k : Int) < Int32.ofNat n := by decide +kernel
theorem js_l1 {Γ : Am_G} {d w k : Nat} {M : Am_M} (hw : w < 10) (hk : k < (wdL w).length) : js_Ev Γ (d + 2) yJ_l1 bJ_l1 2 (some .char) [.ref (Γ.2.2.2 w), .int (Int32.ofInt (k : Int))] M (some (.inl ((wdL w).getD k 0))) := by
  intro l
  refine Met.ofW (cc := bJ_l1) (maxL := 2) (ret := (some .char)) (by decide) rfl ?_
  intro p e s m args below meth c s₁ B hml hv
  obtain ⟨rfl, hP, hF⟩ := hv
  have hx := B.exec
  have hb := B.bytes
  have hr := B.returns
  have hts := atoms_spec (ws := js_ws yJ_l1 bJ_l1 2 (some .char)) B.pre
  have hown : s.vm.findClass "java/lang/StringLatin1" = some m.cls := findClass_of_methodNamed B.named
  have hlocks := B.notSynchronized
  have hS : va_S (am_A Γ) s.heap s.heap [] := va_S.rf
  have hl := lv_entry ([.ref (Γ.2.2.2 w), .int (Int32.ofInt (k : Int))]) (n := 2) (Nat.le_of_ble_eq_true rfl)
  rw [lg_entry_eq]
  generalize (lg_sl ([.ref (Γ.2.2.2 w), .int (Int32.ofInt (k : Int))]) ++ List.replicate (2 - (lg_sl ([.ref (Γ.2.2.2 w), .int (Int32.ofInt (k : Int))])).length) Slot.unset).toArray = ls at hl ⊢
  have hl : lv_has ls 2 [(0, .ref (Γ.2.2.2 w)), (1, .int (Int32.ofInt (k : Int)))] := hl
  have hE := hF.2.2.2.2.1.1 w hw
  have hl7 := wd_len w hw
  obtain ⟨i1, i2, i3⟩ := js_idx k (by omega)
  have i4 := i3 (am_slen.getD w 0) (by rw [js_len w hw]; omega) (by rw [js_len w hw]; exact hk)
  obtain ⟨j1, j2⟩ := js_chr w hw k hk
  refine lv_iload_n hx hb dJ_l1_0 rfl (lv_at hl 1 rfl) ?_
  refine lv_aload_n hx hb dJ_l1_1 rfl (lv_at hl 0 rfl) ?_
  refine va_tlen hx hb hE.2.2.2 hS rfl dJ_l1_2 ?_
  refine am_callW (rest := []) (va_runS (As := [.int (Int32.ofInt (k : Int)), .int (Int32.ofNat (am_slen.getD w 0))]) ⟨hx, hb, hml, hown, hts⟩ (js_checkIndex (d := d) (M := M) i1 i4 l) (va_cwS 2 hts (js_good (l0 := [.methodLink "java/lang/StringLatin1" 9 yJ_checkIndex, .static yJ_checkIndex, .initialized "java/lang/String"]) (am_ac (am_in 501 (by decide +kernel) (by decide +kernel)) (am_ac (am_in 502 (by decide +kernel) (by decide +kernel)) (am_ac (am_in 72 (by decide +kernel) (by decide +kernel)) am_an))) (am_in 503 (by decide +kernel) (by decide +kernel))) rfl rfl rfl (by decide +kernel) ⟨by show d + 1 + 1 ≤ d + 2; omega, by show 8 + (2 + 11) + 100 * (d + 1) ≤ 100 * (d + 2); omega⟩) ⟨js_blind, fun U hU hW => ⟨rfl, by rw [hU]; exact hP, by rw [hU]; exact am_Fix_warm hW hF hS.2.1⟩⟩ rfl rfl hl.1 rfl (lv_room (Nat.le_of_ble_eq_true rfl)) dJ_l1_3 ⟨Nat.le_refl _, Nat.le_refl _⟩) hS (fun v M' H1 locs1 hk hv hP1 hS1 => ?_)
  obtain ⟨rfl, rfl⟩ := hk
  refine lv_aload_n hx hb dJ_l1_6 rfl (lv_at hl 0 rfl) ?_
  refine lv_iload_n hx hb dJ_l1_7 rfl (lv_at hl 1 rfl) ?_
  refine va_tb hx hb hE.2.2.2 hS1 (v := .int ((am_sbyt.getD w []).getD k 0)) (by
    intro q
    rcases q with q | q
    · exact i1 q
    · rw [i2, js_len w hw] at q; omega) (by rw [i2]) dJ_l1_8 ?_
  refine lv_sipush (v := 255) hx hb dJ_l1_9 (by decide +kernel) ?_
  refine lv_iand hx hb dJ_l1_12 ?_
  refine lv_i2c hx hb dJ_l1_13 j1 ?_
  exact W.zret hx hb hr j2 (fun t ht hW => js_endI rfl hF hP1 hS1 ht hW) hS1.2.2 dJ_l1_14
theorem js_charAt {Γ : Am_G} {d w k : Nat} {M : Am_M} (hw : w < 10) (hk : k < (wdL w).length) : js_Ev Γ (d + 3) yJ_charAt bJ_charAt 2 (some .char) [.ref (Γ.2.2.1 w 99), .int (Int32.ofInt (k : Int))] M (some (.inl ((wdL w).getD k 0))) := by
  intro l
  refine Met.ofW (cc := bJ_charAt) (maxL := 2) (ret := (some .char)) (by decide) rfl ?_
  intro p e s m args below meth c s₁ B hml hv
  obtain ⟨rfl, hP, hF⟩ := hv
  have hx := B.exec
  have hb := B.bytes
  have hr := B.returns
  have hts := atoms_spec (ws := js_ws yJ_charAt bJ_charAt 2 (some .char)) B.pre
  have hown : s.vm.findClass "java/lang/String" = some m.cls := findClass_of_methodNamed B.named
  have hlocks := B.notSynchronized
  have hS : va_S (am_A Γ) s.heap s.heap [] := va_S.rf
  have hl := lv_entry ([.ref (Γ.2.2.1 w 99), .int (Int32.ofInt (k : Int))]) (n := 2) (Nat.le_of_ble_eq_true rfl)
  rw [lg_entry_eq]
  generalize (lg_sl ([.ref (Γ.2.2.1 w 99), .int (Int32.ofInt (k : Int))]) ++ List.replicate (2 - (lg_sl ([.ref (Γ.2.2.1 w 99), .int (Int32.ofInt (k : Int))])).length) Slot.unset).toArray = ls at hl ⊢
  have hl : lv_has ls 2 [(0, .ref (Γ.2.2.1 w 99)), (1, .int (Int32.ofInt (k : Int)))] := hl
  have hE := hF.2.2.2.2.1.1 w hw
  obtain ⟨j1, j2⟩ := js_chr w hw k hk
  refine lv_aload_n hx hb dJ_charAt_0 rfl (lv_at hl 0 rfl) ?_
  refine am_callW (rest := []) (va_runV (As := []) ⟨hx, hb, hml, hown, hts⟩ (js_isLatin1 (d := d) (M := M) hw l) (cwV 0 hts (js_good (l0 := [.methodLink "java/lang/String" 492 yJ_isLatin1, .instanceMethod yJ_isLatin1, .selects "java/lang/String" yJ_isLatin1 yJ_isLatin1, .initialized "java/lang/String"]) (am_ac (am_in 494 (by decide +kernel) (by decide +kernel)) (am_ac (am_in 495 (by decide +kernel) (by decide +kernel)) (am_ac (am_in 496 (by decide +kernel) (by decide +kernel)) (am_ac (am_in 72 (by decide +kernel) (by decide +kernel)) am_an)))) (am_in 497 (by decide +kernel) (by decide +kernel))) rfl rfl rfl (by decide +kernel) ⟨by show d + 0 + 1 ≤ d + 3; omega, by show 8 + (1 + 11) + 100 * (d + 0) ≤ 100 * (d + 3); omega⟩) ⟨js_blind, vk_recv hF.2.2.2.2.1 hw hS, fun U hU hW => ⟨rfl, by rw [hU]; exact hP, by rw [hU]; exact am_Fix_warm hW hF hS.2.1⟩⟩ rfl rfl hl.1 rfl (lv_room (Nat.le_of_ble_eq_true rfl)) dJ_charAt_1 ⟨Nat.le_refl _, Nat.le_refl _⟩) hS (fun v M' H1 locs1 hk2 hv hP1 hS1 => ?_)
  obtain ⟨rfl, rfl⟩ := hk2
  refine lv_if_eq (tgt := 16) hx hb dJ_charAt_4 (by decide) (fun h => absurd h (by decide +kernel)) (fun _ => ?_)
  refine lv_aload_n hx hb dJ_charAt_7 rfl (lv_at hl 0 rfl) ?_
  refine vk_getf hx hb hE.2.2.1 hS1 hown (hts _ (js_gw (am_in 1301 (by decide +kernel) (by decide +kernel))).1) (fun _ h => h) dJ_charAt_8 ?_
  refine lv_iload_n hx hb dJ_charAt_11 rfl (lv_at hl 1 rfl) ?_
  refine am_callW (rest := []) (va_runS (As := [.ref (Γ.2.2.2 w), .int (Int32.ofInt (k : Int))]) ⟨hx, hb, hml, hown, hts⟩ (js_l1 (d := d) (M := M') hw hk l) (va_cwS 2 hts (js_good (l0 := [.methodLink "java/lang/String" 495 yJ_l1, .static yJ_l1, .initialized "java/lang/StringLatin1"]) (am_ac (am_in 498 (by decide +kernel) (by decide +kernel)) (am_ac (am_in 499 (by decide +kernel) (by decide +kernel)) (am_ac (am_in 73 (by decide +kernel) (by decide +kernel)) am_an))) (am_in 500 (by decide +kernel) (by decide +kernel))) rfl rfl rfl (by decide +kernel) ⟨by show d + 2 + 1 ≤ d + 3; omega, by show 8 + (2 + 11) + 100 * (d + 2) ≤ 100 * (d + 3); omega⟩) ⟨js_blind, fun U hU hW => ⟨rfl, by rw [hU]; exact hP1, by rw [hU]; exact am_Fix_warm hW hF hS1.2.1⟩⟩ rfl rfl hl.1 rfl (lv_room (Nat.le_of_ble_eq_true rfl)) dJ_charAt_12 ⟨Nat.le_refl _, Nat.le_refl _⟩) hS1 (fun v M'' H1 locs1 hk2 hv hP2 hS2 => ?_)
  obtain ⟨rfl, rfl⟩ := hk2
  exact W.zret hx hb hr j2 (fun t ht hW => js_endI rfl hF hP2 hS2 ht hW) hS2.2.2 dJ_charAt_15
/-! rows: a literal, its length, its chars -/
theorem am_s_ldc {Γ : Am_G} {d n w : Nat} {K : Option Am_V → Am_M → Prop} {r : Am_Row} {ls : Am_L} {st : List Am_V} {M : Am_M} (hr : r ∈ am_rows n) (hi : r.2.1 = .ldc (90 + 2 * w)) (hw : w < 10) (hn : am_cn (am_mi n).2.2.2.2.1 = "RaisedArms$Text") (kk : am_At Γ d n (r.1 + 2) ls (.inr (.inr (w, 99)) :: st) M K) : am_At Γ d n r.1 ls st M K := by
  intro p l e s m args below meth c H locs lr C hst hl hP hS
  have ho := C.2.2.2.2.2.2.2.2
  have hd := am_dec (len := 2) ho hr hi (am_len_of (by intro h; exact Nat.eq_of_beq_eq_true h) hi)
  have hown := C.2.2.2.2.1
  rw [hn] at hown
  exact va_ldcS C.1 C.2.1 hown (C.2.2.2.2.2.2.2.1.2.2.2.2.2.1 w hw) hd (kk p l e s m args below meth c H locs lr C (am_o1 (Or.inr ⟨rfl, hw⟩) hst) hl hP hS)
theorem am_s_js {Γ : Am_G} {d d' n w ar : Nat} {K : Option Am_V → Am_M → Prop} {r : Am_Row} {ls : Am_L} {st as : List Am_V} {M : Am_M} {x : Nat} {v : Option Am_V} {y : MethodName} {cc : ByteArray} {nL : Nat} {rt : Option FieldType} (hr : r ∈ am_rows n) (hi : r.2.1 = .invokevirtual x) (hw : w < 10) (hd : d' + 1 ≤ d) (hnL : nL ≤ 60) (hcls : y.cls = "java/lang/String") (hpar : (parseMethodDescriptor y.desc).map (fun d => d.parameters.length) = some ar) (har : as.length = ar) (hcat : am_cat st ≤ 8)
    (w1 : Cond.methodLink (am_cn (am_mi n).2.2.2.2.1) x y ∈ am_tbl) (w2 : Cond.instanceMethod y ∈ am_tbl) (w3 : Cond.selects "java/lang/String" y y ∈ am_tbl) (w4 : Cond.initialized "java/lang/String" ∈ am_tbl) (w5 : Cond.code y cc nL rt ∈ am_tbl)
    (hJ : js_Ev Γ d' y cc nL rt (.ref (Γ.2.2.1 w 99) :: as.map (am_c Γ.2.2.1)) M v) (kk : am_At Γ d n (r.1 + 3) ls (v.toList ++ st) M K) : am_At Γ d n r.1 ls (as.reverse ++ .inr (.inr (w, 99)) :: st) M K := by
  intro p l e s m args below meth c H locs lr C hst hl hP hS
  have ho := C.2.2.2.2.2.2.2.2
  have hdec := am_dec (len := 3) ho hr hi (am_len_of (by intro h; exact Nat.eq_of_beq_eq_true h) hi)
  have hF := C.2.2.2.2.2.2.2.1
  have hokR : ∀ v ∈ st, am_okv v := fun v hv => hst v (by simp [hv])
  have hW8 : (((st.map (am_c Γ.2.2.1)).map fun v => v.category)).sum ≤ 8 := by rw [am_cat_eq]; exact hcat
  have hRR : (am_room d').frames + 1 ≤ (am_room d).frames ∧ 8 + (nL + 11) + (am_room d').locals ≤ (am_room d).locals := by
    refine ⟨hd, ?_⟩
    show 8 + (nL + 11) + 100 * d' ≤ 100 * d
    omega
  have hG : GoodIn (am_ws n) (wsV (am_cn (am_mi n).2.2.2.2.1) x "java/lang/String" y (js_ws y cc nL rt)) := js_good (l0 := [.methodLink (am_cn (am_mi n).2.2.2.2.1) x y, .instanceMethod y, .selects "java/lang/String" y y, .initialized "java/lang/String"]) (am_ac w1 (am_ac w2 (am_ac w3 (am_ac w4 am_an)))) w5
  have hy : y.cls = "java/lang/String" ∧ y.cls ≠ "java/lang/invoke/MethodHandle" ∧ y.cls ≠ "java/lang/invoke/VarHandle" ∧ (parseMethodDescriptor y.desc).map (fun d => d.parameters.length) = some ar := ⟨hcls, by rw [hcls]; decide, by rw [hcls]; decide, hpar⟩
  refine am_callW (rest := st.map (am_c Γ.2.2.1)) (va_runV (As := as.map (am_c Γ.2.2.1)) ⟨C.1, C.2.1, C.2.2.2.1, C.2.2.2.2.1, C.2.2.2.2.2.1⟩ (hJ l) (cwV ar C.2.2.2.2.2.1 hG rfl rfl rfl hy hRR) ⟨js_blind, vk_recv hF.2.2.2.2.1 hw hS, fun U hU hW => ⟨rfl, by rw [hU]; exact hP, by rw [hU]; exact am_Fix_warm hW hF hS.2.1⟩⟩ rfl (by simpa using har) hl.1 (by simp [am_c]) (lv_room hW8) hdec ⟨Nat.le_refl _, Nat.le_refl _⟩) hS (fun v1 M' H1 locs1 hk1 hv1 hP1 hS1 => ?_)
  obtain ⟨rfl, rfl⟩ := hk1
  rw [am_mapback]
  exact kk p l e s m args below meth c H1 locs1 lr C (am_okrest hv1 hokR) hl hP1 hS1
theorem am_len10 {Γ : Am_G} {d w : Nat} {K : Option Am_V → Am_M → Prop} {ls : Am_L} {st : List Am_V} {M : Am_M} (hw : w < 10) (hcat : am_cat st ≤ 8) (kk : am_At Γ (d + 2) n_Text_isAtHand 13 ls (.inl ((wdL w).length : Int) :: st) M K) : am_At Γ (d + 2) n_Text_isAtHand 10 ls (.inr (.inr (w, 99)) :: st) M K :=
  am_s_js (d' := d + 1) (ar := 0) (as := []) (r := (10, .invokevirtual 82, 3, 950, 0, 0)) (am_rowat 6 rfl) rfl hw (Nat.le_refl _) (by decide) rfl rfl rfl hcat (am_in 480 (by decide +kernel) (by decide +kernel)) (am_in 481 (by decide +kernel) (by decide +kernel)) (am_in 482 (by decide +kernel) (by decide +kernel)) (am_in 72 (by decide +kernel) (by decide +kernel)) (am_in 483 (by decide +kernel) (by decide +kernel)) (js_length (d := d) hw) kk
theorem am_len22 {Γ : Am_G} {d w : Nat} {K : Option Am_V → Am_M → Prop} {ls : Am_L} {st : List Am_V} {M : Am_M} (hw : w < 10) (hcat : am_cat st ≤ 8) (kk : am_At Γ (d + 2) n_Text_isAtHand 25 ls (.inl ((wdL w).length : Int) :: st) M K) : am_At Γ (d + 2) n_Text_isAtHand 22 ls (.inr (.inr (w, 99)) :: st) M K :=
  am_s_js (d' := d + 1) (ar := 0) (as := []) (r := (22, .invokevirtual 82, 3, 950, 0, 0)) (am_rowat 14 rfl) rfl hw (Nat.le_refl _) (by decide) rfl rfl rfl hcat (am_in 480 (by decide +kernel) (by decide +kernel)) (am_in 481 (by decide +kernel) (by decide +kernel)) (am_in 482 (by decide +kernel) (by decide +kernel)) (am_in 72 (by decide +kernel) (by decide +kernel)) (am_in 483 (by decide +kernel) (by decide +kernel)) (js_length (d := d) hw) kk
theorem am_chr41 {Γ : Am_G} {d w k : Nat} {K : Option Am_V → Am_M → Prop} {ls : Am_L} {st : List Am_V} {M : Am_M} (hw : w < 10) (hk : k < (wdL w).length) (hcat : am_cat st ≤ 8) (kk : am_At Γ (d + 4) n_Text_isAtHand 44 ls (.inl ((wdL w).getD k 0) :: st) M K) : am_At Γ (d + 4) n_Text_isAtHand 41 ls (.inl (k : Int) :: .inr (.inr (w, 99)) :: st) M K :=
  am_s_js (d' := d + 3) (ar := 1) (as := [.inl (k : Int)]) (r := (41, .invokevirtual 86, 3, 950, 1, 0)) (am_rowat 25 rfl) rfl hw (Nat.le_refl _) (by decide) rfl rfl rfl hcat (am_in 490 (by decide +kernel) (by decide +kernel)) (am_in 491 (by decide +kernel) (by decide +kernel)) (am_in 492 (by decide +kernel) (by decide +kernel)) (am_in 72 (by decide +kernel) (by decide +kernel)) (am_in 493 (by decide +kernel) (by decide +kernel)) (js_charAt (d := d) hw hk) kk
