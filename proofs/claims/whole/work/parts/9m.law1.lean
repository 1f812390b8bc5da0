/-! the law: its loop -/
theorem lw_and (x : Int32) : 0 ≤ (x &&& 31).toInt ∧ (x &&& 31).toInt ≤ 31 := by
  have h1 : (x &&& 31).toBitVec.toNat ≤ 31 := by
    rw [Int32.toBitVec_and, BitVec.toNat_and]
    exact Nat.le_trans Nat.and_le_right (by decide)
  have h4 : (x &&& 31).toInt = ((x &&& 31).toBitVec.toNat : Int) := by
    show (x &&& 31).toBitVec.toInt = _
    rw [BitVec.toInt_eq_toNat_of_lt (by omega)]
  omega
def lw_ckW (pc : Nat) : Bool := lw_ckA pc 1 && (decide (decode code (pc + 5) = .ok (.i2l, 1)) && (decide (decode code (pc + 6) = .ok (.bipush 32, 2)) && (decide (decode code (pc + 8) = .ok (.lshl, 1)) && (lw_ckA (pc + 9) 2 && (decide (decode code (pc + 14) = .ok (.i2l, 1)) && (decide (decode code (pc + 15) = .ok (.ldc2_w 13, 3)) && (decide (decode code (pc + 18) = .ok (.land, 1)) && (decide (decode code (pc + 19) = .ok (.lor, 1)) && lw_ckA (pc + 20) 3))))))))
theorem lw_kW1 : lw_ckW 165 = true := by decide +kernel
theorem lw_kW2 : lw_ckW 194 = true := by decide +kernel
theorem lw_dW0 : decode code 164 = .ok (.aload_n 1, 1) := by decide +kernel
theorem lw_dW1 : decode code 190 = .ok (.invokevirtual 15, 3) := by decide +kernel
theorem lw_dW2 : decode code 193 = .ok (.aload_n 2, 1) := by decide +kernel
theorem lw_dW3 : decode code 219 = .ok (.invokevirtual 19, 3) := by decide +kernel
theorem lw_dW4 : decode code 222 = .ok (.if_icmp .eq 729, 3) := by decide +kernel
theorem lw_cW1 : lw_ckM n_R_write 2 (am_mi n_R_write).1.cls = true := by decide +kernel
theorem lw_cW2 : lw_ckM n_M_write 2 (am_mi n_M_write).1.cls = true := by decide +kernel
theorem lw_eW1 : (vwCl[10]?).map (fun r => r.1) = some (am_mi n_R_write).1.cls := by decide +kernel
theorem lw_eW2 : (vwCl[11]?).map (fun r => r.1) = some (am_mi n_M_write).1.cls := by decide +kernel
theorem lw_d18 : decode code 18 = .ok (.iload_n 3, 1) := by decide +kernel
theorem lw_d19 : decode code 19 = .ok (.aload_n 0, 1) := by decide +kernel
theorem lw_d20 : decode code 20 = .ok (.arraylength, 1) := by decide +kernel
theorem lw_d21 : decode code 21 = .ok (.iconst 5, 1) := by decide +kernel
theorem lw_d22 : decode code 22 = .ok (.isub, 1) := by decide +kernel
theorem lw_d23 : decode code 23 = .ok (.if_icmp .gt 934, 3) := by decide +kernel
theorem lw_d26 : decode code 26 = .ok (.aload_n 0, 1) := by decide +kernel
theorem lw_d27 : decode code 27 = .ok (.iload_n 3, 1) := by decide +kernel
theorem lw_d28 : decode code 28 = .ok (.iaload, 1) := by decide +kernel
theorem lw_d29 : decode code 29 = .ok (.bipush 31, 2) := by decide +kernel
theorem lw_d31 : decode code 31 = .ok (.iand, 1) := by decide +kernel
theorem lw_d32 : decode code 32 = .ok (.tableswitch 919 0 28 #[132, 195, 208, 221, 234, 267, 300, 343, 386, 409, 432, 445, 478, 511, 534, 557, 570, 593, 606, 649, 682, 715, 738, 761, 784, 837, 850, 863, 896], 132) := by decide +kernel
theorem lw_d951 : decode code 951 = .ok (.iinc 3 5, 3) := by decide +kernel
theorem lw_d954 : decode code 954 = .ok (.goto (-936), 3) := by decide +kernel
theorem lw_d957 : decode code 957 = .ok (.iconst 1, 1) := by decide +kernel
theorem lw_d958 : decode code 958 = .ok (.ireturn, 1) := by decide +kernel
theorem lw_nI (a : Nat) : nI a = Int32.ofInt (a : Int) := by
  unfold nI
  exact Int32.ofInt_eq_ofNat.symm
section LW2
variable {p : Program} {l : Launch} {e : Env} {s : State} {m : MethodId} {below : List Frame} {meth : Method} {c : Code} {Γ : Am_G} {b L : Nat} {xs : Nat → Int32} {M : Am_M} {pc i : Nat} {st : List Value}
def lwW (xs : Nat → Int32) (i : Nat) : Int64 := ((xs (i + 1)).toInt64 <<< ((32 : Int32).toInt64 &&& 63)) ||| ((xs (i + 2)).toInt64 &&& 4294967295)
theorem lw_wpush (C : lw_Cx p s m meth c b L xs Γ) (hck : lw_ckW pc = true) (hi : i + 5 ≤ L) (kk : lw_G p l e s m below meth c Γ b (pc + 25) i (.int (xs (i + 3)) :: .long (lwW xs i) :: st) M) : lw_G p l e s m below meth c Γ b pc i st M := by
  unfold lw_ckW at hck
  simp only [Bool.and_eq_true, decide_eq_true_eq] at hck
  obtain ⟨a1, d5, d6, d8, a2, d14, d15, d18, d19, a3⟩ := hck
  refine lw_arg C a1 (by omega) (by omega) ?_
  intro H locs lr hP hS hl
  refine lv_i2l C.1.1 C.1.2.1 d5 rfl ?_
  refine lv_bipush (v := 32) C.1.1 C.1.2.1 d6 (by decide +kernel) ?_
  refine lv_lshl C.1.1 C.1.2.1 d8 rfl ?_
  refine lw_arg (pc := pc + 9) C a2 (by omega) (by omega) ?_ H locs lr hP hS hl
  intro H locs lr hP hS hl
  refine lv_i2l C.1.1 C.1.2.1 d14 rfl ?_
  refine lv_ldc2 C.1.1 C.1.2.1 C.1.2.2.2.2.1 (C.1.2.2.2.2.2.1 _ (List.mem_filter.mp lw_cl).1) d15 ?_
  refine lv_land C.1.1 C.1.2.1 d18 ?_
  refine lv_lor C.1.1 C.1.2.1 d19 ?_
  exact lw_arg (pc := pc + 20) C a3 (by omega) (by omega) kk H locs lr hP hS hl
theorem lw_write (C : lw_Cx p s m meth c b L xs Γ) (hi : i + 5 ≤ L) (hR : Rel M) (next : ∀ M', Rel M' → lw_G p l e s m below meth c Γ b 951 i [] M') : lw_G p l e s m below meth c Γ b 164 i [] M := by
  have hpair := P_write (Γ := Γ) (w := lwW xs i) (x := (xs (i + 3)).toInt) hR (lwR _)
  have hs1 : am_shape 11 = some (.inr (10, _)) := rfl
  have hs2 : am_shape 41 = some (.inr (11, _)) := rfl
  have hok : ∀ v ∈ ([.inr (.inl (lwW xs i)), .inl (xs (i + 3)).toInt] : List Am_V), am_okv v := by
    intro v hv
    simp only [List.mem_cons, List.not_mem_nil, or_false] at hv
    rcases hv with rfl | rfl <;> trivial
  have est : ∀ st : List Value, (Value.int (xs (i + 3)) :: .long (lwW xs i) :: st) = (([.inr (.inl (lwW xs i)), .inl (xs (i + 3)).toInt] : List Am_V).map (am_c Γ.2.2.1)).reverse ++ st := fun st => by
    show _ = Value.int (Int32.ofInt (xs (i + 3)).toInt) :: .long (lwW xs i) :: st
    rw [Int32.ofInt_toInt]
  refine lw_al C 2 lw_dW0 rfl ?_
  refine lw_wpush (pc := 165) C lw_kW1 hi ?_
  rw [est]
  refine lw_call (pc := 190) (q := (0, 11)) C lw_m_15 lw_cW1 rfl (by decide +kernel) hs1 lw_eW1 lw_dW1 hok (Nat.le_of_ble_eq_true rfl) hpair (fun r M1 hA => ?_)
  obtain ⟨v, rfl, hEv⟩ := hA
  refine lw_al (pc := 193) C 1 lw_dW2 rfl ?_
  refine lw_wpush (pc := 194) C lw_kW2 hi ?_
  rw [est]
  refine lw_call (pc := 219) (q := (0, 41)) C lw_m_19 lw_cW2 rfl (by decide +kernel) hs2 lw_eW2 lw_dW3 hok (Nat.le_of_ble_eq_true rfl) hEv (fun r M2 hB => ?_)
  obtain ⟨rfl, hR2⟩ := hB
  intro H locs lr hP hS hl
  exact lv_icmp_eq (pc := 222) (tgt := 951) C.1.1 C.1.2.1 lw_dW4 (by decide) (fun _ => next M2 hR2 H locs lr hP hS hl) (fun h => absurd rfl h)
theorem lw_switch (C : lw_Cx p s m meth c b L xs Γ) (hi : i + 5 ≤ L) (hR : Rel M) (next : ∀ M', Rel M' → lw_G p l e s m below meth c Γ b 951 i [] M') : lw_G p l e s m below meth c Γ b 32 i [.int (xs i &&& 31)] M := by
  have hb := lw_and (xs i)
  intro H locs lr hP hS hl
  by_cases h28 : (xs i &&& 31).toInt ≤ 28
  · rcases (show (xs i &&& 31).toInt = 0 ∨ (xs i &&& 31).toInt = 1 ∨ (xs i &&& 31).toInt = 2 ∨ (xs i &&& 31).toInt = 3 ∨ (xs i &&& 31).toInt = 4 ∨ (xs i &&& 31).toInt = 5 ∨ (xs i &&& 31).toInt = 6 ∨ (xs i &&& 31).toInt = 7 ∨ (xs i &&& 31).toInt = 8 ∨ (xs i &&& 31).toInt = 9 ∨ (xs i &&& 31).toInt = 10 ∨ (xs i &&& 31).toInt = 11 ∨ (xs i &&& 31).toInt = 12 ∨ (xs i &&& 31).toInt = 13 ∨ (xs i &&& 31).toInt = 14 ∨ (xs i &&& 31).toInt = 15 ∨ (xs i &&& 31).toInt = 16 ∨ (xs i &&& 31).toInt = 17 ∨ (xs i &&& 31).toInt = 18 ∨ (xs i &&& 31).toInt = 19 ∨ (xs i &&& 31).toInt = 20 ∨ (xs i &&& 31).toInt = 21 ∨ (xs i &&& 31).toInt = 22 ∨ (xs i &&& 31).toInt = 23 ∨ (xs i &&& 31).toInt = 24 ∨ (xs i &&& 31).toInt = 25 ∨ (xs i &&& 31).toInt = 26 ∨ (xs i &&& 31).toInt = 27 ∨ (xs i &&& 31).toInt = 28 by omega) with hj | hj | hj | hj | hj | hj | hj | hj | hj | hj | hj | hj | hj | hj | hj | hj | hj | hj | hj | hj | hj | hj | hj | hj | hj | hj | hj | hj | hj
    · refine lv_tableIn (off := 132) (tgt := 164) C.1.1 C.1.2.1 lw_d32 (by omega) (by omega) (by rw [hj]; rfl) (by decide) ?_
      exact lw_write C hi hR next H locs lr hP hS hl
    · refine lv_tableIn (off := 195) (tgt := 227) C.1.1 C.1.2.1 lw_d32 (by omega) (by omega) (by rw [hj]; rfl) (by decide) ?_
      exact lw_case C lw_k_1 lw_m_20 lw_m_24 (by omega) hi (P_erase hR) next H locs lr hP hS hl
    · refine lv_tableIn (off := 208) (tgt := 240) C.1.1 C.1.2.1 lw_d32 (by omega) (by omega) (by rw [hj]; rfl) (by decide) ?_
      exact lw_case C lw_k_2 lw_m_25 lw_m_28 (by omega) hi (P_fault hR) next H locs lr hP hS hl
    · refine lv_tableIn (off := 221) (tgt := 253) C.1.1 C.1.2.1 lw_d32 (by omega) (by omega) (by rw [hj]; rfl) (by decide) ?_
      exact lw_case C lw_k_3 lw_m_29 lw_m_32 (by omega) hi (P_hall hR) next H locs lr hP hS hl
    · refine lv_tableIn (off := 234) (tgt := 266) C.1.1 C.1.2.1 lw_d32 (by omega) (by omega) (by rw [hj]; rfl) (by decide) ?_
      exact lw_case C lw_k_4 lw_m_33 lw_m_37 (by omega) hi (P_person hR (lwR _) (lwR _)) next H locs lr hP hS hl
    · refine lv_tableIn (off := 267) (tgt := 299) C.1.1 C.1.2.1 lw_d32 (by omega) (by omega) (by rw [hj]; rfl) (by decide) ?_
      exact lw_case C lw_k_5 lw_m_38 lw_m_41 (by omega) hi (P_worth hR (lwR _) (lwR _)) next H locs lr hP hS hl
    · refine lv_tableIn (off := 300) (tgt := 332) C.1.1 C.1.2.1 lw_d32 (by omega) (by omega) (by rw [hj]; rfl) (by decide) ?_
      exact lw_case C lw_k_6 lw_m_42 lw_m_46 (by omega) hi (P_as hR (lwR _) (lwR _) (lwR _)) next H locs lr hP hS hl
    · refine lv_tableIn (off := 343) (tgt := 375) C.1.1 C.1.2.1 lw_d32 (by omega) (by omega) (by rw [hj]; rfl) (by decide) ?_
      exact lw_case C lw_k_7 lw_m_47 lw_m_50 (by omega) hi (P_tell hR (lwR _) (lwR _) (lwR _)) next H locs lr hP hS hl
    · refine lv_tableIn (off := 386) (tgt := 418) C.1.1 C.1.2.1 lw_d32 (by omega) (by omega) (by rw [hj]; rfl) (by decide) ?_
      exact lw_case C lw_k_8 lw_m_51 lw_m_55 (by omega) hi (P_order hR (lwR _)) next H locs lr hP hS hl
    · refine lv_tableIn (off := 409) (tgt := 441) C.1.1 C.1.2.1 lw_d32 (by omega) (by omega) (by rw [hj]; rfl) (by decide) ?_
      exact lw_case C lw_k_9 lw_m_56 lw_m_59 (by omega) hi (P_next hR (lwR _)) next H locs lr hP hS hl
    · refine lv_tableIn (off := 432) (tgt := 464) C.1.1 C.1.2.1 lw_d32 (by omega) (by omega) (by rw [hj]; rfl) (by decide) ?_
      exact lw_case C lw_k_10 lw_m_60 lw_m_63 (by omega) hi (P_vote hR) next H locs lr hP hS hl
    · refine lv_tableIn (off := 445) (tgt := 477) C.1.1 C.1.2.1 lw_d32 (by omega) (by omega) (by rw [hj]; rfl) (by decide) ?_
      exact lw_case C lw_k_11 lw_m_64 lw_m_67 (by omega) hi (P_result hR (lwR _) (lwR _)) next H locs lr hP hS hl
    · refine lv_tableIn (off := 478) (tgt := 510) C.1.1 C.1.2.1 lw_d32 (by omega) (by omega) (by rw [hj]; rfl) (by decide) ?_
      exact lw_case C lw_k_12 lw_m_68 lw_m_71 (by omega) hi (P_held hR (lwR _) (lwR _)) next H locs lr hP hS hl
    · refine lv_tableIn (off := 511) (tgt := 543) C.1.1 C.1.2.1 lw_d32 (by omega) (by omega) (by rw [hj]; rfl) (by decide) ?_
      exact lw_case C lw_k_13 lw_m_72 lw_m_75 (by omega) hi (P_keep hR (lwR _)) next H locs lr hP hS hl
    · refine lv_tableIn (off := 534) (tgt := 566) C.1.1 C.1.2.1 lw_d32 (by omega) (by omega) (by rw [hj]; rfl) (by decide) ?_
      exact lw_case C lw_k_14 lw_m_76 lw_m_79 (by omega) hi (P_back hR (lwR _)) next H locs lr hP hS hl
    · refine lv_tableIn (off := 557) (tgt := 589) C.1.1 C.1.2.1 lw_d32 (by omega) (by omega) (by rw [hj]; rfl) (by decide) ?_
      exact lw_case C lw_k_15 lw_m_80 lw_m_83 (by omega) hi (P_carries hR) next H locs lr hP hS hl
    · refine lv_tableIn (off := 570) (tgt := 602) C.1.1 C.1.2.1 lw_d32 (by omega) (by omega) (by rw [hj]; rfl) (by decide) ?_
      exact lw_case C lw_k_16 lw_m_84 lw_m_87 (by omega) hi (P_gain hR (lwR _)) next H locs lr hP hS hl
    · refine lv_tableIn (off := 593) (tgt := 625) C.1.1 C.1.2.1 lw_d32 (by omega) (by omega) (by rw [hj]; rfl) (by decide) ?_
      exact lw_case C lw_k_17 lw_m_88 lw_m_91 (by omega) hi (P_settles hR) next H locs lr hP hS hl
    · refine lv_tableIn (off := 606) (tgt := 638) C.1.1 C.1.2.1 lw_d32 (by omega) (by omega) (by rw [hj]; rfl) (by decide) ?_
      exact lw_case C lw_k_18 lw_m_92 lw_m_95 (by omega) hi (P_best hR (lwR _) (lwR _) (lwR _)) next H locs lr hP hS hl
    · refine lv_tableIn (off := 649) (tgt := 681) C.1.1 C.1.2.1 lw_d32 (by omega) (by omega) (by rw [hj]; rfl) (by decide) ?_
      exact lw_case C lw_k_19 lw_m_96 lw_m_99 (by omega) hi (P_put hR (lwR _) (lwR _)) next H locs lr hP hS hl
    · refine lv_tableIn (off := 682) (tgt := 714) C.1.1 C.1.2.1 lw_d32 (by omega) (by omega) (by rw [hj]; rfl) (by decide) ?_
      exact lw_case C lw_k_20 lw_m_100 lw_m_103 (by omega) hi (P_turn hR (lwR _) (lwR _)) next H locs lr hP hS hl
    · refine lv_tableIn (off := 715) (tgt := 747) C.1.1 C.1.2.1 lw_d32 (by omega) (by omega) (by rw [hj]; rfl) (by decide) ?_
      exact lw_case C lw_k_21 lw_m_104 lw_m_107 (by omega) hi (P_bought hR (lwR _)) next H locs lr hP hS hl
    · refine lv_tableIn (off := 738) (tgt := 770) C.1.1 C.1.2.1 lw_d32 (by omega) (by omega) (by rw [hj]; rfl) (by decide) ?_
      exact lw_case C lw_k_22 lw_m_108 lw_m_111 (by omega) hi (P_fair hR (lwR _)) next H locs lr hP hS hl
    · refine lv_tableIn (off := 761) (tgt := 793) C.1.1 C.1.2.1 lw_d32 (by omega) (by omega) (by rw [hj]; rfl) (by decide) ?_
      exact lw_case C lw_k_23 lw_m_112 lw_m_115 (by omega) hi (P_hour hR (lwR _)) next H locs lr hP hS hl
    · refine lv_tableIn (off := 784) (tgt := 816) C.1.1 C.1.2.1 lw_d32 (by omega) (by omega) (by rw [hj]; rfl) (by decide) ?_
      exact lw_case C lw_k_24 lw_m_116 lw_m_120 (by omega) hi (P_row hR (lwR _) (lwR _) (lwR _) (lwR _)) next H locs lr hP hS hl
    · refine lv_tableIn (off := 837) (tgt := 869) C.1.1 C.1.2.1 lw_d32 (by omega) (by omega) (by rw [hj]; rfl) (by decide) ?_
      exact lw_case C lw_k_25 lw_m_121 lw_m_124 (by omega) hi (P_forget hR) next H locs lr hP hS hl
    · refine lv_tableIn (off := 850) (tgt := 882) C.1.1 C.1.2.1 lw_d32 (by omega) (by omega) (by rw [hj]; rfl) (by decide) ?_
      exact lw_case C lw_k_26 lw_m_125 lw_m_128 (by omega) hi (P_judge hR) next H locs lr hP hS hl
    · refine lv_tableIn (off := 863) (tgt := 895) C.1.1 C.1.2.1 lw_d32 (by omega) (by omega) (by rw [hj]; rfl) (by decide) ?_
      exact lw_case C lw_k_27 lw_m_129 lw_m_132 (by omega) hi (P_arms hR (lwR _) (lwR _)) next H locs lr hP hS hl
    · refine lv_tableIn (off := 896) (tgt := 928) C.1.1 C.1.2.1 lw_d32 (by omega) (by omega) (by rw [hj]; rfl) (by decide) ?_
      exact lw_case C lw_k_28 lw_m_133 lw_m_136 (by omega) hi (P_count hR (lwR _)) next H locs lr hP hS hl
  · refine lv_tableOut (tgt := 951) C.1.1 C.1.2.1 lw_d32 (Or.inr (by omega)) (by decide) ?_
    exact next M hR H locs lr hP hS hl
theorem lw_loop (C : lw_Cx p s m meth c b L xs Γ) : ∀ (n i : Nat) (M : Am_M), L + 1 ≤ i + n → i ≤ L + 5 → Rel M → lw_G p l e s m below meth c Γ b 18 i [] M := by
  have hL := C.2.2.2
  have hd : ∀ i, i ≤ L + 5 → ((Int32.ofNat L - 5 < nI i) ↔ L < i + 5) := fun i hi => by
    have e1 : Int32.ofNat L - 5 = Int32.ofInt ((L : Int) - 5) := by
      rw [Int32.ofInt_sub, Int32.ofInt_eq_ofNat]
      rfl
    rw [e1, lw_nI, am_ltI ⟨by omega, by omega⟩ ⟨by omega, by omega⟩]
    omega
  have head : ∀ (i : Nat) (M : Am_M), i ≤ L + 5 → (i + 5 ≤ L → lw_G p l e s m below meth c Γ b 26 i [] M) → lw_G p l e s m below meth c Γ b 18 i [] M := by
    intro i M hi body H locs lr hP hS hl
    refine lv_iload_n C.1.1 C.1.2.1 lw_d18 rfl (lv_at hl 0 rfl) ?_
    refine lv_aload_n C.1.1 C.1.2.1 lw_d19 rfl (lv_at hl 3 rfl) ?_
    refine va_slen C.1.1 C.1.2.1 C.1.2.2.2.2.2.2.1 C.1.2.2.2.2.2.2.2.1 (A := fun q => s.heap.size ≤ q) (Nat.not_le.mpr C.1.2.2.2.2.2.2.2.1) hS lw_d20 ?_
    refine lv_iconst (v := 5) C.1.1 C.1.2.1 lw_d21 (by decide +kernel) ?_
    refine lv_isub C.1.1 C.1.2.1 lw_d22 ?_
    refine lv_icmp_gt (tgt := 957) C.1.1 C.1.2.1 lw_d23 (by decide) (fun h => ?_) (fun h => ?_)
    · refine lv_iconst (v := 1) C.1.1 C.1.2.1 lw_d957 (by decide +kernel) ?_
      refine va_forget (fun q hq => hS.2.2 q hq) ?_
      refine W.widen (k := 600000) (n := 7302250) (by decide) (by decide) ?_
      exact lw_ret C.1.1 C.1.2.1 C.1.2.2.1 C.1.2.2.2.2.2.2.2.2.1 lw_d958
    · exact body (by have := mt (hd i hi).mpr h; omega) H locs lr hP hS hl
  intro n
  induction n with
  | zero =>
    intro i M h1 h2 hR
    exact head i M h2 (fun z => by omega)
  | succ n ih =>
    intro i M h1 h2 hR
    refine head i M h2 (fun h5 => ?_)
    have next : ∀ M', Rel M' → lw_G p l e s m below meth c Γ b 951 i [] M' := by
      intro M' hR' H locs lr hP hS hl
      refine lv_iinc (v := nI (i + 5)) (lv' := lwv Γ b (i + 5)) C.1.1 C.1.2.1 lw_d951 hl (k := 0) rfl (nI_add i 5) (by decide) rfl (fun lr' hl' => ?_)
      refine lv_goto (tgt := 18) C.1.1 C.1.2.1 lw_d954 (by decide) ?_
      exact ih (i + 5) M' (by omega) (by omega) hR' H locs lr' hP hS hl'
    intro H locs lr hP hS hl
    refine lv_aload_n C.1.1 C.1.2.1 lw_d26 rfl (lv_at hl 3 rfl) ?_
    refine lv_iload_n C.1.1 C.1.2.1 lw_d27 rfl (lv_at hl 0 rfl) ?_
    refine va_sld C.1.1 C.1.2.1 C.1.2.2.2.2.2.2.1 C.1.2.2.2.2.2.2.2.1 (A := fun q => s.heap.size ≤ q) (Nat.not_le.mpr C.1.2.2.2.2.2.2.2.1) hS (vp_in_nI (show i < L by omega) (by omega)) lw_d28 ?_
    rw [nI_clamp (by omega)]
    refine lv_bipush (v := 31) C.1.1 C.1.2.1 lw_d29 (by decide +kernel) ?_
    refine lv_iand C.1.1 C.1.2.1 lw_d31 ?_
    exact lw_switch C h5 hR next H locs lr hP hS hl
end LW2
