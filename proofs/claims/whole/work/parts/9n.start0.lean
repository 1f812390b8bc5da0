/-! the law: what its start says; written by wip/whole/gen/gen_start.py -/
theorem lw_ins {ws : List Cond} (ps : List Nat) (hp : ws = ps.filterMap (fun i => lw_tbl[i]?)) : ∀ w ∈ ws, w ∈ lw_tbl := by
  intro w hw
  rw [hp] at hw
  obtain ⟨i, -, hi⟩ := List.mem_filterMap.mp hw
  exact List.mem_of_getElem? hi
theorem lw_nest1 : ∀ w ∈ ct_nest, w ∈ lw_tbl := lw_ins [88, 126, 132, 219, 224, 275, 278, 285, 288, 292, 295, 299, 302, 355] (by decide +kernel)
theorem lw_nest2 : ∀ w ∈ am_nest, w ∈ lw_tbl := lw_ins [567, 638, 829, 927, 703, 883, 1300, 644] (by decide +kernel)
theorem lw_sr : ∀ w ∈ (List.range 10).map (fun i => Cond.stringRef "RaisedArms$Text" (90 + 2 * i) (am_stx.getD i "")), w ∈ lw_tbl := lw_ins [466, 467, 468, 469, 470, 471, 472, 473, 474, 475] (by decide +kernel)
theorem lw_ao : Cond.arrayOver (.object "RaisedArms$Evening") ∈ lw_tbl := List.mem_of_getElem? (i := 216) (by decide +kernel)
theorem lw_s1 : Cond.laysStatic "java/lang/String" "COMPACT_STRINGS" "Z" ∈ lw_tbl := List.mem_of_getElem? (i := 489) (by decide +kernel)
theorem lw_s2 : Cond.laysStatic "jdk/internal/util/Preconditions" "SIOOBE_FORMATTER" "Ljava/util/function/BiFunction;" ∈ lw_tbl := List.mem_of_getElem? (i := 505) (by decide +kernel)
theorem lw_s3 : Cond.initialized "java/lang/String" ∈ lw_tbl := List.mem_of_getElem? (i := 72) (by decide +kernel)
theorem lw_s4 : Cond.initialized "jdk/internal/util/Preconditions" ∈ lw_tbl := List.mem_of_getElem? (i := 74) (by decide +kernel)
theorem lw_i_0 : Cond.instantiable RX0 8 ∈ lw_tbl := List.mem_of_getElem? (i := 125) (by decide +kernel)
theorem lw_i_1 : Cond.instantiable RX1 13 ∈ lw_tbl := List.mem_of_getElem? (i := 349) (by decide +kernel)
theorem lw_i_2 : Cond.instantiable RX2 10 ∈ lw_tbl := List.mem_of_getElem? (i := 218) (by decide +kernel)
theorem lw_i_3 : Cond.instantiable RX3 5 ∈ lw_tbl := List.mem_of_getElem? (i := 131) (by decide +kernel)
theorem lw_i_4 : Cond.instantiable RX4 0 ∈ lw_tbl := List.mem_of_getElem? (i := 274) (by decide +kernel)
theorem lw_i_5 : Cond.instantiable RX5 0 ∈ lw_tbl := List.mem_of_getElem? (i := 291) (by decide +kernel)
theorem lw_i_6 : Cond.instantiable RX6 9 ∈ lw_tbl := List.mem_of_getElem? (i := 87) (by decide +kernel)
theorem lw_i_7 : Cond.instantiable RX7 0 ∈ lw_tbl := List.mem_of_getElem? (i := 298) (by decide +kernel)
theorem lw_i_8 : Cond.instantiable RX8 14 ∈ lw_tbl := List.mem_of_getElem? (i := 268) (by decide +kernel)
theorem lw_i_10 : Cond.instantiable RX10 0 ∈ lw_tbl := List.mem_of_getElem? (i := 284) (by decide +kernel)
theorem lw_i_11 : Cond.instantiable RX11 7 ∈ lw_tbl := List.mem_of_getElem? (i := 79) (by decide +kernel)
theorem lw_i_12 : Cond.instantiable RX12 35 ∈ lw_tbl := List.mem_of_getElem? (i := 937) (by decide +kernel)
theorem lw_n_7 : Cond.classLink R_law 7 RX11 ∈ am_tbl := (am_in 78 (by decide +kernel) (by decide +kernel))
theorem lw_n_10 : Cond.classLink R_law 10 RX12 ∈ am_tbl := (am_in 936 (by decide +kernel) (by decide +kernel))
theorem lw_l_11 : Cond.methodLink R_law 9 yX11_init ∈ am_tbl := (am_in 80 (by decide +kernel) (by decide +kernel))
theorem lw_x_11 : Cond.instantiable RX11 7 ∈ am_tbl := (am_in 79 (by decide +kernel) (by decide +kernel))
theorem lw_y_11 : Cond.initialized RX11 ∈ am_tbl := (am_in 59 (by decide +kernel) (by decide +kernel))
theorem lw_z_11 : Cond.instanceMethod yX11_init ∈ am_tbl := (am_in 81 (by decide +kernel) (by decide +kernel))
theorem lw_w_11 : Cond.code yX11_init cX11_init 3 none ∈ am_tbl := (am_in 82 (by decide +kernel) (by decide +kernel))
theorem lw_l_12 : Cond.methodLink R_law 12 yX12_init ∈ am_tbl := (am_in 938 (by decide +kernel) (by decide +kernel))
theorem lw_x_12 : Cond.instantiable RX12 35 ∈ am_tbl := (am_in 937 (by decide +kernel) (by decide +kernel))
theorem lw_y_12 : Cond.initialized RX12 ∈ am_tbl := (am_in 71 (by decide +kernel) (by decide +kernel))
theorem lw_z_12 : Cond.instanceMethod yX12_init ∈ am_tbl := (am_in 939 (by decide +kernel) (by decide +kernel))
theorem lw_w_12 : Cond.code yX12_init cX12_init 1 none ∈ am_tbl := (am_in 940 (by decide +kernel) (by decide +kernel))
def lw_tm (i : Nat) : Term := Term.string "RaisedArms$Text" (90 + 2 * i)
def lw_fl : List Cond := flatC (Jvm.Cond.and given_1 narrow_1)
theorem lw_f1 : ∀ i, i < 10 → Cond.exactly (lw_tm i) "java/lang/String" ∈ lw_fl := by decide +kernel
theorem lw_f2 : ∀ i, i < 10 → Cond.eq (.field (lw_tm i) "java/lang/String" "coder" "B") (.int 0) ∈ lw_fl := by decide +kernel
theorem lw_f3 : ∀ i, i < 10 → Cond.arrayOf (.field (lw_tm i) "java/lang/String" "value" "[B") .byte ∈ lw_fl := by decide +kernel
theorem lw_f4 : ∀ i, i < 10 → Cond.eq (.length (.field (lw_tm i) "java/lang/String" "value" "[B")) (.int (Int32.ofNat (am_slen.getD i 0))) ∈ lw_fl := by decide +kernel
theorem lw_f5 : ∀ i, i < 10 → ∀ j, j < am_slen.getD i 0 → Cond.eq (.elem (.field (lw_tm i) "java/lang/String" "value" "[B") (.int (Int32.ofNat j))) (.int ((am_sbyt.getD i []).getD j 0)) ∈ lw_fl := by decide +kernel
theorem lw_f6 : ∀ i, i < 10 → ∀ j, j < i → Cond.not (Cond.eq (lw_tm j) (lw_tm i)) ∈ lw_fl := by decide +kernel
theorem lw_f7 : ∀ x ∈ am_nc, Cond.not (.castable x.1 x.2) ∈ lw_fl := by decide +kernel
theorem lw_f8 : Cond.eq (.static "java/lang/String" "COMPACT_STRINGS" "Z") (.int 1) ∈ lw_fl := by decide +kernel
theorem lw_f9 : Cond.isRef (.static "jdk/internal/util/Preconditions" "SIOOBE_FORMATTER" "Ljava/util/function/BiFunction;") ∈ lw_fl := by decide +kernel
theorem lw_f0 : ∀ i, i < 10 → am_slen.getD i 0 < 2 ^ 31 := by decide +kernel
