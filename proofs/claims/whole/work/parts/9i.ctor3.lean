/-! constructors: the reference -/
set_option maxRecDepth 100000 in
set_option maxHeartbeats 4000000 in
theorem k_X12 (l : Launch) (D : va_G) (cI cZ cE : ClassId) (h0 : Nat) : ct_Met l yX12_init cX12_init 1 1 15 733 D cI cZ cE [] h0 (.inr (11, [.int 0, .null, .int 0, .null, .null, .int 0, .int 0, .null, .int 0, .int 0, .long 0, .int 0, .int 0, .int 0, .int 0, .int 0, .int 0, .null, .null, .null, .null, .null, .int 0, .null, .int 0, .int 0, .int 0, .null, .null, .null, .int 0, .int 0, .null, .null, .int 0])) (fun u : Nat → Nat => u 41) (mdW cI cZ cE) := by
  refine ct_start (by decide +kernel) rfl (Nat.le_of_ble_eq_true rfl) ?_
  intro p e s m args below meth c A Q C hmi ret
  refine ct_aload C 0 (show decode cX12_init 0 = .ok (.aload_n 0, 1) by decide +kernel) rfl rfl ?_
  refine ct_objInit C (am_in 941 (by decide +kernel) (by decide +kernel)) ct_oi ct_oc ⟨(Nat.le_of_ble_eq_true rfl), (Nat.le_of_ble_eq_true rfl)⟩ (Nat.le_of_ble_eq_true rfl) (show decode cX12_init 1 = .ok (.invokespecial 1, 3) by decide +kernel) ?_
  refine ct_aload C 0 (show decode cX12_init 4 = .ok (.aload_n 0, 1) by decide +kernel) rfl rfl ?_
  refine ct_bipush C (24) (show decode cX12_init 5 = .ok (.bipush 24, 2) by decide +kernel) (by decide +kernel) ?_
  refine ct_newI C ct_aI 24 (by decide +kernel) (by decide +kernel) (by decide) (Nat.le_of_ble_eq_true rfl) (Nat.le_of_ble_eq_true rfl) (show decode cX12_init 7 = .ok (.newarray .int, 2) by decide +kernel) (fun q1 => ?_)
  refine ct_putF C hmi (T := TX12) (N := 35) (ci := 11) am_u_12 tyX12 tyX12_ok nmX12 rfl 1 (by decide) (am_in 943 (by decide +kernel) (by decide +kernel)) rfl rfl (tyX12_ok 1 (by decide)) rfl rfl (Nat.le_of_ble_eq_true rfl) (show decode cX12_init 9 = .ok (.putfield 7, 3) by decide +kernel) ?_
  refine ct_aload C 0 (show decode cX12_init 12 = .ok (.aload_n 0, 1) by decide +kernel) rfl rfl ?_
  refine ct_iconst C (5) (show decode cX12_init 13 = .ok (.iconst 5, 1) by decide +kernel) (by decide +kernel) ?_
  refine ct_newI C ct_aI 5 (by decide +kernel) (by decide +kernel) (by decide) (Nat.le_of_ble_eq_true rfl) (Nat.le_of_ble_eq_true rfl) (show decode cX12_init 14 = .ok (.newarray .int, 2) by decide +kernel) (fun q2 => ?_)
  refine ct_putF C hmi (T := TX12) (N := 35) (ci := 11) am_u_12 tyX12 tyX12_ok nmX12 rfl 3 (by decide) (am_in 945 (by decide +kernel) (by decide +kernel)) rfl rfl (tyX12_ok 3 (by decide)) rfl rfl (Nat.le_of_ble_eq_true rfl) (show decode cX12_init 16 = .ok (.putfield 13, 3) by decide +kernel) ?_
  refine ct_aload C 0 (show decode cX12_init 19 = .ok (.aload_n 0, 1) by decide +kernel) rfl rfl ?_
  refine ct_bipush C (30) (show decode cX12_init 20 = .ok (.bipush 30, 2) by decide +kernel) (by decide +kernel) ?_
  refine ct_newI C ct_aI 30 (by decide +kernel) (by decide +kernel) (by decide) (Nat.le_of_ble_eq_true rfl) (Nat.le_of_ble_eq_true rfl) (show decode cX12_init 22 = .ok (.newarray .int, 2) by decide +kernel) (fun q3 => ?_)
  refine ct_putF C hmi (T := TX12) (N := 35) (ci := 11) am_u_12 tyX12 tyX12_ok nmX12 rfl 4 (by decide) (am_in 946 (by decide +kernel) (by decide +kernel)) rfl rfl (tyX12_ok 4 (by decide)) rfl rfl (Nat.le_of_ble_eq_true rfl) (show decode cX12_init 24 = .ok (.putfield 16, 3) by decide +kernel) ?_
  refine ct_aload C 0 (show decode cX12_init 27 = .ok (.aload_n 0, 1) by decide +kernel) rfl rfl ?_
  refine ct_iconst C (2) (show decode cX12_init 28 = .ok (.iconst 2, 1) by decide +kernel) (by decide +kernel) ?_
  refine ct_put C (T := TX12) (N := 35) (ci := 11) am_u_12 tyX12 tyX12_ok nmX12 rfl 5 (by decide) (am_in 947 (by decide +kernel) (by decide +kernel)) rfl rfl (tyX12_ok 5 (by decide)) rfl rfl (Nat.le_of_ble_eq_true rfl) (show decode cX12_init 29 = .ok (.putfield 19, 3) by decide +kernel) ?_
  refine ct_aload C 0 (show decode cX12_init 32 = .ok (.aload_n 0, 1) by decide +kernel) rfl rfl ?_
  refine ct_sipush C (200) (show decode cX12_init 33 = .ok (.sipush 200, 3) by decide +kernel) (by decide +kernel) ?_
  refine ct_newI C ct_aI 200 (by decide +kernel) (by decide +kernel) (by decide) (Nat.le_of_ble_eq_true rfl) (Nat.le_of_ble_eq_true rfl) (show decode cX12_init 36 = .ok (.newarray .int, 2) by decide +kernel) (fun q4 => ?_)
  refine ct_putF C hmi (T := TX12) (N := 35) (ci := 11) am_u_12 tyX12 tyX12_ok nmX12 rfl 7 (by decide) (am_in 949 (by decide +kernel) (by decide +kernel)) rfl rfl (tyX12_ok 7 (by decide)) rfl rfl (Nat.le_of_ble_eq_true rfl) (show decode cX12_init 38 = .ok (.putfield 23, 3) by decide +kernel) ?_
  refine ct_aload C 0 (show decode cX12_init 41 = .ok (.aload_n 0, 1) by decide +kernel) rfl rfl ?_
  refine ct_bipush C (48) (show decode cX12_init 42 = .ok (.bipush 48, 2) by decide +kernel) (by decide +kernel) ?_
  refine ct_newI C ct_aI 48 (by decide +kernel) (by decide +kernel) (by decide) (Nat.le_of_ble_eq_true rfl) (Nat.le_of_ble_eq_true rfl) (show decode cX12_init 44 = .ok (.newarray .int, 2) by decide +kernel) (fun q5 => ?_)
  refine ct_putF C hmi (T := TX12) (N := 35) (ci := 11) am_u_12 tyX12 tyX12_ok nmX12 rfl 17 (by decide) (am_in 959 (by decide +kernel) (by decide +kernel)) rfl rfl (tyX12_ok 17 (by decide)) rfl rfl (Nat.le_of_ble_eq_true rfl) (show decode cX12_init 46 = .ok (.putfield 26, 3) by decide +kernel) ?_
  refine ct_aload C 0 (show decode cX12_init 49 = .ok (.aload_n 0, 1) by decide +kernel) rfl rfl ?_
  refine ct_bipush C (92) (show decode cX12_init 50 = .ok (.bipush 92, 2) by decide +kernel) (by decide +kernel) ?_
  refine ct_newI C ct_aI 92 (by decide +kernel) (by decide +kernel) (by decide) (Nat.le_of_ble_eq_true rfl) (Nat.le_of_ble_eq_true rfl) (show decode cX12_init 52 = .ok (.newarray .int, 2) by decide +kernel) (fun q6 => ?_)
  refine ct_putF C hmi (T := TX12) (N := 35) (ci := 11) am_u_12 tyX12 tyX12_ok nmX12 rfl 18 (by decide) (am_in 960 (by decide +kernel) (by decide +kernel)) rfl rfl (tyX12_ok 18 (by decide)) rfl rfl (Nat.le_of_ble_eq_true rfl) (show decode cX12_init 54 = .ok (.putfield 29, 3) by decide +kernel) ?_
  refine ct_aload C 0 (show decode cX12_init 57 = .ok (.aload_n 0, 1) by decide +kernel) rfl rfl ?_
  refine ct_bipush C (92) (show decode cX12_init 58 = .ok (.bipush 92, 2) by decide +kernel) (by decide +kernel) ?_
  refine ct_newI C ct_aI 92 (by decide +kernel) (by decide +kernel) (by decide) (Nat.le_of_ble_eq_true rfl) (Nat.le_of_ble_eq_true rfl) (show decode cX12_init 60 = .ok (.newarray .int, 2) by decide +kernel) (fun q7 => ?_)
  refine ct_putF C hmi (T := TX12) (N := 35) (ci := 11) am_u_12 tyX12 tyX12_ok nmX12 rfl 19 (by decide) (am_in 961 (by decide +kernel) (by decide +kernel)) rfl rfl (tyX12_ok 19 (by decide)) rfl rfl (Nat.le_of_ble_eq_true rfl) (show decode cX12_init 62 = .ok (.putfield 32, 3) by decide +kernel) ?_
  refine ct_aload C 0 (show decode cX12_init 65 = .ok (.aload_n 0, 1) by decide +kernel) rfl rfl ?_
  refine ct_sipush C (184) (show decode cX12_init 66 = .ok (.sipush 184, 3) by decide +kernel) (by decide +kernel) ?_
  refine ct_newI C ct_aI 184 (by decide +kernel) (by decide +kernel) (by decide) (Nat.le_of_ble_eq_true rfl) (Nat.le_of_ble_eq_true rfl) (show decode cX12_init 69 = .ok (.newarray .int, 2) by decide +kernel) (fun q8 => ?_)
  refine ct_putF C hmi (T := TX12) (N := 35) (ci := 11) am_u_12 tyX12 tyX12_ok nmX12 rfl 20 (by decide) (am_in 962 (by decide +kernel) (by decide +kernel)) rfl rfl (tyX12_ok 20 (by decide)) rfl rfl (Nat.le_of_ble_eq_true rfl) (show decode cX12_init 71 = .ok (.putfield 35, 3) by decide +kernel) ?_
  refine ct_aload C 0 (show decode cX12_init 74 = .ok (.aload_n 0, 1) by decide +kernel) rfl rfl ?_
  refine ct_iconst C (2) (show decode cX12_init 75 = .ok (.iconst 2, 1) by decide +kernel) (by decide +kernel) ?_
  refine ct_newZ C ct_aZ 2 (by decide +kernel) (by decide +kernel) (by decide) (Nat.le_of_ble_eq_true rfl) (Nat.le_of_ble_eq_true rfl) (show decode cX12_init 76 = .ok (.newarray .boolean, 2) by decide +kernel) (fun q9 => ?_)
  refine ct_putF C hmi (T := TX12) (N := 35) (ci := 11) am_u_12 tyX12 tyX12_ok nmX12 rfl 21 (by decide) (am_in 963 (by decide +kernel) (by decide +kernel)) rfl rfl (tyX12_ok 21 (by decide)) rfl rfl (Nat.le_of_ble_eq_true rfl) (show decode cX12_init 78 = .ok (.putfield 38, 3) by decide +kernel) ?_
  refine ct_aload C 0 (show decode cX12_init 81 = .ok (.aload_n 0, 1) by decide +kernel) rfl rfl ?_
  refine ct_bipush C (32) (show decode cX12_init 82 = .ok (.bipush 32, 2) by decide +kernel) (by decide +kernel) ?_
  refine ct_newI C ct_aI 32 (by decide +kernel) (by decide +kernel) (by decide) (Nat.le_of_ble_eq_true rfl) (Nat.le_of_ble_eq_true rfl) (show decode cX12_init 84 = .ok (.newarray .int, 2) by decide +kernel) (fun q10 => ?_)
  refine ct_putF C hmi (T := TX12) (N := 35) (ci := 11) am_u_12 tyX12 tyX12_ok nmX12 rfl 23 (by decide) (am_in 965 (by decide +kernel) (by decide +kernel)) rfl rfl (tyX12_ok 23 (by decide)) rfl rfl (Nat.le_of_ble_eq_true rfl) (show decode cX12_init 86 = .ok (.putfield 42, 3) by decide +kernel) ?_
  refine ct_aload C 0 (show decode cX12_init 89 = .ok (.aload_n 0, 1) by decide +kernel) rfl rfl ?_
  refine ct_bipush C (6) (show decode cX12_init 90 = .ok (.bipush 6, 2) by decide +kernel) (by decide +kernel) ?_
  refine ct_newI C ct_aI 6 (by decide +kernel) (by decide +kernel) (by decide) (Nat.le_of_ble_eq_true rfl) (Nat.le_of_ble_eq_true rfl) (show decode cX12_init 92 = .ok (.newarray .int, 2) by decide +kernel) (fun q11 => ?_)
  refine ct_putF C hmi (T := TX12) (N := 35) (ci := 11) am_u_12 tyX12 tyX12_ok nmX12 rfl 27 (by decide) (am_in 969 (by decide +kernel) (by decide +kernel)) rfl rfl (tyX12_ok 27 (by decide)) rfl rfl (Nat.le_of_ble_eq_true rfl) (show decode cX12_init 94 = .ok (.putfield 45, 3) by decide +kernel) ?_
  refine ct_aload C 0 (show decode cX12_init 97 = .ok (.aload_n 0, 1) by decide +kernel) rfl rfl ?_
  refine ct_bipush C (6) (show decode cX12_init 98 = .ok (.bipush 6, 2) by decide +kernel) (by decide +kernel) ?_
  refine ct_newI C ct_aI 6 (by decide +kernel) (by decide +kernel) (by decide) (Nat.le_of_ble_eq_true rfl) (Nat.le_of_ble_eq_true rfl) (show decode cX12_init 100 = .ok (.newarray .int, 2) by decide +kernel) (fun q12 => ?_)
  refine ct_putF C hmi (T := TX12) (N := 35) (ci := 11) am_u_12 tyX12 tyX12_ok nmX12 rfl 28 (by decide) (am_in 970 (by decide +kernel) (by decide +kernel)) rfl rfl (tyX12_ok 28 (by decide)) rfl rfl (Nat.le_of_ble_eq_true rfl) (show decode cX12_init 102 = .ok (.putfield 48, 3) by decide +kernel) ?_
  refine ct_aload C 0 (show decode cX12_init 105 = .ok (.aload_n 0, 1) by decide +kernel) rfl rfl ?_
  refine ct_bipush C (6) (show decode cX12_init 106 = .ok (.bipush 6, 2) by decide +kernel) (by decide +kernel) ?_
  refine ct_newZ C ct_aZ 6 (by decide +kernel) (by decide +kernel) (by decide) (Nat.le_of_ble_eq_true rfl) (Nat.le_of_ble_eq_true rfl) (show decode cX12_init 108 = .ok (.newarray .boolean, 2) by decide +kernel) (fun q13 => ?_)
  refine ct_putF C hmi (T := TX12) (N := 35) (ci := 11) am_u_12 tyX12 tyX12_ok nmX12 rfl 29 (by decide) (am_in 971 (by decide +kernel) (by decide +kernel)) rfl rfl (tyX12_ok 29 (by decide)) rfl rfl (Nat.le_of_ble_eq_true rfl) (show decode cX12_init 110 = .ok (.putfield 51, 3) by decide +kernel) ?_
  refine ct_aload C 0 (show decode cX12_init 113 = .ok (.aload_n 0, 1) by decide +kernel) rfl rfl ?_
  refine ct_iconst C (-1) (show decode cX12_init 114 = .ok (.iconst (-1), 1) by decide +kernel) (by decide +kernel) ?_
  refine ct_put C (T := TX12) (N := 35) (ci := 11) am_u_12 tyX12 tyX12_ok nmX12 rfl 30 (by decide) (am_in 972 (by decide +kernel) (by decide +kernel)) rfl rfl (tyX12_ok 30 (by decide)) rfl rfl (Nat.le_of_ble_eq_true rfl) (show decode cX12_init 115 = .ok (.putfield 54, 3) by decide +kernel) ?_
  refine ct_aload C 0 (show decode cX12_init 118 = .ok (.aload_n 0, 1) by decide +kernel) rfl rfl ?_
  refine ct_iconst C (3) (show decode cX12_init 119 = .ok (.iconst 3, 1) by decide +kernel) (by decide +kernel) ?_
  refine ct_newI C ct_aI 3 (by decide +kernel) (by decide +kernel) (by decide) (Nat.le_of_ble_eq_true rfl) (Nat.le_of_ble_eq_true rfl) (show decode cX12_init 120 = .ok (.newarray .int, 2) by decide +kernel) (fun q14 => ?_)
  refine ct_putF C hmi (T := TX12) (N := 35) (ci := 11) am_u_12 tyX12 tyX12_ok nmX12 rfl 32 (by decide) (am_in 974 (by decide +kernel) (by decide +kernel)) rfl rfl (tyX12_ok 32 (by decide)) rfl rfl (Nat.le_of_ble_eq_true rfl) (show decode cX12_init 122 = .ok (.putfield 57, 3) by decide +kernel) ?_
  refine ct_aload C 0 (show decode cX12_init 125 = .ok (.aload_n 0, 1) by decide +kernel) rfl rfl ?_
  refine ct_iconst C (3) (show decode cX12_init 126 = .ok (.iconst 3, 1) by decide +kernel) (by decide +kernel) ?_
  refine ct_newI C ct_aI 3 (by decide +kernel) (by decide +kernel) (by decide) (Nat.le_of_ble_eq_true rfl) (Nat.le_of_ble_eq_true rfl) (show decode cX12_init 127 = .ok (.newarray .int, 2) by decide +kernel) (fun q15 => ?_)
  refine ct_putF C hmi (T := TX12) (N := 35) (ci := 11) am_u_12 tyX12 tyX12_ok nmX12 rfl 33 (by decide) (am_in 975 (by decide +kernel) (by decide +kernel)) rfl rfl (tyX12_ok 33 (by decide)) rfl rfl (Nat.le_of_ble_eq_true rfl) (show decode cX12_init 129 = .ok (.putfield 60, 3) by decide +kernel) ?_
  exact ret (fun p => match p with | 41 => h0 | 42 => q1 | 43 => q2 | 44 => q3 | 45 => q4 | 46 => q5 | 47 => q6 | 48 => q7 | 49 => q8 | 50 => q9 | 51 => q10 | 52 => q11 | 53 => q12 | 54 => q13 | 55 => q14 | _ => q15) 132 _ rfl (show decode cX12_init 132 = .ok (.return_, 1) by decide +kernel)
