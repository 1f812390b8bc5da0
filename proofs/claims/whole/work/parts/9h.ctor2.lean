/-! constructors: Foresight, the class -/
set_option maxRecDepth 100000 in
set_option maxHeartbeats 4000000 in
theorem k_X1 (l : Launch) (D : va_G) (cI cZ cE : ClassId) (h0 a1 a2 : Nat) : ct_Met l yX1_init cX1_init 4 3 72 797 D cI cZ cE [.ref a1, .ref a2] h0 (.inr (1, [.null, .null, .null, .null, .null, .null, .int 0, .int 0, .null, .null, .int 0, .int 0, .int 0])) (fun u : Nat → Nat → Nat => u 0 34) (foW cI cZ cE a1 a2) := by
  refine ct_start (by decide +kernel) rfl (Nat.le_of_ble_eq_true rfl) ?_
  intro p e s m args below meth c A Q C hmi ret
  refine ct_aload C 0 (show decode cX1_init 0 = .ok (.aload_n 0, 1) by decide +kernel) rfl rfl ?_
  refine ct_objInit C (am_in 353 (by decide +kernel) (by decide +kernel)) ct_oi ct_oc ⟨(Nat.le_of_ble_eq_true rfl), (Nat.le_of_ble_eq_true rfl)⟩ (Nat.le_of_ble_eq_true rfl) (show decode cX1_init 1 = .ok (.invokespecial 3, 3) by decide +kernel) ?_
  refine ct_aload C 0 (show decode cX1_init 4 = .ok (.aload_n 0, 1) by decide +kernel) rfl rfl ?_
  refine ct_bipush C (6) (show decode cX1_init 5 = .ok (.bipush 6, 2) by decide +kernel) (by decide +kernel) ?_
  refine ct_newE C (am_in 354 (by decide +kernel) (by decide +kernel)) 6 (by decide +kernel) (by decide +kernel) (by decide) (Nat.le_of_ble_eq_true rfl) (Nat.le_of_ble_eq_true rfl) (show decode cX1_init 7 = .ok (.anewarray 9, 3) by decide +kernel) (fun q1 => ?_)
  refine ct_putF C hmi (T := TX1) (N := 13) (ci := 1) am_u_1 tyX1 tyX1_ok nmX1 rfl 2 (by decide) (am_in 358 (by decide +kernel) (by decide +kernel)) rfl rfl (tyX1_ok 2 (by decide)) rfl rfl (Nat.le_of_ble_eq_true rfl) (show decode cX1_init 10 = .ok (.putfield 11, 3) by decide +kernel) ?_
  refine ct_aload C 0 (show decode cX1_init 13 = .ok (.aload_n 0, 1) by decide +kernel) rfl rfl ?_
  refine ct_iconst C (5) (show decode cX1_init 14 = .ok (.iconst 5, 1) by decide +kernel) (by decide +kernel) ?_
  refine ct_newI C ct_aI 5 (by decide +kernel) (by decide +kernel) (by decide) (Nat.le_of_ble_eq_true rfl) (Nat.le_of_ble_eq_true rfl) (show decode cX1_init 15 = .ok (.newarray .int, 2) by decide +kernel) (fun q2 => ?_)
  refine ct_putF C hmi (T := TX1) (N := 13) (ci := 1) am_u_1 tyX1 tyX1_ok nmX1 rfl 3 (by decide) (am_in 359 (by decide +kernel) (by decide +kernel)) rfl rfl (tyX1_ok 3 (by decide)) rfl rfl (Nat.le_of_ble_eq_true rfl) (show decode cX1_init 17 = .ok (.putfield 17, 3) by decide +kernel) ?_
  refine ct_aload C 0 (show decode cX1_init 20 = .ok (.aload_n 0, 1) by decide +kernel) rfl rfl ?_
  refine ct_iconst C (3) (show decode cX1_init 21 = .ok (.iconst 3, 1) by decide +kernel) (by decide +kernel) ?_
  refine ct_newI C ct_aI 3 (by decide +kernel) (by decide +kernel) (by decide) (Nat.le_of_ble_eq_true rfl) (Nat.le_of_ble_eq_true rfl) (show decode cX1_init 22 = .ok (.newarray .int, 2) by decide +kernel) (fun q3 => ?_)
  refine ct_putF C hmi (T := TX1) (N := 13) (ci := 1) am_u_1 tyX1 tyX1_ok nmX1 rfl 4 (by decide) (am_in 361 (by decide +kernel) (by decide +kernel)) rfl rfl (tyX1_ok 4 (by decide)) rfl rfl (Nat.le_of_ble_eq_true rfl) (show decode cX1_init 24 = .ok (.putfield 21, 3) by decide +kernel) ?_
  refine ct_aload C 0 (show decode cX1_init 27 = .ok (.aload_n 0, 1) by decide +kernel) rfl rfl ?_
  refine ct_iconst C (3) (show decode cX1_init 28 = .ok (.iconst 3, 1) by decide +kernel) (by decide +kernel) ?_
  refine ct_newI C ct_aI 3 (by decide +kernel) (by decide +kernel) (by decide) (Nat.le_of_ble_eq_true rfl) (Nat.le_of_ble_eq_true rfl) (show decode cX1_init 29 = .ok (.newarray .int, 2) by decide +kernel) (fun q4 => ?_)
  refine ct_putF C hmi (T := TX1) (N := 13) (ci := 1) am_u_1 tyX1 tyX1_ok nmX1 rfl 5 (by decide) (am_in 362 (by decide +kernel) (by decide +kernel)) rfl rfl (tyX1_ok 5 (by decide)) rfl rfl (Nat.le_of_ble_eq_true rfl) (show decode cX1_init 31 = .ok (.putfield 24, 3) by decide +kernel) ?_
  refine ct_aload C 0 (show decode cX1_init 34 = .ok (.aload_n 0, 1) by decide +kernel) rfl rfl ?_
  refine ct_bipush C (6) (show decode cX1_init 35 = .ok (.bipush 6, 2) by decide +kernel) (by decide +kernel) ?_
  refine ct_newI C ct_aI 6 (by decide +kernel) (by decide +kernel) (by decide) (Nat.le_of_ble_eq_true rfl) (Nat.le_of_ble_eq_true rfl) (show decode cX1_init 37 = .ok (.newarray .int, 2) by decide +kernel) (fun q5 => ?_)
  refine ct_putF C hmi (T := TX1) (N := 13) (ci := 1) am_u_1 tyX1 tyX1_ok nmX1 rfl 8 (by decide) (am_in 367 (by decide +kernel) (by decide +kernel)) rfl rfl (tyX1_ok 8 (by decide)) rfl rfl (Nat.le_of_ble_eq_true rfl) (show decode cX1_init 39 = .ok (.putfield 27, 3) by decide +kernel) ?_
  refine ct_aload C 0 (show decode cX1_init 42 = .ok (.aload_n 0, 1) by decide +kernel) rfl rfl ?_
  refine ct_bipush C (6) (show decode cX1_init 43 = .ok (.bipush 6, 2) by decide +kernel) (by decide +kernel) ?_
  refine ct_newI C ct_aI 6 (by decide +kernel) (by decide +kernel) (by decide) (Nat.le_of_ble_eq_true rfl) (Nat.le_of_ble_eq_true rfl) (show decode cX1_init 45 = .ok (.newarray .int, 2) by decide +kernel) (fun q6 => ?_)
  refine ct_putF C hmi (T := TX1) (N := 13) (ci := 1) am_u_1 tyX1 tyX1_ok nmX1 rfl 9 (by decide) (am_in 368 (by decide +kernel) (by decide +kernel)) rfl rfl (tyX1_ok 9 (by decide)) rfl rfl (Nat.le_of_ble_eq_true rfl) (show decode cX1_init 47 = .ok (.putfield 30, 3) by decide +kernel) ?_
  refine ct_aload C 0 (show decode cX1_init 50 = .ok (.aload_n 0, 1) by decide +kernel) rfl rfl ?_
  refine ct_aload C 1 (show decode cX1_init 51 = .ok (.aload_n 1, 1) by decide +kernel) rfl rfl ?_
  refine ct_putF C hmi (T := TX1) (N := 13) (ci := 1) am_u_1 tyX1 tyX1_ok nmX1 rfl 0 (by decide) (am_in 356 (by decide +kernel) (by decide +kernel)) rfl rfl (tyX1_ok 0 (by decide)) rfl rfl (Nat.le_of_ble_eq_true rfl) (show decode cX1_init 52 = .ok (.putfield 33, 3) by decide +kernel) ?_
  refine ct_aload C 0 (show decode cX1_init 55 = .ok (.aload_n 0, 1) by decide +kernel) rfl rfl ?_
  refine ct_aload C 2 (show decode cX1_init 56 = .ok (.aload_n 2, 1) by decide +kernel) rfl rfl ?_
  refine ct_putF C hmi (T := TX1) (N := 13) (ci := 1) am_u_1 tyX1 tyX1_ok nmX1 rfl 1 (by decide) (am_in 357 (by decide +kernel) (by decide +kernel)) rfl rfl (tyX1_ok 1 (by decide)) rfl rfl (Nat.le_of_ble_eq_true rfl) (show decode cX1_init 57 = .ok (.putfield 37, 3) by decide +kernel) ?_
  refine ct_iconst C (0) (show decode cX1_init 60 = .ok (.iconst 0, 1) by decide +kernel) (by decide +kernel) ?_
  refine ct_istore C (lv' := [(3, .int 0), (0, .ref (h0)), (1, .ref (a1)), (2, .ref (a2))]) (show decode cX1_init 61 = .ok (.istore_n 3, 1) by decide +kernel) rfl (by decide) rfl ?_
  refine ct_iload C 0 (show decode cX1_init 62 = .ok (.iload_n 3, 1) by decide +kernel) rfl rfl ?_
  refine ct_iconst C (5) (show decode cX1_init 63 = .ok (.iconst 5, 1) by decide +kernel) (by decide +kernel) ?_
  refine ct_ngt C 86 (show decode cX1_init 64 = .ok (.if_icmp .gt 22, 3) by decide +kernel) (by decide) (by decide +kernel) ?_
  refine ct_aload C 1 (show decode cX1_init 67 = .ok (.aload_n 0, 1) by decide +kernel) rfl rfl ?_
  refine ct_get C (T := TX1) (N := 13) (ci := 1) (Cn := RX1) am_u_1 0 rfl rfl 2 (by decide) (am_in 358 (by decide +kernel) (by decide +kernel)) rfl (show decode cX1_init 68 = .ok (.getfield 11, 3) by decide +kernel) ?_
  refine ct_iload C 0 (show decode cX1_init 71 = .ok (.iload_n 3, 1) by decide +kernel) rfl rfl ?_
  refine ct_new C (T := TX0) (N := 8) (ci := 0) (Cn := RX0) am_u_0 tyX0 tyX0_ok (am_in 354 (by decide +kernel) (by decide +kernel)) (am_in 125 (by decide +kernel) (by decide +kernel)) (am_in 61 (by decide +kernel) (by decide +kernel)) rfl [.null, .null, .null, .null, .null, .null, .int 0, .int 0] df_0 (Nat.le_of_ble_eq_true rfl) (Nat.le_of_ble_eq_true rfl) (show decode cX1_init 72 = .ok (.new 9, 3) by decide +kernel) (fun q7 => ?_)
  refine ct_dup C (show decode cX1_init 75 = .ok (.dup, 1) by decide +kernel) ?_
  refine ct_callN C (n := 0) (As := []) (rest := [.ref (q7), .int 0, .ref (q1)]) (k_X0 l D cI cZ cE (q7)) (am_in 128 (by decide +kernel) (by decide +kernel)) (am_in 61 (by decide +kernel) (by decide +kernel)) (am_in 127 (by decide +kernel) (by decide +kernel)) (List.mem_of_getElem? (i := 13) rfl) rfl (by decide +kernel) rfl ⟨(Nat.le_of_ble_eq_true rfl), (Nat.le_of_ble_eq_true rfl)⟩ (Nat.le_of_ble_eq_true rfl) (show decode cX1_init 76 = .ok (.invokespecial 41, 3) by decide +kernel) ⟨(Nat.le_of_ble_eq_true rfl), (Nat.le_of_ble_eq_true rfl)⟩ (fun u7 hu7 => ?_)
  have hu7 : u7 0 = q7 := hu7
  subst hu7
  refine ct_aastore C 1 7 rfl rfl (by unfold vp_in; decide +kernel) (show decode cX1_init 79 = .ok (.aastore, 1) by decide +kernel) ?_
  refine ct_iinc C (v := 1) (lv' := [(3, .int 1), (0, .ref (h0)), (1, .ref (a1)), (2, .ref (a2))]) 0 (show decode cX1_init 80 = .ok (.iinc 3 1, 3) by decide +kernel) rfl (by decide +kernel) (by decide) rfl ?_
  refine ct_goto C 62 (show decode cX1_init 83 = .ok (.goto (-21), 3) by decide +kernel) (by decide) ?_
  refine ct_iload C 0 (show decode cX1_init 62 = .ok (.iload_n 3, 1) by decide +kernel) rfl rfl ?_
  refine ct_iconst C (5) (show decode cX1_init 63 = .ok (.iconst 5, 1) by decide +kernel) (by decide +kernel) ?_
  refine ct_ngt C 86 (show decode cX1_init 64 = .ok (.if_icmp .gt 22, 3) by decide +kernel) (by decide) (by decide +kernel) ?_
  refine ct_aload C 1 (show decode cX1_init 67 = .ok (.aload_n 0, 1) by decide +kernel) rfl rfl ?_
  refine ct_get C (T := TX1) (N := 13) (ci := 1) (Cn := RX1) am_u_1 0 rfl rfl 2 (by decide) (am_in 358 (by decide +kernel) (by decide +kernel)) rfl (show decode cX1_init 68 = .ok (.getfield 11, 3) by decide +kernel) ?_
  refine ct_iload C 0 (show decode cX1_init 71 = .ok (.iload_n 3, 1) by decide +kernel) rfl rfl ?_
  refine ct_new C (T := TX0) (N := 8) (ci := 0) (Cn := RX0) am_u_0 tyX0 tyX0_ok (am_in 354 (by decide +kernel) (by decide +kernel)) (am_in 125 (by decide +kernel) (by decide +kernel)) (am_in 61 (by decide +kernel) (by decide +kernel)) rfl [.null, .null, .null, .null, .null, .null, .int 0, .int 0] df_0 (Nat.le_of_ble_eq_true rfl) (Nat.le_of_ble_eq_true rfl) (show decode cX1_init 72 = .ok (.new 9, 3) by decide +kernel) (fun q8 => ?_)
  refine ct_dup C (show decode cX1_init 75 = .ok (.dup, 1) by decide +kernel) ?_
  refine ct_callN C (n := 0) (As := []) (rest := [.ref (q8), .int 1, .ref (q1)]) (k_X0 l D cI cZ cE (q8)) (am_in 128 (by decide +kernel) (by decide +kernel)) (am_in 61 (by decide +kernel) (by decide +kernel)) (am_in 127 (by decide +kernel) (by decide +kernel)) (List.mem_of_getElem? (i := 13) rfl) rfl (by decide +kernel) rfl ⟨(Nat.le_of_ble_eq_true rfl), (Nat.le_of_ble_eq_true rfl)⟩ (Nat.le_of_ble_eq_true rfl) (show decode cX1_init 76 = .ok (.invokespecial 41, 3) by decide +kernel) ⟨(Nat.le_of_ble_eq_true rfl), (Nat.le_of_ble_eq_true rfl)⟩ (fun u8 hu8 => ?_)
  have hu8 : u8 0 = q8 := hu8
  subst hu8
  refine ct_aastore C 1 18 rfl rfl (by unfold vp_in; decide +kernel) (show decode cX1_init 79 = .ok (.aastore, 1) by decide +kernel) ?_
  refine ct_iinc C (v := 2) (lv' := [(3, .int 2), (0, .ref (h0)), (1, .ref (a1)), (2, .ref (a2))]) 0 (show decode cX1_init 80 = .ok (.iinc 3 1, 3) by decide +kernel) rfl (by decide +kernel) (by decide) rfl ?_
  refine ct_goto C 62 (show decode cX1_init 83 = .ok (.goto (-21), 3) by decide +kernel) (by decide) ?_
  refine ct_iload C 0 (show decode cX1_init 62 = .ok (.iload_n 3, 1) by decide +kernel) rfl rfl ?_
  refine ct_iconst C (5) (show decode cX1_init 63 = .ok (.iconst 5, 1) by decide +kernel) (by decide +kernel) ?_
  refine ct_ngt C 86 (show decode cX1_init 64 = .ok (.if_icmp .gt 22, 3) by decide +kernel) (by decide) (by decide +kernel) ?_
  refine ct_aload C 1 (show decode cX1_init 67 = .ok (.aload_n 0, 1) by decide +kernel) rfl rfl ?_
  refine ct_get C (T := TX1) (N := 13) (ci := 1) (Cn := RX1) am_u_1 0 rfl rfl 2 (by decide) (am_in 358 (by decide +kernel) (by decide +kernel)) rfl (show decode cX1_init 68 = .ok (.getfield 11, 3) by decide +kernel) ?_
  refine ct_iload C 0 (show decode cX1_init 71 = .ok (.iload_n 3, 1) by decide +kernel) rfl rfl ?_
  refine ct_new C (T := TX0) (N := 8) (ci := 0) (Cn := RX0) am_u_0 tyX0 tyX0_ok (am_in 354 (by decide +kernel) (by decide +kernel)) (am_in 125 (by decide +kernel) (by decide +kernel)) (am_in 61 (by decide +kernel) (by decide +kernel)) rfl [.null, .null, .null, .null, .null, .null, .int 0, .int 0] df_0 (Nat.le_of_ble_eq_true rfl) (Nat.le_of_ble_eq_true rfl) (show decode cX1_init 72 = .ok (.new 9, 3) by decide +kernel) (fun q9 => ?_)
  refine ct_dup C (show decode cX1_init 75 = .ok (.dup, 1) by decide +kernel) ?_
  refine ct_callN C (n := 0) (As := []) (rest := [.ref (q9), .int 2, .ref (q1)]) (k_X0 l D cI cZ cE (q9)) (am_in 128 (by decide +kernel) (by decide +kernel)) (am_in 61 (by decide +kernel) (by decide +kernel)) (am_in 127 (by decide +kernel) (by decide +kernel)) (List.mem_of_getElem? (i := 13) rfl) rfl (by decide +kernel) rfl ⟨(Nat.le_of_ble_eq_true rfl), (Nat.le_of_ble_eq_true rfl)⟩ (Nat.le_of_ble_eq_true rfl) (show decode cX1_init 76 = .ok (.invokespecial 41, 3) by decide +kernel) ⟨(Nat.le_of_ble_eq_true rfl), (Nat.le_of_ble_eq_true rfl)⟩ (fun u9 hu9 => ?_)
  have hu9 : u9 0 = q9 := hu9
  subst hu9
  refine ct_aastore C 1 29 rfl rfl (by unfold vp_in; decide +kernel) (show decode cX1_init 79 = .ok (.aastore, 1) by decide +kernel) ?_
  refine ct_iinc C (v := 3) (lv' := [(3, .int 3), (0, .ref (h0)), (1, .ref (a1)), (2, .ref (a2))]) 0 (show decode cX1_init 80 = .ok (.iinc 3 1, 3) by decide +kernel) rfl (by decide +kernel) (by decide) rfl ?_
  refine ct_goto C 62 (show decode cX1_init 83 = .ok (.goto (-21), 3) by decide +kernel) (by decide) ?_
  refine ct_iload C 0 (show decode cX1_init 62 = .ok (.iload_n 3, 1) by decide +kernel) rfl rfl ?_
  refine ct_iconst C (5) (show decode cX1_init 63 = .ok (.iconst 5, 1) by decide +kernel) (by decide +kernel) ?_
  refine ct_ngt C 86 (show decode cX1_init 64 = .ok (.if_icmp .gt 22, 3) by decide +kernel) (by decide) (by decide +kernel) ?_
  refine ct_aload C 1 (show decode cX1_init 67 = .ok (.aload_n 0, 1) by decide +kernel) rfl rfl ?_
  refine ct_get C (T := TX1) (N := 13) (ci := 1) (Cn := RX1) am_u_1 0 rfl rfl 2 (by decide) (am_in 358 (by decide +kernel) (by decide +kernel)) rfl (show decode cX1_init 68 = .ok (.getfield 11, 3) by decide +kernel) ?_
  refine ct_iload C 0 (show decode cX1_init 71 = .ok (.iload_n 3, 1) by decide +kernel) rfl rfl ?_
  refine ct_new C (T := TX0) (N := 8) (ci := 0) (Cn := RX0) am_u_0 tyX0 tyX0_ok (am_in 354 (by decide +kernel) (by decide +kernel)) (am_in 125 (by decide +kernel) (by decide +kernel)) (am_in 61 (by decide +kernel) (by decide +kernel)) rfl [.null, .null, .null, .null, .null, .null, .int 0, .int 0] df_0 (Nat.le_of_ble_eq_true rfl) (Nat.le_of_ble_eq_true rfl) (show decode cX1_init 72 = .ok (.new 9, 3) by decide +kernel) (fun q10 => ?_)
  refine ct_dup C (show decode cX1_init 75 = .ok (.dup, 1) by decide +kernel) ?_
  refine ct_callN C (n := 0) (As := []) (rest := [.ref (q10), .int 3, .ref (q1)]) (k_X0 l D cI cZ cE (q10)) (am_in 128 (by decide +kernel) (by decide +kernel)) (am_in 61 (by decide +kernel) (by decide +kernel)) (am_in 127 (by decide +kernel) (by decide +kernel)) (List.mem_of_getElem? (i := 13) rfl) rfl (by decide +kernel) rfl ⟨(Nat.le_of_ble_eq_true rfl), (Nat.le_of_ble_eq_true rfl)⟩ (Nat.le_of_ble_eq_true rfl) (show decode cX1_init 76 = .ok (.invokespecial 41, 3) by decide +kernel) ⟨(Nat.le_of_ble_eq_true rfl), (Nat.le_of_ble_eq_true rfl)⟩ (fun u10 hu10 => ?_)
  have hu10 : u10 0 = q10 := hu10
  subst hu10
  refine ct_aastore C 1 40 rfl rfl (by unfold vp_in; decide +kernel) (show decode cX1_init 79 = .ok (.aastore, 1) by decide +kernel) ?_
  refine ct_iinc C (v := 4) (lv' := [(3, .int 4), (0, .ref (h0)), (1, .ref (a1)), (2, .ref (a2))]) 0 (show decode cX1_init 80 = .ok (.iinc 3 1, 3) by decide +kernel) rfl (by decide +kernel) (by decide) rfl ?_
  refine ct_goto C 62 (show decode cX1_init 83 = .ok (.goto (-21), 3) by decide +kernel) (by decide) ?_
  refine ct_iload C 0 (show decode cX1_init 62 = .ok (.iload_n 3, 1) by decide +kernel) rfl rfl ?_
  refine ct_iconst C (5) (show decode cX1_init 63 = .ok (.iconst 5, 1) by decide +kernel) (by decide +kernel) ?_
  refine ct_ngt C 86 (show decode cX1_init 64 = .ok (.if_icmp .gt 22, 3) by decide +kernel) (by decide) (by decide +kernel) ?_
  refine ct_aload C 1 (show decode cX1_init 67 = .ok (.aload_n 0, 1) by decide +kernel) rfl rfl ?_
  refine ct_get C (T := TX1) (N := 13) (ci := 1) (Cn := RX1) am_u_1 0 rfl rfl 2 (by decide) (am_in 358 (by decide +kernel) (by decide +kernel)) rfl (show decode cX1_init 68 = .ok (.getfield 11, 3) by decide +kernel) ?_
  refine ct_iload C 0 (show decode cX1_init 71 = .ok (.iload_n 3, 1) by decide +kernel) rfl rfl ?_
  refine ct_new C (T := TX0) (N := 8) (ci := 0) (Cn := RX0) am_u_0 tyX0 tyX0_ok (am_in 354 (by decide +kernel) (by decide +kernel)) (am_in 125 (by decide +kernel) (by decide +kernel)) (am_in 61 (by decide +kernel) (by decide +kernel)) rfl [.null, .null, .null, .null, .null, .null, .int 0, .int 0] df_0 (Nat.le_of_ble_eq_true rfl) (Nat.le_of_ble_eq_true rfl) (show decode cX1_init 72 = .ok (.new 9, 3) by decide +kernel) (fun q11 => ?_)
  refine ct_dup C (show decode cX1_init 75 = .ok (.dup, 1) by decide +kernel) ?_
  refine ct_callN C (n := 0) (As := []) (rest := [.ref (q11), .int 4, .ref (q1)]) (k_X0 l D cI cZ cE (q11)) (am_in 128 (by decide +kernel) (by decide +kernel)) (am_in 61 (by decide +kernel) (by decide +kernel)) (am_in 127 (by decide +kernel) (by decide +kernel)) (List.mem_of_getElem? (i := 13) rfl) rfl (by decide +kernel) rfl ⟨(Nat.le_of_ble_eq_true rfl), (Nat.le_of_ble_eq_true rfl)⟩ (Nat.le_of_ble_eq_true rfl) (show decode cX1_init 76 = .ok (.invokespecial 41, 3) by decide +kernel) ⟨(Nat.le_of_ble_eq_true rfl), (Nat.le_of_ble_eq_true rfl)⟩ (fun u11 hu11 => ?_)
  have hu11 : u11 0 = q11 := hu11
  subst hu11
  refine ct_aastore C 1 51 rfl rfl (by unfold vp_in; decide +kernel) (show decode cX1_init 79 = .ok (.aastore, 1) by decide +kernel) ?_
  refine ct_iinc C (v := 5) (lv' := [(3, .int 5), (0, .ref (h0)), (1, .ref (a1)), (2, .ref (a2))]) 0 (show decode cX1_init 80 = .ok (.iinc 3 1, 3) by decide +kernel) rfl (by decide +kernel) (by decide) rfl ?_
  refine ct_goto C 62 (show decode cX1_init 83 = .ok (.goto (-21), 3) by decide +kernel) (by decide) ?_
  refine ct_iload C 0 (show decode cX1_init 62 = .ok (.iload_n 3, 1) by decide +kernel) rfl rfl ?_
  refine ct_iconst C (5) (show decode cX1_init 63 = .ok (.iconst 5, 1) by decide +kernel) (by decide +kernel) ?_
  refine ct_ngt C 86 (show decode cX1_init 64 = .ok (.if_icmp .gt 22, 3) by decide +kernel) (by decide) (by decide +kernel) ?_
  refine ct_aload C 1 (show decode cX1_init 67 = .ok (.aload_n 0, 1) by decide +kernel) rfl rfl ?_
  refine ct_get C (T := TX1) (N := 13) (ci := 1) (Cn := RX1) am_u_1 0 rfl rfl 2 (by decide) (am_in 358 (by decide +kernel) (by decide +kernel)) rfl (show decode cX1_init 68 = .ok (.getfield 11, 3) by decide +kernel) ?_
  refine ct_iload C 0 (show decode cX1_init 71 = .ok (.iload_n 3, 1) by decide +kernel) rfl rfl ?_
  refine ct_new C (T := TX0) (N := 8) (ci := 0) (Cn := RX0) am_u_0 tyX0 tyX0_ok (am_in 354 (by decide +kernel) (by decide +kernel)) (am_in 125 (by decide +kernel) (by decide +kernel)) (am_in 61 (by decide +kernel) (by decide +kernel)) rfl [.null, .null, .null, .null, .null, .null, .int 0, .int 0] df_0 (Nat.le_of_ble_eq_true rfl) (Nat.le_of_ble_eq_true rfl) (show decode cX1_init 72 = .ok (.new 9, 3) by decide +kernel) (fun q12 => ?_)
  refine ct_dup C (show decode cX1_init 75 = .ok (.dup, 1) by decide +kernel) ?_
  refine ct_callN C (n := 0) (As := []) (rest := [.ref (q12), .int 5, .ref (q1)]) (k_X0 l D cI cZ cE (q12)) (am_in 128 (by decide +kernel) (by decide +kernel)) (am_in 61 (by decide +kernel) (by decide +kernel)) (am_in 127 (by decide +kernel) (by decide +kernel)) (List.mem_of_getElem? (i := 13) rfl) rfl (by decide +kernel) rfl ⟨(Nat.le_of_ble_eq_true rfl), (Nat.le_of_ble_eq_true rfl)⟩ (Nat.le_of_ble_eq_true rfl) (show decode cX1_init 76 = .ok (.invokespecial 41, 3) by decide +kernel) ⟨(Nat.le_of_ble_eq_true rfl), (Nat.le_of_ble_eq_true rfl)⟩ (fun u12 hu12 => ?_)
  have hu12 : u12 0 = q12 := hu12
  subst hu12
  refine ct_aastore C 1 62 rfl rfl (by unfold vp_in; decide +kernel) (show decode cX1_init 79 = .ok (.aastore, 1) by decide +kernel) ?_
  refine ct_iinc C (v := 6) (lv' := [(3, .int 6), (0, .ref (h0)), (1, .ref (a1)), (2, .ref (a2))]) 0 (show decode cX1_init 80 = .ok (.iinc 3 1, 3) by decide +kernel) rfl (by decide +kernel) (by decide) rfl ?_
  refine ct_goto C 62 (show decode cX1_init 83 = .ok (.goto (-21), 3) by decide +kernel) (by decide) ?_
  refine ct_iload C 0 (show decode cX1_init 62 = .ok (.iload_n 3, 1) by decide +kernel) rfl rfl ?_
  refine ct_iconst C (5) (show decode cX1_init 63 = .ok (.iconst 5, 1) by decide +kernel) (by decide +kernel) ?_
  refine ct_gt C 86 (show decode cX1_init 64 = .ok (.if_icmp .gt 22, 3) by decide +kernel) (by decide) (by decide +kernel) ?_
  exact ret (fun e p => if e = 0 then (if p ≤ 34 then h0 else if p ≤ 35 then q1 else if p ≤ 36 then q2 else if p ≤ 37 then q3 else if p ≤ 38 then q4 else if p ≤ 39 then q5 else q6) else if e = 3 then (u7 p) else if e = 4 then (u8 p) else if e = 5 then (u9 p) else if e = 6 then (u10 p) else if e = 7 then (u11 p) else (u12 p)) 86 _ rfl (show decode cX1_init 86 = .ok (.return_, 1) by decide +kernel)
set_option maxRecDepth 100000 in
set_option maxHeartbeats 4000000 in
theorem k_X11 (l : Launch) (D : va_G) (cI cZ cE : ClassId) (h0 : Nat) : ct_Met l yX11_init cX11_init 3 5 133 1599 D cI cZ cE [] h0 (.inr (10, [.null, .null, .null, .null, .null, .null, .null])) (fun u : Nat → Nat → Nat => u 0 11) (raW cI cZ cE) := by
  refine ct_start (by decide +kernel) rfl (Nat.le_of_ble_eq_true rfl) ?_
  intro p e s m args below meth c A Q C hmi ret
  refine ct_aload C 0 (show decode cX11_init 0 = .ok (.aload_n 0, 1) by decide +kernel) rfl rfl ?_
  refine ct_objInit C (am_in 83 (by decide +kernel) (by decide +kernel)) ct_oi ct_oc ⟨(Nat.le_of_ble_eq_true rfl), (Nat.le_of_ble_eq_true rfl)⟩ (Nat.le_of_ble_eq_true rfl) (show decode cX11_init 1 = .ok (.invokespecial 1, 3) by decide +kernel) ?_
  refine ct_aload C 0 (show decode cX11_init 4 = .ok (.aload_n 0, 1) by decide +kernel) rfl rfl ?_
  refine ct_new C (T := TX6) (N := 9) (ci := 6) (Cn := RX6) am_u_6 tyX6 tyX6_ok (am_in 86 (by decide +kernel) (by decide +kernel)) (am_in 87 (by decide +kernel) (by decide +kernel)) (am_in 60 (by decide +kernel) (by decide +kernel)) rfl [.null, .int 0, .null, .null, .int 0, .int 0, .int 0, .int 0, .int 0] df_6 (Nat.le_of_ble_eq_true rfl) (Nat.le_of_ble_eq_true rfl) (show decode cX11_init 5 = .ok (.new 7, 3) by decide +kernel) (fun q1 => ?_)
  refine ct_dup C (show decode cX11_init 8 = .ok (.dup, 1) by decide +kernel) ?_
  refine ct_callN C (n := 0) (As := []) (rest := [.ref (q1), .ref (h0)]) (k_X6 l D cI cZ cE (q1)) (am_in 90 (by decide +kernel) (by decide +kernel)) (am_in 60 (by decide +kernel) (by decide +kernel)) (am_in 89 (by decide +kernel) (by decide +kernel)) (List.mem_of_getElem? (i := 0) rfl) rfl (by decide +kernel) rfl ⟨(Nat.le_of_ble_eq_true rfl), (Nat.le_of_ble_eq_true rfl)⟩ (Nat.le_of_ble_eq_true rfl) (show decode cX11_init 9 = .ok (.invokespecial 9, 3) by decide +kernel) ⟨(Nat.le_of_ble_eq_true rfl), (Nat.le_of_ble_eq_true rfl)⟩ (fun u1 hu1 => ?_)
  have hu1 : u1 14 = q1 := hu1
  subst hu1
  refine ct_putF C hmi (T := TX11) (N := 7) (ci := 10) am_u_11 tyX11 tyX11_ok nmX11 rfl 0 (by decide) (am_in 401 (by decide +kernel) (by decide +kernel)) rfl rfl (tyX11_ok 0 (by decide)) rfl rfl (Nat.le_of_ble_eq_true rfl) (show decode cX11_init 12 = .ok (.putfield 10, 3) by decide +kernel) ?_
  refine ct_aload C 0 (show decode cX11_init 15 = .ok (.aload_n 0, 1) by decide +kernel) rfl rfl ?_
  refine ct_new C (T := TX0) (N := 8) (ci := 0) (Cn := RX0) am_u_0 tyX0 tyX0_ok (am_in 124 (by decide +kernel) (by decide +kernel)) (am_in 125 (by decide +kernel) (by decide +kernel)) (am_in 61 (by decide +kernel) (by decide +kernel)) rfl [.null, .null, .null, .null, .null, .null, .int 0, .int 0] df_0 (Nat.le_of_ble_eq_true rfl) (Nat.le_of_ble_eq_true rfl) (show decode cX11_init 16 = .ok (.new 16, 3) by decide +kernel) (fun q2 => ?_)
  refine ct_dup C (show decode cX11_init 19 = .ok (.dup, 1) by decide +kernel) ?_
  refine ct_callN C (n := 0) (As := []) (rest := [.ref (q2), .ref (h0)]) (k_X0 l D cI cZ cE (q2)) (am_in 128 (by decide +kernel) (by decide +kernel)) (am_in 61 (by decide +kernel) (by decide +kernel)) (am_in 127 (by decide +kernel) (by decide +kernel)) (List.mem_of_getElem? (i := 1) rfl) rfl (by decide +kernel) rfl ⟨(Nat.le_of_ble_eq_true rfl), (Nat.le_of_ble_eq_true rfl)⟩ (Nat.le_of_ble_eq_true rfl) (show decode cX11_init 20 = .ok (.invokespecial 18, 3) by decide +kernel) ⟨(Nat.le_of_ble_eq_true rfl), (Nat.le_of_ble_eq_true rfl)⟩ (fun u2 hu2 => ?_)
  have hu2 : u2 0 = q2 := hu2
  subst hu2
  refine ct_putF C hmi (T := TX11) (N := 7) (ci := 10) am_u_11 tyX11 tyX11_ok nmX11 rfl 1 (by decide) (am_in 402 (by decide +kernel) (by decide +kernel)) rfl rfl (tyX11_ok 1 (by decide)) rfl rfl (Nat.le_of_ble_eq_true rfl) (show decode cX11_init 23 = .ok (.putfield 19, 3) by decide +kernel) ?_
  refine ct_aload C 0 (show decode cX11_init 26 = .ok (.aload_n 0, 1) by decide +kernel) rfl rfl ?_
  refine ct_iconst C (2) (show decode cX11_init 27 = .ok (.iconst 2, 1) by decide +kernel) (by decide +kernel) ?_
  refine ct_newE C (am_in 124 (by decide +kernel) (by decide +kernel)) 2 (by decide +kernel) (by decide +kernel) (by decide) (Nat.le_of_ble_eq_true rfl) (Nat.le_of_ble_eq_true rfl) (show decode cX11_init 28 = .ok (.anewarray 16, 3) by decide +kernel) (fun q3 => ?_)
  refine ct_dup C (show decode cX11_init 31 = .ok (.dup, 1) by decide +kernel) ?_
  refine ct_iconst C (0) (show decode cX11_init 32 = .ok (.iconst 0, 1) by decide +kernel) (by decide +kernel) ?_
  refine ct_new C (T := TX0) (N := 8) (ci := 0) (Cn := RX0) am_u_0 tyX0 tyX0_ok (am_in 124 (by decide +kernel) (by decide +kernel)) (am_in 125 (by decide +kernel) (by decide +kernel)) (am_in 61 (by decide +kernel) (by decide +kernel)) rfl [.null, .null, .null, .null, .null, .null, .int 0, .int 0] df_0 (Nat.le_of_ble_eq_true rfl) (Nat.le_of_ble_eq_true rfl) (show decode cX11_init 33 = .ok (.new 16, 3) by decide +kernel) (fun q4 => ?_)
  refine ct_dup C (show decode cX11_init 36 = .ok (.dup, 1) by decide +kernel) ?_
  refine ct_callN C (n := 0) (As := []) (rest := [.ref (q4), .int 0, .ref (q3), .ref (q3), .ref (h0)]) (k_X0 l D cI cZ cE (q4)) (am_in 128 (by decide +kernel) (by decide +kernel)) (am_in 61 (by decide +kernel) (by decide +kernel)) (am_in 127 (by decide +kernel) (by decide +kernel)) (List.mem_of_getElem? (i := 1) rfl) rfl (by decide +kernel) rfl ⟨(Nat.le_of_ble_eq_true rfl), (Nat.le_of_ble_eq_true rfl)⟩ (Nat.le_of_ble_eq_true rfl) (show decode cX11_init 37 = .ok (.invokespecial 18, 3) by decide +kernel) ⟨(Nat.le_of_ble_eq_true rfl), (Nat.le_of_ble_eq_true rfl)⟩ (fun u4 hu4 => ?_)
  have hu4 : u4 0 = q4 := hu4
  subst hu4
  refine ct_aastore C 16 17 rfl rfl (by unfold vp_in; decide +kernel) (show decode cX11_init 40 = .ok (.aastore, 1) by decide +kernel) ?_
  refine ct_dup C (show decode cX11_init 41 = .ok (.dup, 1) by decide +kernel) ?_
  refine ct_iconst C (1) (show decode cX11_init 42 = .ok (.iconst 1, 1) by decide +kernel) (by decide +kernel) ?_
  refine ct_new C (T := TX0) (N := 8) (ci := 0) (Cn := RX0) am_u_0 tyX0 tyX0_ok (am_in 124 (by decide +kernel) (by decide +kernel)) (am_in 125 (by decide +kernel) (by decide +kernel)) (am_in 61 (by decide +kernel) (by decide +kernel)) rfl [.null, .null, .null, .null, .null, .null, .int 0, .int 0] df_0 (Nat.le_of_ble_eq_true rfl) (Nat.le_of_ble_eq_true rfl) (show decode cX11_init 43 = .ok (.new 16, 3) by decide +kernel) (fun q5 => ?_)
  refine ct_dup C (show decode cX11_init 46 = .ok (.dup, 1) by decide +kernel) ?_
  refine ct_callN C (n := 0) (As := []) (rest := [.ref (q5), .int 1, .ref (q3), .ref (q3), .ref (h0)]) (k_X0 l D cI cZ cE (q5)) (am_in 128 (by decide +kernel) (by decide +kernel)) (am_in 61 (by decide +kernel) (by decide +kernel)) (am_in 127 (by decide +kernel) (by decide +kernel)) (List.mem_of_getElem? (i := 1) rfl) rfl (by decide +kernel) rfl ⟨(Nat.le_of_ble_eq_true rfl), (Nat.le_of_ble_eq_true rfl)⟩ (Nat.le_of_ble_eq_true rfl) (show decode cX11_init 47 = .ok (.invokespecial 18, 3) by decide +kernel) ⟨(Nat.le_of_ble_eq_true rfl), (Nat.le_of_ble_eq_true rfl)⟩ (fun u5 hu5 => ?_)
  have hu5 : u5 0 = q5 := hu5
  subst hu5
  refine ct_aastore C 16 28 rfl rfl (by unfold vp_in; decide +kernel) (show decode cX11_init 50 = .ok (.aastore, 1) by decide +kernel) ?_
  refine ct_putF C hmi (T := TX11) (N := 7) (ci := 10) am_u_11 tyX11 tyX11_ok nmX11 rfl 2 (by decide) (am_in 403 (by decide +kernel) (by decide +kernel)) rfl rfl (tyX11_ok 2 (by decide)) rfl rfl (Nat.le_of_ble_eq_true rfl) (show decode cX11_init 51 = .ok (.putfield 23, 3) by decide +kernel) ?_
  refine ct_aload C 0 (show decode cX11_init 54 = .ok (.aload_n 0, 1) by decide +kernel) rfl rfl ?_
  refine ct_iconst C (2) (show decode cX11_init 55 = .ok (.iconst 2, 1) by decide +kernel) (by decide +kernel) ?_
  refine ct_newZ C ct_aZ 2 (by decide +kernel) (by decide +kernel) (by decide) (Nat.le_of_ble_eq_true rfl) (Nat.le_of_ble_eq_true rfl) (show decode cX11_init 56 = .ok (.newarray .boolean, 2) by decide +kernel) (fun q6 => ?_)
  refine ct_putF C hmi (T := TX11) (N := 7) (ci := 10) am_u_11 tyX11 tyX11_ok nmX11 rfl 3 (by decide) (am_in 404 (by decide +kernel) (by decide +kernel)) rfl rfl (tyX11_ok 3 (by decide)) rfl rfl (Nat.le_of_ble_eq_true rfl) (show decode cX11_init 58 = .ok (.putfield 27, 3) by decide +kernel) ?_
  refine ct_new C (T := TX2) (N := 10) (ci := 2) (Cn := RX2) am_u_2 tyX2 tyX2_ok (am_in 217 (by decide +kernel) (by decide +kernel)) (am_in 218 (by decide +kernel) (by decide +kernel)) (am_in 63 (by decide +kernel) (by decide +kernel)) rfl [.null, .null, .null, .int 0, .int 0, .null, .null, .null, .null, .int 0] df_2 (Nat.le_of_ble_eq_true rfl) (Nat.le_of_ble_eq_true rfl) (show decode cX11_init 61 = .ok (.new 31, 3) by decide +kernel) (fun q7 => ?_)
  refine ct_dup C (show decode cX11_init 64 = .ok (.dup, 1) by decide +kernel) ?_
  refine ct_callN C (n := 0) (As := []) (rest := [.ref (q7)]) (k_X2 l D cI cZ cE (q7)) (am_in 221 (by decide +kernel) (by decide +kernel)) (am_in 63 (by decide +kernel) (by decide +kernel)) (am_in 220 (by decide +kernel) (by decide +kernel)) (List.mem_of_getElem? (i := 3) rfl) rfl (by decide +kernel) rfl ⟨(Nat.le_of_ble_eq_true rfl), (Nat.le_of_ble_eq_true rfl)⟩ (Nat.le_of_ble_eq_true rfl) (show decode cX11_init 65 = .ok (.invokespecial 33, 3) by decide +kernel) ⟨(Nat.le_of_ble_eq_true rfl), (Nat.le_of_ble_eq_true rfl)⟩ (fun u7 hu7 => ?_)
  have hu7 : u7 0 18 = q7 := hu7
  subst hu7
  refine ct_astore C (lv' := [(1, .ref (u7 0 18)), (0, .ref (h0))]) (show decode cX11_init 68 = .ok (.astore_n 1, 1) by decide +kernel) rfl (by decide) rfl ?_
  refine ct_new C (T := TX8) (N := 14) (ci := 8) (Cn := RX8) am_u_8 tyX8 tyX8_ok (am_in 267 (by decide +kernel) (by decide +kernel)) (am_in 268 (by decide +kernel) (by decide +kernel)) (am_in 64 (by decide +kernel) (by decide +kernel)) rfl [.null, .null, .null, .null, .null, .null, .null, .null, .null, .int 0, .int 0, .int 0, .int 0, .int 0] df_8 (Nat.le_of_ble_eq_true rfl) (Nat.le_of_ble_eq_true rfl) (show decode cX11_init 69 = .ok (.new 34, 3) by decide +kernel) (fun q8 => ?_)
  refine ct_dup C (show decode cX11_init 72 = .ok (.dup, 1) by decide +kernel) ?_
  refine ct_aload C 0 (show decode cX11_init 73 = .ok (.aload_n 1, 1) by decide +kernel) rfl rfl ?_
  refine ct_call C (n := 1) (As := [.ref (u7 0 18)]) (rest := [.ref (q8)]) (k_X8 l D cI cZ cE (q8) (u7 0 18)) (am_in 271 (by decide +kernel) (by decide +kernel)) (am_in 64 (by decide +kernel) (by decide +kernel)) (am_in 270 (by decide +kernel) (by decide +kernel)) (am_in 269 (by decide +kernel) (by decide +kernel)) rfl (by decide +kernel) rfl ⟨(Nat.le_of_ble_eq_true rfl), (Nat.le_of_ble_eq_true rfl)⟩ (Nat.le_of_ble_eq_true rfl) (show decode cX11_init 74 = .ok (.invokespecial 36, 3) by decide +kernel) ⟨(Nat.le_of_ble_eq_true rfl), (Nat.le_of_ble_eq_true rfl)⟩ (fun u8 hu8 => ?_)
  have hu8 : u8 25 = q8 := hu8
  subst hu8
  refine ct_astore C (lv' := [(2, .ref (u8 25)), (1, .ref (u7 0 18)), (0, .ref (h0))]) (show decode cX11_init 77 = .ok (.astore_n 2, 1) by decide +kernel) rfl (by decide) rfl ?_
  refine ct_aload C 2 (show decode cX11_init 78 = .ok (.aload_n 0, 1) by decide +kernel) rfl rfl ?_
  refine ct_aload C 1 (show decode cX11_init 79 = .ok (.aload_n 1, 1) by decide +kernel) rfl rfl ?_
  refine ct_putF C hmi (T := TX11) (N := 7) (ci := 10) am_u_11 tyX11 tyX11_ok nmX11 rfl 4 (by decide) (am_in 405 (by decide +kernel) (by decide +kernel)) rfl rfl (tyX11_ok 4 (by decide)) rfl rfl (Nat.le_of_ble_eq_true rfl) (show decode cX11_init 80 = .ok (.putfield 39, 3) by decide +kernel) ?_
  refine ct_aload C 2 (show decode cX11_init 83 = .ok (.aload_n 0, 1) by decide +kernel) rfl rfl ?_
  refine ct_aload C 0 (show decode cX11_init 84 = .ok (.aload_n 2, 1) by decide +kernel) rfl rfl ?_
  refine ct_putF C hmi (T := TX11) (N := 7) (ci := 10) am_u_11 tyX11 tyX11_ok nmX11 rfl 5 (by decide) (am_in 406 (by decide +kernel) (by decide +kernel)) rfl rfl (tyX11_ok 5 (by decide)) rfl rfl (Nat.le_of_ble_eq_true rfl) (show decode cX11_init 85 = .ok (.putfield 43, 3) by decide +kernel) ?_
  refine ct_aload C 2 (show decode cX11_init 88 = .ok (.aload_n 0, 1) by decide +kernel) rfl rfl ?_
  refine ct_new C (T := TX1) (N := 13) (ci := 1) (Cn := RX1) am_u_1 tyX1 tyX1_ok (am_in 348 (by decide +kernel) (by decide +kernel)) (am_in 349 (by decide +kernel) (by decide +kernel)) (am_in 70 (by decide +kernel) (by decide +kernel)) rfl [.null, .null, .null, .null, .null, .null, .int 0, .int 0, .null, .null, .int 0, .int 0, .int 0] df_1 (Nat.le_of_ble_eq_true rfl) (Nat.le_of_ble_eq_true rfl) (show decode cX11_init 89 = .ok (.new 47, 3) by decide +kernel) (fun q9 => ?_)
  refine ct_dup C (show decode cX11_init 92 = .ok (.dup, 1) by decide +kernel) ?_
  refine ct_aload C 1 (show decode cX11_init 93 = .ok (.aload_n 1, 1) by decide +kernel) rfl rfl ?_
  refine ct_aload C 0 (show decode cX11_init 94 = .ok (.aload_n 2, 1) by decide +kernel) rfl rfl ?_
  refine ct_call C (n := 2) (As := [.ref (u7 0 18), .ref (u8 25)]) (rest := [.ref (q9), .ref (h0)]) (k_X1 l D cI cZ cE (q9) (u7 0 18) (u8 25)) (am_in 352 (by decide +kernel) (by decide +kernel)) (am_in 70 (by decide +kernel) (by decide +kernel)) (am_in 351 (by decide +kernel) (by decide +kernel)) (am_in 350 (by decide +kernel) (by decide +kernel)) rfl (by decide +kernel) rfl ⟨(Nat.le_of_ble_eq_true rfl), (Nat.le_of_ble_eq_true rfl)⟩ (Nat.le_of_ble_eq_true rfl) (show decode cX11_init 95 = .ok (.invokespecial 49, 3) by decide +kernel) ⟨(Nat.le_of_ble_eq_true rfl), (Nat.le_of_ble_eq_true rfl)⟩ (fun u9 hu9 => ?_)
  have hu9 : u9 0 34 = q9 := hu9
  subst hu9
  refine ct_putF C hmi (T := TX11) (N := 7) (ci := 10) am_u_11 tyX11 tyX11_ok nmX11 rfl 6 (by decide) (am_in 407 (by decide +kernel) (by decide +kernel)) rfl rfl (tyX11_ok 6 (by decide)) rfl rfl (Nat.le_of_ble_eq_true rfl) (show decode cX11_init 98 = .ok (.putfield 52, 3) by decide +kernel) ?_
  exact ret (fun e p => if e = 0 then (if p ≤ 10 then u2 p else if p ≤ 11 then h0 else if p ≤ 12 then q3 else if p ≤ 13 then q6 else if p ≤ 17 then u1 p else if p ≤ 24 then u7 0 p else if p ≤ 33 then u8 p else u9 0 p) else if e = 1 then (u4 p) else if e = 2 then (u5 p) else if e = 3 then (u9 3 p) else if e = 4 then (u9 4 p) else if e = 5 then (u9 5 p) else if e = 6 then (u9 6 p) else if e = 7 then (u9 7 p) else if e = 8 then (u9 8 p) else (u7 9 p)) 101 _ rfl (show decode cX11_init 101 = .ok (.return_, 1) by decide +kernel)
