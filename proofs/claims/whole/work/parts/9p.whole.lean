/-! the law, from its entry -/
theorem lw_ont : ∀ w ∈ am_nest, w.onTables = true := by decide +kernel
theorem lw_D {s : State} {b : Nat} (hts : ∀ w ∈ lw_tbl, w.before #[Value.ref b] s = true) : ∃ D : va_G, ∀ (k : Nat) (q : vw_C), vwCl[k]? = some q → u_Kn s q.1 q.2.1 q.2.2 (D.1 k) (D.2 k) := by
  have ex : ∀ k : Nat, ∃ y : ClassId × (Nat → Nat), ∀ q : vw_C, vwCl[k]? = some q → u_Kn s q.1 q.2.1 q.2.2 y.1 y.2 := by
    intro k
    match k with
    | 0 =>
      obtain ⟨c, i, h⟩ := u_known (C := RX0) (T := TX0) (N := 8) (n := 8) hts (fun w hw => (List.mem_filter.mp (am_u_0 w hw)).1) (hts _ lw_i_0)
      exact ⟨(c, i), fun q hq => by cases hq; exact h⟩
    | 1 =>
      obtain ⟨c, i, h⟩ := u_known (C := RX1) (T := TX1) (N := 13) (n := 13) hts (fun w hw => (List.mem_filter.mp (am_u_1 w hw)).1) (hts _ lw_i_1)
      exact ⟨(c, i), fun q hq => by cases hq; exact h⟩
    | 2 =>
      obtain ⟨c, i, h⟩ := u_known (C := RX2) (T := TX2) (N := 10) (n := 10) hts (fun w hw => (List.mem_filter.mp (am_u_2 w hw)).1) (hts _ lw_i_2)
      exact ⟨(c, i), fun q hq => by cases hq; exact h⟩
    | 3 =>
      obtain ⟨c, i, h⟩ := u_known (C := RX3) (T := TX3) (N := 5) (n := 5) hts (fun w hw => (List.mem_filter.mp (am_u_3 w hw)).1) (hts _ lw_i_3)
      exact ⟨(c, i), fun q hq => by cases hq; exact h⟩
    | 4 =>
      obtain ⟨c, i, h⟩ := u_known (C := RX4) (T := TX4) (N := 0) (n := 0) hts (fun w hw => (List.mem_filter.mp (am_u_4 w hw)).1) (hts _ lw_i_4)
      exact ⟨(c, i), fun q hq => by cases hq; exact h⟩
    | 5 =>
      obtain ⟨c, i, h⟩ := u_known (C := RX5) (T := TX5) (N := 0) (n := 0) hts (fun w hw => (List.mem_filter.mp (am_u_5 w hw)).1) (hts _ lw_i_5)
      exact ⟨(c, i), fun q hq => by cases hq; exact h⟩
    | 6 =>
      obtain ⟨c, i, h⟩ := u_known (C := RX6) (T := TX6) (N := 9) (n := 9) hts (fun w hw => (List.mem_filter.mp (am_u_6 w hw)).1) (hts _ lw_i_6)
      exact ⟨(c, i), fun q hq => by cases hq; exact h⟩
    | 7 =>
      obtain ⟨c, i, h⟩ := u_known (C := RX7) (T := TX7) (N := 0) (n := 0) hts (fun w hw => (List.mem_filter.mp (am_u_7 w hw)).1) (hts _ lw_i_7)
      exact ⟨(c, i), fun q hq => by cases hq; exact h⟩
    | 8 =>
      obtain ⟨c, i, h⟩ := u_known (C := RX8) (T := TX8) (N := 14) (n := 14) hts (fun w hw => (List.mem_filter.mp (am_u_8 w hw)).1) (hts _ lw_i_8)
      exact ⟨(c, i), fun q hq => by cases hq; exact h⟩
    | 9 =>
      obtain ⟨c, i, h⟩ := u_known (C := RX10) (T := TX10) (N := 0) (n := 0) hts (fun w hw => (List.mem_filter.mp (am_u_10 w hw)).1) (hts _ lw_i_10)
      exact ⟨(c, i), fun q hq => by cases hq; exact h⟩
    | 10 =>
      obtain ⟨c, i, h⟩ := u_known (C := RX11) (T := TX11) (N := 7) (n := 7) hts (fun w hw => (List.mem_filter.mp (am_u_11 w hw)).1) (hts _ lw_i_11)
      exact ⟨(c, i), fun q hq => by cases hq; exact h⟩
    | 11 =>
      obtain ⟨c, i, h⟩ := u_known (C := RX12) (T := TX12) (N := 35) (n := 35) hts (fun w hw => (List.mem_filter.mp (am_u_12 w hw)).1) (hts _ lw_i_12)
      exact ⟨(c, i), fun q hq => by cases hq; exact h⟩
    | k + 12 => exact ⟨(0, fun _ => 0), fun q hq => by simp [vwCl] at hq⟩
  obtain ⟨f, hf⟩ := Classical.axiomOfChoice ex
  exact ⟨(fun k => (f k).1, fun k => (f k).2), fun k q h => hf k q h⟩
theorem lw_F {s : State} {b : Nat} (hts : ∀ w ∈ lw_tbl, w.before #[Value.ref b] s = true) : ∃ (D : va_G) (cI cZ cE : ClassId), ct_Fix D cI cZ cE s := by
  obtain ⟨D, hDk⟩ := lw_D hts
  obtain ⟨cI, kI, pI, i1, i2, i3⟩ := Cond.arrayClass_spec (hts _ (List.mem_filter.mp ct_aI).1)
  obtain ⟨cZ, kZ, pZ, z1, z2, z3⟩ := Cond.arrayClass_spec (hts _ (List.mem_filter.mp ct_aZ).1)
  have hao : va_AO "RaisedArms$Evening" s := va_AO.of (hts _ lw_ao)
  obtain ⟨pE, cE, kE, e1, e2, e3, e4, e5⟩ := Cond.arrayOver_spec (hts _ lw_ao)
  refine ⟨D, cI, cZ, cE, ⟨hDk, fun k q hq => ?_⟩, fun w hw => ?_, hao⟩
  · match k, hq with
    | 0, hq =>
      cases hq
      exact ⟨fun n z => ⟨fun k h => (by cases h), kI, i2, pI, i3⟩, i1⟩
    | 1, hq =>
      cases hq
      exact ⟨fun n z => ⟨fun k h => (by cases h), kZ, z2, pZ, z3⟩, z1⟩
    | 2, hq =>
      cases hq
      exact ⟨fun n z => ⟨fun k h => (by cases h), kE, e3, pE, e4⟩, kE, pE, e3, e4, e1, e5⟩
    | k + 3, hq => simp [ct_tys] at hq
  · obtain ⟨a, i, x, h, rfl⟩ := ct_nest_form w hw
    exact va_Nw.of rfl (hts _ (lw_nest1 _ hw))
theorem lw_S {s : State} {b : Nat} (hgv : (Jvm.Cond.and given_1 narrow_1).before #[Value.ref b] s = true) : ∃ sk av : Nat → Nat, vk_S 10 am_slen am_sbyt sk av (fun q => s.heap.size ≤ q) s s.heap ∧ ∀ i : Nat, i < 10 → (lw_tm i).eval #[Value.ref b] s none [] s = some (.ref (sk i)) := by
  have hfl := flat_of_before _ hgv
  refine vk_Sof (N := 10) (tm := lw_tm) (len := am_slen) (byt := am_sbyt) lw_f0 (fun i hi => hfl _ (lw_f1 i hi)) (fun i hi => hfl _ (lw_f2 i hi)) (fun i hi => hfl _ (lw_f3 i hi)) (fun i hi => hfl _ (lw_f4 i hi)) (fun i hi j hj => hfl _ (lw_f5 i hi j hj)) (fun i j hi hj hij => ?_) (fun a h => Nat.not_le.mpr h)
  rcases Nat.lt_or_gt_of_ne hij with h | h
  · exact Or.inl (hfl _ (lw_f6 j hj i h))
  · exact Or.inr (hfl _ (lw_f6 i hi j h))
theorem lw_fix {s : State} {b : Nat} {D : va_G} {cI cZ cE : ClassId} {u1 : Nat → Nat → Nat} {u2 sk av : Nat → Nat} (hts : ∀ w ∈ lw_tbl, w.before #[Value.ref b] s = true) (hgv : (Jvm.Cond.and given_1 narrow_1).before #[Value.ref b] s = true) (hF : ct_Fix D cI cZ cE s) (hS : vk_S 10 am_slen am_sbyt sk av (fun q => s.heap.size ≤ q) s s.heap) (hE : ∀ i : Nat, i < 10 → (lw_tm i).eval #[Value.ref b] s none [] s = some (.ref (sk i))) (ho : am_okr (lwρ u1 u2 sk)) (hA : ∀ q, am_A (D, (cI, cZ, cE), lwρ u1 u2 sk, av) q → s.heap.size ≤ q) : am_Fix (D, (cI, cZ, cE), lwρ u1 u2 sk, av) s s.heap := by
  have hfl := flat_of_before _ hgv
  have hA0 : ∀ a : Nat, a < s.heap.size → ¬ (fun q => s.heap.size ≤ q) a := fun a h => Nat.not_le.mpr h
  refine ⟨hF.1, fun w hw => va_Nw.of (lw_ont w hw) (hts _ (lw_nest2 w hw)), fun x hx => va_Nc.of (hfl _ (lw_f7 x hx)), ho, ?_, fun w hw => ?_, ?_, ?_⟩
  · exact hS.narrow hA
  · exact vk_R.of (hts _ (lw_sr _ (List.mem_map.mpr ⟨w, List.mem_range.mpr hw, rfl⟩))) (hE w hw)
  · exact (va_Zof (hts _ lw_s1) (hts _ lw_s3) (va_eqt (hfl _ lw_f8)) hA0).narrow hA
  · exact (va_Zqof (hts _ lw_s2) (hts _ lw_s4) (hfl _ lw_f9) hA0).narrow hA
set_option maxHeartbeats 4000000 in
set_option maxRecDepth 100000 in
/-- THE LAW, from its entry -/
theorem whole_start {p : Program} {e : Env} {s : State} {m : MethodId} {below : List Frame} {meth : Method} {c : Code} (l : Launch) {b L : Nat} {xs : Nat → Int32} (hL : L ≤ 2560) (C0 : lw_At p s m meth c b L xs) : W p l e room_1 s m #[Value.ref b] below meth c s.heap [] 0 0 (lw_Z below #[Value.ref b] s) (entryFrame m ([Value.ref b] : List Value).toArray 4) := by
  obtain ⟨hx, hb, hr, hml, hown, hts, hX, hbl, hlocks, hgv⟩ := id C0
  obtain ⟨D, cI, cZ, cE, hF⟩ := lw_F hts
  obtain ⟨sk, av, hSt, hE⟩ := lw_S hgv
  have C : ct_C p s m #[Value.ref b] c code R_law D cI cZ cE (fun q => s.heap.size ≤ q) 4 := ⟨⟨hx, hb, hml, hown, fun w hw => hts w (List.mem_filter.mp hw).1⟩, hF, fun q h => h⟩
  have main : ct_At p l e room_1 s m #[Value.ref b] below meth c (lw_Z below #[Value.ref b] s) D (fun q => s.heap.size ≤ q) 4 0 [(0, .ref b)] [] [] 0 0 := by
    refine ct_new C (T := TX11) (N := 7) (ci := 10) (Cn := RX11) am_u_11 tyX11 tyX11_ok lw_n_7 lw_x_11 lw_y_11 rfl [.null, .null, .null, .null, .null, .null, .null] df_11 (Nat.le_of_ble_eq_true rfl) (Nat.le_of_ble_eq_true rfl) (show decode code 0 = .ok (.new 7, 3) by decide +kernel) (fun q1 => ?_)
    refine ct_dup C (show decode code 3 = .ok (.dup, 1) by decide +kernel) ?_
    refine ct_call C (pre := []) (n := 0) (As := []) (rest := [.ref q1]) (k_X11 l D cI cZ cE q1) lw_w_11 lw_y_11 lw_z_11 lw_l_11 rfl (by decide +kernel) rfl ⟨Nat.le_of_ble_eq_true rfl, Nat.le_of_ble_eq_true rfl⟩ (Nat.le_of_ble_eq_true rfl) (show decode code 4 = .ok (.invokespecial 9, 3) by decide +kernel) ⟨Nat.le_of_ble_eq_true rfl, Nat.le_of_ble_eq_true rfl⟩ (fun u1 hu1 => ?_)
    have hu1 : u1 0 11 = q1 := hu1
    subst hu1
    refine ct_astore C (lv' := [(1, .ref (u1 0 11)), (0, .ref b)]) (show decode code 7 = .ok (.astore_n 1, 1) by decide +kernel) rfl (by decide) rfl ?_
    refine ct_new C (T := TX12) (N := 35) (ci := 11) (Cn := RX12) am_u_12 tyX12 tyX12_ok lw_n_10 lw_x_12 lw_y_12 rfl [.int 0, .null, .int 0, .null, .null, .int 0, .int 0, .null, .int 0, .int 0, .long 0, .int 0, .int 0, .int 0, .int 0, .int 0, .int 0, .null, .null, .null, .null, .null, .int 0, .null, .int 0, .int 0, .int 0, .null, .null, .null, .int 0, .int 0, .null, .null, .int 0] df_12 (Nat.le_of_ble_eq_true rfl) (Nat.le_of_ble_eq_true rfl) (show decode code 8 = .ok (.new 10, 3) by decide +kernel) (fun q2 => ?_)
    refine ct_dup C (show decode code 11 = .ok (.dup, 1) by decide +kernel) ?_
    refine ct_call C (n := 0) (As := []) (rest := [.ref q2]) (k_X12 l D cI cZ cE q2) lw_w_12 lw_y_12 lw_z_12 lw_l_12 rfl (by decide +kernel) rfl ⟨Nat.le_of_ble_eq_true rfl, Nat.le_of_ble_eq_true rfl⟩ (Nat.le_of_ble_eq_true rfl) (show decode code 12 = .ok (.invokespecial 12, 3) by decide +kernel) ⟨Nat.le_of_ble_eq_true rfl, Nat.le_of_ble_eq_true rfl⟩ (fun u2 hu2 => ?_)
    have hu2 : u2 41 = q2 := hu2
    subst hu2
    refine ct_astore C (lv' := [(2, .ref (u2 41)), (1, .ref (u1 0 11)), (0, .ref b)]) (show decode code 15 = .ok (.astore_n 2, 1) by decide +kernel) rfl (by decide) rfl ?_
    refine ct_iconst C 0 (show decode code 16 = .ok (.iconst 0, 1) by decide +kernel) (by decide +kernel) ?_
    refine ct_istore C (lv' := [(3, .int 0), (2, .ref (u2 41)), (1, .ref (u1 0 11)), (0, .ref b)]) (show decode code 17 = .ok (.istore_n 3, 1) by decide +kernel) rfl (by decide) rfl ?_
    intro H locs lr hP hD hS hl
    have hP : va_P D vwCl (raW cI cZ cE u1 ++ mdW cI cZ cE u2) H := hP
    have hD : va_D (fun q => s.heap.size ≤ q) (raW cI cZ cE u1 ++ mdW cI cZ cE u2) := hD
    obtain ⟨ho1, ho2⟩ := lw_okr (sk := sk) hD
    have hA : ∀ q, am_A (D, (cI, cZ, cE), lwρ u1 u2 sk, av) q → s.heap.size ≤ q := by
      rintro q ⟨c, hc, rfl⟩
      exact ho2 c hc
    have hFix := lw_fix hts hgv hF hSt hE ho1 hA
    exact lw_loop ⟨C0, hFix, hA, hL⟩ (L + 1) 0 lwM (by omega) (by omega) lw_rel H locs lr (lw_P0 hP) hS hl
  have hl := lv_entry ([.ref b]) (n := 4) (Nat.le_of_ble_eq_true rfl)
  rw [lg_entry_eq]
  exact main s.heap [] _ (fun k q h => by simp at h) ⟨fun i j p q h => by simp at h, fun k q h => by simp at h⟩ va_S.rf hl
