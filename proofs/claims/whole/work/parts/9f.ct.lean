/-! constructors: rows -/
def ct_tys (cI cZ cE : ClassId) : List (ClassId × FieldType) := [(cI, .int), (cZ, .boolean), (cE, .object "RaisedArms$Evening")]
def ct_nest : List Cond := [.methodLinkNest "RaisedArms" 9 ⟨"RaisedArms$Text", "<init>", "()V"⟩ "RaisedArms", .methodLinkNest "RaisedArms" 18 ⟨"RaisedArms$Evening", "<init>", "()V"⟩ "RaisedArms", .methodLinkNest "RaisedArms$Evening" 11 ⟨"RaisedArms$People", "<init>", "()V"⟩ "RaisedArms", .methodLinkNest "RaisedArms" 33 ⟨"RaisedArms$Hall", "<init>", "()V"⟩ "RaisedArms", .methodLinkNest "RaisedArms$Hall" 11 ⟨"RaisedArms$People", "<init>", "()V"⟩ "RaisedArms", .methodLinkNest "RaisedArms$Vote" 11 ⟨"RaisedArms$Plain", "<init>", "()V"⟩ "RaisedArms", .methodLinkNest "RaisedArms$Plain" 1 ⟨"RaisedArms$Voter", "<init>", "()V"⟩ "RaisedArms", .methodLinkNest "RaisedArms$Vote" 20 ⟨"RaisedArms$Watch", "<init>", "()V"⟩ "RaisedArms", .methodLinkNest "RaisedArms$Watch" 1 ⟨"RaisedArms$Plain", "<init>", "()V"⟩ "RaisedArms", .methodLinkNest "RaisedArms$Vote" 26 ⟨"RaisedArms$Stout", "<init>", "()V"⟩ "RaisedArms", .methodLinkNest "RaisedArms$Stout" 1 ⟨"RaisedArms$Voter", "<init>", "()V"⟩ "RaisedArms", .methodLinkNest "RaisedArms$Vote" 32 ⟨"RaisedArms$Told", "<init>", "()V"⟩ "RaisedArms", .methodLinkNest "RaisedArms$Told" 1 ⟨"RaisedArms$Voter", "<init>", "()V"⟩ "RaisedArms", .methodLinkNest "RaisedArms$Foresight" 41 ⟨"RaisedArms$Evening", "<init>", "()V"⟩ "RaisedArms"]
theorem ct_nest_form : ∀ w ∈ ct_nest, ∃ a i x h, w = Cond.methodLinkNest a i x h := by
  intro w hw
  simp only [ct_nest, List.mem_cons, List.not_mem_nil, or_false] at hw
  rcases hw with rfl | rfl | rfl | rfl | rfl | rfl | rfl | rfl | rfl | rfl | rfl | rfl | rfl | rfl <;> exact ⟨_, _, _, _, rfl⟩
def ct_Fix (D : va_G) (cI cZ cE : ClassId) (U : State) : Prop := va_K D vwCl (ct_tys cI cZ cE) U ∧ (∀ w ∈ ct_nest, va_Nw w U) ∧ va_AO "RaisedArms$Evening" U
theorem ct_Fix_warm {D : va_G} {cI cZ cE : ClassId} {s U : State} (hW : s.WarmedH U.vm) (h : ct_Fix D cI cZ cE s) : ct_Fix D cI cZ cE U := by
  obtain ⟨h1, h2, h3⟩ := h
  refine ⟨va_K.moved hW.alike h1, fun w hw => ?_, h3.moved hW.alike⟩
  obtain ⟨a, i, x, h, rfl⟩ := ct_nest_form w hw
  exact va_Nw.warmM hW (h2 _ hw)
theorem ct_Fix_same {D : va_G} {cI cZ cE : ClassId} {s U : State} (hv : s.vm = U.vm) (h : ct_Fix D cI cZ cE s) : ct_Fix D cI cZ cE U := by
  obtain ⟨h1, h2, h3⟩ := h
  have ha : s.vm.Alike U.vm := by rw [hv]; exact Vm.Alike.refl _
  refine ⟨va_K.moved ha h1, fun w hw => ?_, h3.moved ha⟩
  obtain ⟨a, i, x, h, rfl⟩ := ct_nest_form w hw
  exact va_Nw.same rfl hv (h2 _ hw)
theorem ct_RAI {s : State} {cA cB : ClassId} (h1 : va_RA s cA .int) (h2 : va_RA s cB .int) : cA = cB := Option.some.inj (Eq.trans (Eq.symm (show s.vm.findClass _ = some cA from h1)) (show s.vm.findClass _ = some cB from h2))
theorem ct_RAZ {s : State} {cA cB : ClassId} (h1 : va_RA s cA .boolean) (h2 : va_RA s cB .boolean) : cA = cB := Option.some.inj (Eq.trans (Eq.symm (show s.vm.findClass _ = some cA from h1)) (show s.vm.findClass _ = some cB from h2))
theorem ct_RAE {s : State} {cA cB : ClassId} {C : String} (h1 : va_RA s cA (.object C)) (h2 : va_RA s cB (.object C)) : cA = cB := by
  obtain ⟨_, _, _, _, _, e1⟩ := h1
  obtain ⟨_, _, _, _, _, e2⟩ := h2
  exact Option.some.inj (e1.symm.trans e2)
theorem ct_good {w : Cond} (h : w ∈ am_tbl) : w ∈ am_tbl ∧ ((w.onTables && w.keeps) = true ∨ ∃ ty, w = .arrayClass ty) := ⟨h, good_of_word (List.mem_filter.mp h).2⟩
theorem ct_nd : ∀ n, va_nd (List.range n) = true := by
  intro n
  have gen : ∀ l : List Nat, l.Nodup → va_nd l = true := by
    intro l
    induction l with
    | nil => intro _; rfl
    | cons a l ih =>
      intro h
      have h := List.nodup_cons.mp h
      unfold va_nd
      rw [ih h.2, Bool.and_true]
      exact decide_eq_true h.1
  exact gen _ List.nodup_range
section CT
variable {p : Program} {l : Launch} {e : Env} {R : Room} {s : State} {m : MethodId} {args : Array Value} {below : List Frame} {meth : Method} {c : Code} {Q : State → Prop} {cc : ByteArray} {own : String} {D : va_G} {cI cZ cE : ClassId} {A : Nat → Prop} {nL pc cells slots : Nat} {lv : List (Nat × Value)} {st : List Value} {ws : va_W}
def ct_C (p : Program) (s : State) (m : MethodId) (args : Array Value) (c : Code) (cc : ByteArray) (own : String) (D : va_G) (cI cZ cE : ClassId) (A : Nat → Prop) (nL : Nat) : Prop := (p.tables.exec = Jvm.exec ∧ c.code = cc ∧ c.maxLocals = nL ∧ s.vm.findClass own = some m.cls ∧ (∀ w ∈ am_tbl, w.before args s = true)) ∧ ct_Fix D cI cZ cE s ∧ (∀ q, s.heap.size ≤ q → A q)
def ct_At (p : Program) (l : Launch) (e : Env) (R : Room) (s : State) (m : MethodId) (args : Array Value) (below : List Frame) (meth : Method) (c : Code) (Q : State → Prop) (D : va_G) (A : Nat → Prop) (nL pc : Nat) (lv : List (Nat × Value)) (st : List Value) (ws : va_W) (cells slots : Nat) : Prop := ∀ (H : Heap) (locs : List Loc) (lr : Array Slot), va_P D vwCl ws H → va_D A ws → va_S A s.heap H locs → lv_has lr nL lv → W p l e R s m args below meth c H locs cells slots Q (F0 m pc lr st)
theorem ct_aload (C : ct_C p s m args c cc own D cI cZ cE A nL) {k : Fin 4} {i x : Nat} (j : Nat) (hd : decode cc pc = .ok (.aload_n k, 1)) (hi : (k : Nat) = i) (hj : lv[j]? = some (i, .ref x)) (kk : ct_At p l e R s m args below meth c Q D A nL (pc + 1) lv (.ref x :: st) ws cells slots) : ct_At p l e R s m args below meth c Q D A nL pc lv st ws cells slots := fun H locs lr hP hD hS hl => lv_aload_n C.1.1 C.1.2.1 hd hi (lv_at hl j hj) (kk H locs lr hP hD hS hl)
theorem ct_iload (C : ct_C p s m args c cc own D cI cZ cE A nL) {k : Fin 4} {i : Nat} {x : Int32} (j : Nat) (hd : decode cc pc = .ok (.iload_n k, 1)) (hi : (k : Nat) = i) (hj : lv[j]? = some (i, .int x)) (kk : ct_At p l e R s m args below meth c Q D A nL (pc + 1) lv (.int x :: st) ws cells slots) : ct_At p l e R s m args below meth c Q D A nL pc lv st ws cells slots := fun H locs lr hP hD hS hl => lv_iload_n C.1.1 C.1.2.1 hd hi (lv_at hl j hj) (kk H locs lr hP hD hS hl)
theorem ct_astore (C : ct_C p s m args c cc own D cI cZ cE A nL) {k : Fin 4} {i x : Nat} {lv' : List (Nat × Value)} (hd : decode cc pc = .ok (.astore_n k, 1)) (hi : (k : Nat) = i) (hn : i < nL) (hl' : (i, Value.ref x) :: lv.filter (fun q => !(q.1 == i) && !(q.1 + 1 == i && q.2.category == 2)) = lv') (kk : ct_At p l e R s m args below meth c Q D A nL (pc + 1) lv' st ws cells slots) : ct_At p l e R s m args below meth c Q D A nL pc lv (.ref x :: st) ws cells slots := fun H locs lr hP hD hS hl => lv_astore_n C.1.1 C.1.2.1 hd hi hl hn hl' (fun lr' hl2 => kk H locs lr' hP hD hS hl2)
theorem ct_istore (C : ct_C p s m args c cc own D cI cZ cE A nL) {k : Fin 4} {i : Nat} {x : Int32} {lv' : List (Nat × Value)} (hd : decode cc pc = .ok (.istore_n k, 1)) (hi : (k : Nat) = i) (hn : i < nL) (hl' : (i, Value.int x) :: lv.filter (fun q => !(q.1 == i) && !(q.1 + 1 == i && q.2.category == 2)) = lv') (kk : ct_At p l e R s m args below meth c Q D A nL (pc + 1) lv' st ws cells slots) : ct_At p l e R s m args below meth c Q D A nL pc lv (.int x :: st) ws cells slots := fun H locs lr hP hD hS hl => lv_istore_n C.1.1 C.1.2.1 hd hi hl hn hl' (fun lr' hl2 => kk H locs lr' hP hD hS hl2)
theorem ct_iinc (C : ct_C p s m args c cc own D cI cZ cE A nL) {i : Nat} {n : Int} {x v : Int32} {lv' : List (Nat × Value)} (j : Nat) (hd : decode cc pc = .ok (.iinc i n, 3)) (hj : lv[j]? = some (i, .int x)) (hv : x + Int32.ofInt n = v) (hn : i < nL) (hl' : (i, Value.int v) :: lv.filter (fun q => !(q.1 == i) && !(q.1 + 1 == i && q.2.category == 2)) = lv') (kk : ct_At p l e R s m args below meth c Q D A nL (pc + 3) lv' st ws cells slots) : ct_At p l e R s m args below meth c Q D A nL pc lv st ws cells slots := fun H locs lr hP hD hS hl => lv_iinc C.1.1 C.1.2.1 hd hl hj hv hn hl' (fun lr' hl2 => kk H locs lr' hP hD hS hl2)
theorem ct_dup (C : ct_C p s m args c cc own D cI cZ cE A nL) {x : Nat} (hd : decode cc pc = .ok (.dup, 1)) (kk : ct_At p l e R s m args below meth c Q D A nL (pc + 1) lv (.ref x :: .ref x :: st) ws cells slots) : ct_At p l e R s m args below meth c Q D A nL pc lv (.ref x :: st) ws cells slots := fun H locs lr hP hD hS hl => lv_dup C.1.1 C.1.2.1 hd rfl (kk H locs lr hP hD hS hl)
theorem ct_iconst (C : ct_C p s m args c cc own D cI cZ cE A nL) {n : Int} (v : Int32) (hd : decode cc pc = .ok (.iconst n, 1)) (hv : Int32.ofInt n = v) (kk : ct_At p l e R s m args below meth c Q D A nL (pc + 1) lv (.int v :: st) ws cells slots) : ct_At p l e R s m args below meth c Q D A nL pc lv st ws cells slots := fun H locs lr hP hD hS hl => lv_iconst C.1.1 C.1.2.1 hd hv (kk H locs lr hP hD hS hl)
theorem ct_bipush (C : ct_C p s m args c cc own D cI cZ cE A nL) {n : Int} (v : Int32) (hd : decode cc pc = .ok (.bipush n, 2)) (hv : (Int8.ofInt n).toInt32 = v) (kk : ct_At p l e R s m args below meth c Q D A nL (pc + 2) lv (.int v :: st) ws cells slots) : ct_At p l e R s m args below meth c Q D A nL pc lv st ws cells slots := fun H locs lr hP hD hS hl => lv_bipush C.1.1 C.1.2.1 hd hv (kk H locs lr hP hD hS hl)
theorem ct_sipush (C : ct_C p s m args c cc own D cI cZ cE A nL) {n : Int} (v : Int32) (hd : decode cc pc = .ok (.sipush n, 3)) (hv : (Int16.ofInt n).toInt32 = v) (kk : ct_At p l e R s m args below meth c Q D A nL (pc + 3) lv (.int v :: st) ws cells slots) : ct_At p l e R s m args below meth c Q D A nL pc lv st ws cells slots := fun H locs lr hP hD hS hl => lv_sipush C.1.1 C.1.2.1 hd hv (kk H locs lr hP hD hS hl)
theorem ct_gt (C : ct_C p s m args c cc own D cI cZ cE A nL) {x y : Int32} {off : Int} (tgt : Nat) (hd : decode cc pc = .ok (.if_icmp .gt off, 3)) (ht : (pc : Int) + off = (tgt : Int)) (hxy : y < x) (kk : ct_At p l e R s m args below meth c Q D A nL tgt lv st ws cells slots) : ct_At p l e R s m args below meth c Q D A nL pc lv (.int y :: .int x :: st) ws cells slots := fun H locs lr hP hD hS hl => lv_icmp_gt C.1.1 C.1.2.1 hd ht (fun _ => kk H locs lr hP hD hS hl) (fun h => absurd hxy h)
theorem ct_ngt (C : ct_C p s m args c cc own D cI cZ cE A nL) {x y : Int32} {off : Int} (tgt : Nat) (hd : decode cc pc = .ok (.if_icmp .gt off, 3)) (ht : (pc : Int) + off = (tgt : Int)) (hxy : ¬ y < x) (kk : ct_At p l e R s m args below meth c Q D A nL (pc + 3) lv st ws cells slots) : ct_At p l e R s m args below meth c Q D A nL pc lv (.int y :: .int x :: st) ws cells slots := fun H locs lr hP hD hS hl => lv_icmp_gt C.1.1 C.1.2.1 hd ht (fun h => absurd h hxy) (fun _ => kk H locs lr hP hD hS hl)
theorem ct_goto (C : ct_C p s m args c cc own D cI cZ cE A nL) {off : Int} (tgt : Nat) (hd : decode cc pc = .ok (.goto off, 3)) (ht : (pc : Int) + off = (tgt : Int)) (kk : ct_At p l e R s m args below meth c Q D A nL tgt lv st ws cells slots) : ct_At p l e R s m args below meth c Q D A nL pc lv st ws cells slots := fun H locs lr hP hD hS hl => lv_goto C.1.1 C.1.2.1 hd ht (kk H locs lr hP hD hS hl)
theorem ct_objInit (C : ct_C p s m args c cc own D cI cZ cE A nL) {x idx : Nat} (hlk : Cond.methodLink own idx Lib.objectInit ∈ am_tbl) (hin : Cond.instanceMethod Lib.objectInit ∈ am_tbl) (hco : Cond.code Lib.objectInit ⟨#[0xb1]⟩ 1 none ∈ am_tbl) (hR : 1 ≤ R.frames ∧ 20 ≤ R.locals) (hW : (st.map fun v => v.category).sum ≤ 8) (hd : decode cc pc = .ok (.invokespecial idx, 3)) (kk : ct_At p l e R s m args below meth c Q D A nL (pc + 3) lv st ws cells slots) : ct_At p l e R s m args below meth c Q D A nL pc lv (.ref x :: st) ws cells slots := fun H locs lr hP hD hS hl => by
  have hw := lv_room (m := m) (pc := pc) (ls := lr) (rest := .ref x :: st) hW
  refine W.objInit C.1.1 C.1.2.1 C.1.2.2.2.1 (C.1.2.2.2.2 _ hlk) (C.1.2.2.2.2 _ hin) (C.1.2.2.2.2 _ hco) rfl (by rw [C.1.2.2.1]; exact hl.1) rfl hd hR.1 (by omega) ?_
  exact W.eq (g2 := F0 m (pc + 3) lr st) rfl (kk H locs lr hP hD hS hl)
theorem ct_new (C : ct_C p s m args c cc own D cI cZ cE A nL) {Cn : String} {T : u_T} {N ci index : Nat} (hin : ∀ w ∈ u_ws Cn T N, w ∈ am_tbl) (ty : Nat → FieldType) (hty : ∀ k, k < N → parseFieldDescriptor (T k).2.2.1 = some (ty k)) (hcl : Cond.classLink own index Cn ∈ am_tbl) (hinst : Cond.instantiable Cn N ∈ am_tbl) (hini : Cond.initialized Cn ∈ am_tbl) (hc : vwCl[ci]? = some (Cn, T, N)) (fs : List Value) (hfs : ∀ j, j < N → defaultValue (ty j) = vp_V fs j) (hcells : cells + 1 ≤ R.cells) (hslots : slots + N ≤ R.slots) (hd : decode cc pc = .ok (.new index, 3)) (kk : ∀ q : Nat, ct_At p l e R s m args below meth c Q D A nL (pc + 3) lv (.ref q :: st) (ws ++ [(q, .inr (ci, fs))]) (cells + 1) (slots + N)) : ct_At p l e R s m args below meth c Q D A nL pc lv st ws cells slots := fun H locs lr hP hD hS hl => va_new C.1.1 C.1.2.1 C.1.2.2.2.2 hin ty hty C.1.2.2.2.1 (C.1.2.2.2.2 _ hcl) (C.1.2.2.2.2 _ hinst) (C.1.2.2.2.2 _ hini) C.2.1.1 hP hD hS C.2.2 hc hfs hcells hslots hd (fun q H1 hP1 hD1 hS1 => kk q H1 locs lr hP1 hD1 hS1 hl)
theorem ct_newI (C : ct_C p s m args c cc own D cI cZ cE A nL) (harr : Cond.arrayClass .int ∈ am_tbl) {n : Int32} (N : Nat) (hn : ¬ n < 0) (hN : n.toNatClampNeg = N) (hbytes : N * 4 ≤ 536870912) (hcells : cells + 1 ≤ R.cells) (hslots : slots + N ≤ R.slots) (hd : decode cc pc = .ok (.newarray .int, 2)) (kk : ∀ q : Nat, ct_At p l e R s m args below meth c Q D A nL (pc + 2) lv (.ref q :: st) (ws ++ [(q, .inl (cI, N, .inl (fun _ => 0)))]) (cells + 1) (slots + N)) : ct_At p l e R s m args below meth c Q D A nL pc lv (.int n :: st) ws cells slots := fun H locs lr hP hD hS hl => by
  refine va_newa C.1.1 C.1.2.1 (atype := .int) (C.1.2.2.2.2 _ harr) (ty := .int) rfl C.2.1.1 hP hD hS C.2.2 (a0 := (N, .inl (fun _ => 0))) (fun _ => rfl) hn hN hbytes hcells hslots hd (fun q cA H1 hK1 hP1 hD1 hS1 => ?_)
  have e : cA = cI := ct_RAI (hK1.2 3 (cA, .int) rfl).2 (C.2.1.1.2 0 (cI, .int) rfl).2
  subst e
  exact kk q H1 locs lr hP1 hD1 hS1 hl
theorem ct_newZ (C : ct_C p s m args c cc own D cI cZ cE A nL) (harr : Cond.arrayClass .boolean ∈ am_tbl) {n : Int32} (N : Nat) (hn : ¬ n < 0) (hN : n.toNatClampNeg = N) (hbytes : N * 1 ≤ 536870912) (hcells : cells + 1 ≤ R.cells) (hslots : slots + N ≤ R.slots) (hd : decode cc pc = .ok (.newarray .boolean, 2)) (kk : ∀ q : Nat, ct_At p l e R s m args below meth c Q D A nL (pc + 2) lv (.ref q :: st) (ws ++ [(q, .inl (cZ, N, .inl (fun _ => 0)))]) (cells + 1) (slots + N)) : ct_At p l e R s m args below meth c Q D A nL pc lv (.int n :: st) ws cells slots := fun H locs lr hP hD hS hl => by
  refine va_newa C.1.1 C.1.2.1 (atype := .boolean) (C.1.2.2.2.2 _ harr) (ty := .boolean) rfl C.2.1.1 hP hD hS C.2.2 (a0 := (N, .inl (fun _ => 0))) (fun _ => rfl) hn hN hbytes hcells hslots hd (fun q cA H1 hK1 hP1 hD1 hS1 => ?_)
  have e : cA = cZ := ct_RAZ (hK1.2 3 (cA, .boolean) rfl).2 (C.2.1.1.2 1 (cZ, .boolean) rfl).2
  subst e
  exact kk q H1 locs lr hP1 hD1 hS1 hl
theorem ct_newE (C : ct_C p s m args c cc own D cI cZ cE A nL) {index : Nat} (hcl : Cond.classLink own index "RaisedArms$Evening" ∈ am_tbl) {n : Int32} (N : Nat) (hn : ¬ n < 0) (hN : n.toNatClampNeg = N) (hbytes : N * 4 ≤ 536870912) (hcells : cells + 1 ≤ R.cells) (hslots : slots + N ≤ R.slots) (hd : decode cc pc = .ok (.anewarray index, 3)) (kk : ∀ q : Nat, ct_At p l e R s m args below meth c Q D A nL (pc + 3) lv (.ref q :: st) (ws ++ [(q, .inl (cE, N, .inr (.inr (.inr (.inr (fun _ => none))))))]) (cells + 1) (slots + N)) : ct_At p l e R s m args below meth c Q D A nL pc lv (.int n :: st) ws cells slots := fun H locs lr hP hD hS hl => by
  refine va_newq C.1.1 C.1.2.1 C.1.2.2.2.1 (C.1.2.2.2.2 _ hcl) C.2.1.2.2 C.2.1.1 hP hD hS C.2.2 hn hN hbytes hcells hslots hd (fun q cA H1 hK1 hP1 hD1 hS1 => ?_)
  have e : cA = cE := ct_RAE (hK1.2 3 (cA, .object "RaisedArms$Evening") rfl).2 (C.2.1.1.2 2 (cE, .object "RaisedArms$Evening") rfl).2
  subst e
  exact kk q H1 locs lr hP1 hD1 hS1 hl
theorem ct_aastore (C : ct_C p s m args c cc own D cI cZ cE A nL) (q0 qk : Nat) {a v n : Nat} {vs : List Value} {f : Nat → Option Nat} {i : Int32} (ha : ws[q0]? = some (a, .inl (cE, n, .inr (.inr (.inr (.inr f)))))) (hv : ws[qk]? = some (v, .inr (0, vs))) (hin : vp_in i n) (hd : decode cc pc = .ok (.aastore, 1)) (kk : ct_At p l e R s m args below meth c Q D A nL (pc + 1) lv st (ws.set q0 (a, .inl (cE, n, .inr (.inr (.inr (.inr (va_up f i.toNatClampNeg (some v)))))))) cells slots) : ct_At p l e R s m args below meth c Q D A nL pc lv (.ref v :: .int i :: .ref a :: st) ws cells slots := fun H locs lr hP hD hS hl => va_astq C.1.1 C.1.2.1 C.2.1.1 hP hD hS q0 2 qk 0 ha (r := (RX0, TX0, 8)) rfl hv rfl hin hd (fun H1 locs1 hP1 hD1 hS1 => kk H1 locs1 lr hP1 hD1 hS1 hl)
theorem ct_get (C : ct_C p s m args c cc own D cI cZ cE A nL) {Cn : String} {T : u_T} {N ci index a : Nat} {v : Value} (hin : ∀ w ∈ u_ws Cn T N, w ∈ am_tbl) (q0 : Nat) {fs : List Value} (he : ws[q0]? = some (a, .inr (ci, fs))) (hc : vwCl[ci]? = some (Cn, T, N)) (k : Nat) (hk : k < N) (hlk : Cond.fieldLink own index (T k).1 (T k).2.1 (T k).2.2.1 ∈ am_tbl) (hv : fs[k]? = some v) (hd : decode cc pc = .ok (.getfield index, 3)) (kk : ct_At p l e R s m args below meth c Q D A nL (pc + 3) lv (v :: st) ws cells slots) : ct_At p l e R s m args below meth c Q D A nL pc lv (.ref a :: st) ws cells slots := fun H locs lr hP hD hS hl => va_get C.1.1 C.1.2.1 C.1.2.2.2.2 hin C.1.2.2.2.1 C.2.1.1 hP q0 he hc k hk (C.1.2.2.2.2 _ hlk) (fun _ h9 => h9) hv hd (kk H locs lr hP hD hS hl)
theorem ct_putF (C : ct_C p s m args c cc own D cI cZ cE A nL) (hmi : meth.name = "<init>") {T : u_T} {N ci index a : Nat} {v : Value} {ty : FieldType} (hin : ∀ w ∈ u_ws own T N, w ∈ am_tbl) (ty0 : Nat → FieldType) (hty : ∀ k, k < N → parseFieldDescriptor (T k).2.2.1 = some (ty0 k)) (hnm : ∀ a, a < N → ∀ b, b < N → a ≠ b → (T a).2.1 ≠ (T b).2.1) {fs : List Value} (hc : vwCl[ci]? = some (own, T, N)) (k : Nat) (hk : k < N) (hlk : Cond.fieldLink own index own (T k).2.1 (T k).2.2.1 ∈ am_tbl) (hfin : (T k).2.2.2 = true) (hdecl : (T k).1 = own) (hp : parseFieldDescriptor (T k).2.2.1 = some ty) (hn : narrow ty v = v) (hfit : fits ty v = true) (hl0 : k < fs.length) (hd : decode cc pc = .ok (.putfield index, 3)) (kk : ct_At p l e R s m args below meth c Q D A nL (pc + 3) lv st ((a, .inr (ci, fs.set k v)) :: ws) cells slots) : ct_At p l e R s m args below meth c Q D A nL pc lv (v :: .ref a :: st) ((a, .inr (ci, fs)) :: ws) cells slots := fun H locs lr hP hD hS hl => va_putF C.1.1 C.1.2.1 C.1.2.2.2.2 hin ty0 hty hnm C.1.2.2.2.1 C.2.1.1 hP hD hS 0 rfl hc k hk (C.1.2.2.2.2 _ hlk) (fun x h9 => by rw [← hdecl]; exact h9) hfin hmi hdecl hp hn hfit hl0 hd (fun H1 locs1 hP1 hD1 hS1 => kk H1 locs1 lr hP1 hD1 hS1 hl)
theorem ct_put (C : ct_C p s m args c cc own D cI cZ cE A nL) {T : u_T} {N ci index a : Nat} {v : Value} {ty : FieldType} (hin : ∀ w ∈ u_ws own T N, w ∈ am_tbl) (ty0 : Nat → FieldType) (hty : ∀ k, k < N → parseFieldDescriptor (T k).2.2.1 = some (ty0 k)) (hnm : ∀ a, a < N → ∀ b, b < N → a ≠ b → (T a).2.1 ≠ (T b).2.1) {fs : List Value} (hc : vwCl[ci]? = some (own, T, N)) (k : Nat) (hk : k < N) (hlk : Cond.fieldLink own index own (T k).2.1 (T k).2.2.1 ∈ am_tbl) (hfin : (T k).2.2.2 = false) (hdecl : (T k).1 = own) (hp : parseFieldDescriptor (T k).2.2.1 = some ty) (hn : narrow ty v = v) (hfit : fits ty v = true) (hl0 : k < fs.length) (hd : decode cc pc = .ok (.putfield index, 3)) (kk : ct_At p l e R s m args below meth c Q D A nL (pc + 3) lv st ((a, .inr (ci, fs.set k v)) :: ws) cells slots) : ct_At p l e R s m args below meth c Q D A nL pc lv (v :: .ref a :: st) ((a, .inr (ci, fs)) :: ws) cells slots := fun H locs lr hP hD hS hl => va_put C.1.1 C.1.2.1 C.1.2.2.2.2 hin ty0 hty hnm C.1.2.2.2.1 C.2.1.1 hP hD hS 0 rfl hc k hk (C.1.2.2.2.2 _ hlk) (fun x h9 => by rw [← hdecl]; exact h9) hfin hp hn hfit hl0 hd (fun H1 locs1 hP1 hD1 hS1 => kk H1 locs1 lr hP1 hD1 hS1 hl)
/-- a constructor's contract: of a new object h0, whose fields are as they are born; its cells behind it are wf u -/
def ct_Met (l : Launch) (y : MethodName) (cc : ByteArray) (maxL d mc ms : Nat) (D : va_G) (cI cZ cE : ClassId) (As : List Value) (h0 : Nat) (e0 : va_E) {S : Type} (hd : S → Nat) (wf : S → va_W) : Prop := ∀ sz : Nat, Met l y (.code y cc maxL none :: am_tbl) { frames := d, cells := mc, slots := ms, locals := 100 * d } (va_Pc (.ref h0 :: As) (fun U => U.heap.size = sz ∧ va_P D vwCl [(h0, e0)] U.heap ∧ ct_Fix D cI cZ cE U)) (va_Qv (fun u : S => hd u = h0) (fun u t => va_P D vwCl (wf u) t.heap ∧ va_D (va_A [(h0, e0)] sz) (wf u)) (va_A [(h0, e0)] sz)) mc ms (va_A [(h0, e0)] sz)
theorem ct_split {pre : va_W} {x : Nat × va_E} : (List.range pre.length).map (fun i => (pre ++ [x])[i]?) = pre.map some := by
  apply List.ext_getElem?
  intro i
  rw [List.getElem?_map, List.getElem?_map]
  by_cases h : i < pre.length
  · rw [List.getElem?_range h]
    simp only [Option.map_some]
    rw [List.getElem?_append_left h, List.getElem?_eq_getElem h]
    rfl
  · rw [List.getElem?_eq_none (by rw [List.length_range]; omega), List.getElem?_eq_none (by omega)]
    rfl
theorem ct_join {S : Type} {hd0 : S → Nat} {y : MethodName} {bytes : ByteArray} {maxL d mc ms b : Nat} {As rest : List Value} {e0 : va_E} {wf : S → va_W} {pre : va_W} {a : Array Value} {H : Heap} {locs : List Loc} {lr : Array Slot} (C : ct_C p s m args c cc own D cI cZ cE A nL) (hP : va_P D vwCl (pre ++ [(b, e0)]) H) (hD : va_D A (pre ++ [(b, e0)])) (hS : va_S A s.heap H locs) (hl : lv_has lr nL lv)
    (hrun : va_Run p l e R s m args below meth c H locs cells slots mc ms (F0 m pc lr (As.reverse ++ .ref b :: rest)) rest (va_Qv (fun u : S => hd0 u = b) (fun u t => va_P D vwCl (wf u) t.heap ∧ va_D (va_A [(b, e0)] H.size) (wf u)) (va_A [(b, e0)] H.size) a) (va_A [(b, e0)] H.size))
    (kk : ∀ u : S, hd0 u = b → ct_At p l e R s m args below meth c Q D A nL (pc + 3) lv rest (pre ++ wf u) (cells + mc) (slots + ms)) : W p l e R s m args below meth c H locs cells slots Q (F0 m pc lr (As.reverse ++ .ref b :: rest)) := by
  have hC : [pre.length].map (fun i => (pre ++ [(b, e0)])[i]?) = [(b, e0)].map some := by simp
  have hF := va_free (wc := [(b, e0)]) hD hS C.2.2 [pre.length] hC
  refine va_callv hrun hS (fun q _ h => hF q h) hF (fun u t H1 locs1 ht hvm hw hB hz1 hk1 hS1 => ?_)
  obtain ⟨hP1, hD1⟩ := hB
  rw [ht] at hP1
  obtain ⟨hP2, hD2⟩ := va_join (wr := pre) (w1 := wf u) hP hD [pre.length] (List.range pre.length) hC ct_split (ct_nd _) (fun i hi hj => by
    have h1 := List.mem_range.mp hi
    have h2 : i = pre.length := by simpa using hj
    omega) hk1 hF hP1 hD1
  exact kk u hw H1 locs1 lr hP2 hD2 hS1 hl
theorem ct_last {pre : va_W} {x : Nat × va_E} {H : Heap} (h : va_P D vwCl (pre ++ [x]) H) : va_P D vwCl [x] H := fun k q hk => by
  have hk0 : k = 0 := by
    have := (List.getElem?_eq_some_iff.mp hk).1
    rw [List.length_cons, List.length_nil] at this
    omega
  subst hk0
  exact h pre.length q (by rw [List.getElem?_append_right (Nat.le_refl _), Nat.sub_self]; exact hk)
theorem ct_callN {S : Type} {hd0 : S → Nat} {y : MethodName} {bytes : ByteArray} {maxL d mc ms b n idx : Nat} {As rest : List Value} {e0 : va_E} {wf : S → va_W} {pre : va_W} (C : ct_C p s m args c cc own D cI cZ cE A nL) (hM : ct_Met l y bytes maxL d mc ms D cI cZ cE As b e0 hd0 wf) (hcode : Cond.code y bytes maxL none ∈ am_tbl) (hini : Cond.initialized y.cls ∈ am_tbl) (hinst : Cond.instanceMethod y ∈ am_tbl) (hlk : Cond.methodLinkNest own idx y "RaisedArms" ∈ ct_nest) (hy : y.name = "<init>") (hy2 : y.cls ≠ "java/lang/invoke/MethodHandle" ∧ y.cls ≠ "java/lang/invoke/VarHandle" ∧ (parseMethodDescriptor y.desc).map (fun d => d.parameters.length) = some n) (hn : As.length = n) (hR : d + 1 ≤ R.frames ∧ 8 + (maxL + 11) + 100 * d ≤ R.locals) (hW : (rest.map fun v => v.category).sum ≤ 8) (hd : decode cc pc = .ok (.invokespecial idx, 3)) (hf : cells + mc ≤ R.cells ∧ slots + ms ≤ R.slots) (kk : ∀ u : S, hd0 u = b → ct_At p l e R s m args below meth c Q D A nL (pc + 3) lv rest (pre ++ wf u) (cells + mc) (slots + ms)) : ct_At p l e R s m args below meth c Q D A nL pc lv (As.reverse ++ .ref b :: rest) (pre ++ [(b, e0)]) cells slots := by
  intro H locs lr hP hD hS hl
  have hG : GoodIn am_tbl (Cond.code y bytes maxL none :: am_tbl) := fun w hw => by
    rcases List.mem_cons.mp hw with rfl | hw
    · exact ct_good hcode
    · exact ct_good hw
  refine ct_join (y := y) (bytes := bytes) (maxL := maxL) (d := d) C hP hD hS hl (va_runIN (As := As) (rest := rest) ⟨C.1.1, C.1.2.1, C.1.2.2.1, C.1.2.2.2.1, C.1.2.2.2.2⟩ (hM H.size) ⟨va_cnB n C.1.2.2.2.2 hG rfl rfl rfl (C.2.1.2.1 _ hlk) (C.1.2.2.2.2 _ hini) hy2 hR, hy, C.1.2.2.2.2 _ hinst⟩ ⟨fun a U g mk h => ⟨h.1, h.2.1, h.2.2.1, ct_Fix_same (s := U) rfl h.2.2.2⟩, fun U hU hWm => ⟨rfl, by rw [hU], by rw [hU]; exact ct_last hP, ct_Fix_warm hWm C.2.1⟩⟩ rfl hn hl.1 rfl (lv_room hW) hd hf) kk
theorem ct_call {S : Type} {hd0 : S → Nat} {y : MethodName} {bytes : ByteArray} {maxL d mc ms b n idx : Nat} {As rest : List Value} {e0 : va_E} {wf : S → va_W} {pre : va_W} (C : ct_C p s m args c cc own D cI cZ cE A nL) (hM : ct_Met l y bytes maxL d mc ms D cI cZ cE As b e0 hd0 wf) (hcode : Cond.code y bytes maxL none ∈ am_tbl) (hini : Cond.initialized y.cls ∈ am_tbl) (hinst : Cond.instanceMethod y ∈ am_tbl) (hlk : Cond.methodLink own idx y ∈ am_tbl) (hy : y.name = "<init>") (hy2 : y.cls ≠ "java/lang/invoke/MethodHandle" ∧ y.cls ≠ "java/lang/invoke/VarHandle" ∧ (parseMethodDescriptor y.desc).map (fun d => d.parameters.length) = some n) (hn : As.length = n) (hR : d + 1 ≤ R.frames ∧ 8 + (maxL + 11) + 100 * d ≤ R.locals) (hW : (rest.map fun v => v.category).sum ≤ 8) (hd : decode cc pc = .ok (.invokespecial idx, 3)) (hf : cells + mc ≤ R.cells ∧ slots + ms ≤ R.slots) (kk : ∀ u : S, hd0 u = b → ct_At p l e R s m args below meth c Q D A nL (pc + 3) lv rest (pre ++ wf u) (cells + mc) (slots + ms)) : ct_At p l e R s m args below meth c Q D A nL pc lv (As.reverse ++ .ref b :: rest) (pre ++ [(b, e0)]) cells slots := by
  intro H locs lr hP hD hS hl
  have hG : GoodIn am_tbl (Cond.code y bytes maxL none :: am_tbl) := fun w hw => by
    rcases List.mem_cons.mp hw with rfl | hw
    · exact ct_good hcode
    · exact ct_good hw
  refine ct_join (y := y) (bytes := bytes) (maxL := maxL) (d := d) C hP hD hS hl (va_runI (As := As) (rest := rest) ⟨C.1.1, C.1.2.1, C.1.2.2.1, C.1.2.2.2.1, C.1.2.2.2.2⟩ (hM H.size) (cwI n C.1.2.2.2.2 hG rfl rfl rfl (C.1.2.2.2.2 _ hini) (C.1.2.2.2.2 _ hlk) (C.1.2.2.2.2 _ hinst) hy hy2 hR) ⟨fun a U g mk h => ⟨h.1, h.2.1, h.2.2.1, ct_Fix_same (s := U) rfl h.2.2.2⟩, fun U hU hWm => ⟨rfl, by rw [hU], by rw [hU]; exact ct_last hP, ct_Fix_warm hWm C.2.1⟩⟩ rfl hn hl.1 rfl (lv_room hW) hd hf) kk
end CT
/-- a constructor's contract, out of the walk of its body -/
theorem ct_start {l : Launch} {y : MethodName} {cc : ByteArray} {maxL d mc ms : Nat} {D : va_G} {cI cZ cE : ClassId} {As : List Value} {h0 : Nat} {e0 : va_E} {S : Type} {hd0 : S → Nat} {wf : S → va_W} (hy : plainName y.cls = true) (hyn : y.name = "<init>") (hlen : (lg_sl (.ref h0 :: As)).length ≤ maxL)
    (body : ∀ (p : Program) (e : Env) (s : State) (m : MethodId) (args : Array Value) (below : List Frame) (meth : Method) (c : Code) (A : Nat → Prop) (Q : State → Prop), ct_C p s m args c cc y.cls D cI cZ cE A maxL → meth.name = "<init>" → (∀ (u : S) (pc : Nat) (lv : List (Nat × Value)), hd0 u = h0 → decode cc pc = .ok (.return_, 1) → ct_At p l e { frames := d, cells := mc, slots := ms, locals := 100 * d } s m args below meth c Q D A maxL pc lv [] (wf u) mc ms) → ct_At p l e { frames := d, cells := mc, slots := ms, locals := 100 * d } s m args below meth c Q D A maxL 0 (lv_args 0 (.ref h0 :: As)) [] [(h0, e0)] 0 0) : ct_Met l y cc maxL d mc ms D cI cZ cE As h0 e0 hd0 wf := by
  intro sz
  refine Met.ofW (cc := cc) (maxL := maxL) (ret := none) hy rfl ?_
  intro p e s m args below meth c s₁ B hml hv
  obtain ⟨rfl, hsz, hP, hF⟩ := hv
  subst hsz
  have hlocks := B.notSynchronized
  have hl := lv_entry (.ref h0 :: As) (n := maxL) hlen
  rw [lg_entry_eq]
  have hown : s.vm.findClass y.cls = some m.cls := findClass_of_methodNamed B.named
  have hts := atoms_spec (ws := Cond.code y cc maxL none :: am_tbl) B.pre
  have C : ct_C p s m (Value.ref h0 :: As).toArray c cc y.cls D cI cZ cE (va_A [(h0, e0)] s.heap.size) maxL := ⟨⟨B.exec, B.bytes, hml, hown, fun w hw => hts w (List.mem_cons_of_mem _ hw)⟩, hF, fun q h => Or.inr h⟩
  have hD : va_D (va_A [(h0, e0)] s.heap.size) [(h0, e0)] := ⟨fun i j p q hi hj _ => by
    have h1 := (List.getElem?_eq_some_iff.mp hi).1
    have h2 := (List.getElem?_eq_some_iff.mp hj).1
    rw [List.length_cons, List.length_nil] at h1 h2
    omega, fun k q hk => va_A.in hk⟩
  refine body p e s m _ below meth c _ _ C ((name_of_methodNamed B.named B.method).1.trans hyn) (fun u pc lv hu hd => ?_) s.heap [] _ hP hD va_S.rf hl
  intro H locs lr hP1 hD1 hS1 _
  exact W.vret B.exec B.bytes B.returns (fun t ht hW => ⟨⟨u, rfl, hu, by rw [ht]; exact hP1, hD1⟩, hS1.F ht⟩) hS1.2.2 hd
