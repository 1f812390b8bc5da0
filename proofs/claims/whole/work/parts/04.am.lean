/-! the abstract machine: worlds, contracts, steps -/
def am_ent (Γ : Am_G) (M : Am_M) (e p : Nat) : va_E := match am_shape p with
  | some (.inl (0, n, _)) => .inl (Γ.2.1.1, n, .inl (fun i => Int32.ofInt (M.1 e p i)))
  | some (.inl (1, n, _)) => .inl (Γ.2.1.2.1, n, .inl (fun i => Int32.ofInt (M.1 e p i)))
  | some (.inl (_, n, b)) => .inl (Γ.2.1.2.2, n, .inr (.inr (.inr (.inr (fun i => some (Γ.2.2.1 (b + i) 0))))))
  | some (.inr (ci, fs)) => .inr (ci, fs.mapIdx (fun k f => am_c Γ.2.2.1 (am_fv M e p k f)))
  | none => .inr (0, [])
def am_world (Γ : Am_G) (M : Am_M) : va_W := am_ids.map (fun c => (Γ.2.2.1 c.1 c.2, am_ent Γ M c.1 c.2))
def am_tys (Γ : Am_G) : List (ClassId × FieldType) := [(Γ.2.1.1, .int), (Γ.2.1.2.1, .boolean), (Γ.2.1.2.2, .object "RaisedArms$Evening")]
def am_A (Γ : Am_G) : Nat → Prop := fun q => ∃ c ∈ am_ids, q = Γ.2.2.1 c.1 c.2
def am_okv : Am_V → Prop
  | .inr (.inr q) => q ∈ am_ids ∨ (q.2 = 99 ∧ q.1 < 10)
  | _ => True
def am_okr (ρ : Nat → Nat → Nat) : Prop := ∀ c ∈ am_ids, ∀ c' ∈ am_ids, ρ c.1 c.2 = ρ c'.1 c'.2 → c = c'
/-- words that hold, but that the kit doesn't carry over a call by itself -/
def am_nest : List Cond := [.methodLinkNest "RaisedArms$Hall" 41 ⟨"RaisedArms", "place", "(II)I"⟩ "RaisedArms", .methodLinkNest "RaisedArms$Vote" 54 ⟨"RaisedArms", "place", "(II)I"⟩ "RaisedArms", .methodLinkNest "RaisedArms$Foresight" 164 ⟨"RaisedArms", "place", "(II)I"⟩ "RaisedArms", .methodLinkNest "RaisedArms$Hall" 88 ⟨"RaisedArms", "isCarried", "(III)Z"⟩ "RaisedArms", .methodLinkNest "RaisedArms$Vote" 159 ⟨"RaisedArms", "isCarried", "(III)Z"⟩ "RaisedArms", .methodLinkNest "RaisedArms$Foresight" 106 ⟨"RaisedArms", "isCarried", "(III)Z"⟩ "RaisedArms", .castable "RaisedArms$Watch" "RaisedArms$Plain", .declares ⟨"RaisedArms$Voter", "wish", "(IIII)I"⟩]
def am_nc : List (String × String) := [("RaisedArms$Plain", "RaisedArms$Watch"), ("RaisedArms$Plain", "RaisedArms$Stout"), ("RaisedArms$Plain", "RaisedArms$Told"), ("RaisedArms$Watch", "RaisedArms$Stout"), ("RaisedArms$Watch", "RaisedArms$Told"), ("RaisedArms$Stout", "RaisedArms$Plain"), ("RaisedArms$Stout", "RaisedArms$Watch"), ("RaisedArms$Stout", "RaisedArms$Told"), ("RaisedArms$Told", "RaisedArms$Plain"), ("RaisedArms$Told", "RaisedArms$Watch"), ("RaisedArms$Told", "RaisedArms$Stout")]
def am_stx : List String := ["plain", "watch", "stout", "told", "matter", "for", "against", "counts", "hold", "hall"]
def am_slen : List Nat := am_stx.map (fun t => t.length)
def am_sbyt : List (List Int32) := am_stx.map (fun t => t.toList.map (fun c => Int32.ofNat c.toNat))
def am_Str (Γ : Am_G) (U : State) (H : Heap) : Prop := vk_S 10 am_slen am_sbyt (fun w => Γ.2.2.1 w 99) Γ.2.2.2 (am_A Γ) U H ∧ (∀ w, w < 10 → vk_R "RaisedArms$Text" (90 + 2 * w) (am_stx.getD w "") (Γ.2.2.1 w 99) U) ∧ va_Z "java/lang/String" "COMPACT_STRINGS" "Z" (.int 1) (am_A Γ) U H
def am_Fix (Γ : Am_G) (U : State) (H : Heap) : Prop := va_K Γ.1 vwCl (am_tys Γ) U ∧ (∀ w ∈ am_nest, va_Nw w U) ∧ (∀ x ∈ am_nc, va_Nc x.1 x.2 U) ∧ am_okr Γ.2.2.1 ∧ am_Str Γ U H
def am_ws (n : Nat) : List Cond := .code (am_mi n).1 (am_mi n).2.1 (am_mi n).2.2.1 (am_mi n).2.2.2.1 :: am_tbl
/-- a method's end -/
def am_Q (Γ : Am_G) (K : Option Am_V → Am_M → Prop) : Array Value → State → Outcome → State → Prop := fun _ st oc t => (∃ (r : Option Am_V) (M' : Am_M), oc = .returned (r.map (am_c Γ.2.2.1)) ∧ K r M' ∧ (∀ v, r = some v → am_okv v) ∧ va_P Γ.1 vwCl (am_world Γ M') t.heap ∧ am_Fix Γ t t.heap) ∧ va_F (am_A Γ) st t
/-- A CONTRACT: from memory M, with these arguments, method n answers r and leaves M', with K r M' -/
def am_Ev (Γ : Am_G) (d n : Nat) (as : List Am_V) (M : Am_M) (K : Option Am_V → Am_M → Prop) : Prop := ∀ l : Launch, Met l (am_mi n).1 (am_ws n) (am_room d) (va_Pc (as.map (am_c Γ.2.2.1)) (fun U => (∀ v ∈ as, am_okv v) ∧ va_P Γ.1 vwCl (am_world Γ M) U.heap ∧ am_Fix Γ U U.heap)) (am_Q Γ K) 0 0 (am_A Γ)
def am_Loc (ρ : Nat → Nat → Nat) (nL : Nat) (lr : Array Slot) (ls : Am_L) : Prop := lr.size = nL ∧ lv_wf lr ∧ ls.length = nL ∧ ∀ (i : Nat) (v : Am_V), am_nth ls i = some (some v) → am_okv v ∧ lr[i]? = some (.val (am_c ρ v))
-- what the tables say
def am_flok (x : Nat × Nat × Nat × Nat) : Prop := ∃ q : vw_C, vwCl[x.2.2.1]? = some q ∧ x.2.2.2 < q.2.2 ∧ Cond.fieldLink (am_cn x.1) x.2.1 (q.2.1 x.2.2.2).1 (q.2.1 x.2.2.2).2.1 (q.2.1 x.2.2.2).2.2.1 ∈ am_tbl
def am_mlok (x : Nat × Nat × Nat × Nat) : Prop := match x.2.2.2 with
  | 0 => Cond.methodLink (am_cn x.1) x.2.1 (am_mi x.2.2.1).1 ∈ am_tbl ∧ Cond.instanceMethod (am_mi x.2.2.1).1 ∈ am_tbl ∧ Cond.selects (am_mi x.2.2.1).1.cls (am_mi x.2.2.1).1 (am_mi x.2.2.1).1 ∈ am_tbl ∧ Cond.initialized (am_mi x.2.2.1).1.cls ∈ am_tbl
  | 1 => Cond.methodLink (am_cn x.1) x.2.1 (am_mi x.2.2.1).1 ∈ am_tbl ∧ Cond.static (am_mi x.2.2.1).1 ∈ am_tbl ∧ Cond.initialized (am_mi x.2.2.1).1.cls ∈ am_tbl
  | _ => Cond.methodLinkNest (am_cn x.1) x.2.1 (am_mi x.2.2.1).1 "RaisedArms" ∈ am_nest ∧ Cond.static (am_mi x.2.2.1).1 ∈ am_tbl ∧ Cond.initialized (am_mi x.2.2.1).1.cls ∈ am_tbl
def am_clok (x : Nat × Nat × Int) : Prop := Cond.constantLong (am_cn x.1) x.2.1 (Int64.ofInt x.2.2) ∈ am_tbl
def am_jname (a : Nat) : MethodName := match a with
  | 900 => Lib.Math.min.name
  | 901 => Lib.Math.max.name
  | 902 => Lib.Math.abs.name
  | _ => arraycopyName
def am_jlok (x : Nat × Nat × Nat) : Prop := Cond.methodLink (am_cn x.1) x.2.1 (am_jname x.2.2) ∈ am_tbl
/-- a row's operands, as the tables have them -/
def am_lnk (oc : Nat) (r : Am_Row) : Bool := match r.2.1 with
  | .getfield idx => am_fl.elem (oc, idx, r.2.2.2.1, r.2.2.2.2.1)
  | .putfield idx => am_fl.elem (oc, idx, r.2.2.2.1, r.2.2.2.2.1) && (match vwCl[r.2.2.2.1]? with
    | some q => !(q.2.1 r.2.2.2.2.1).2.2.2
    | none => false)
  | .ldc2_w idx => am_cl.elem (oc, idx, r.2.2.2.2.2)
  | .bipush c => decide ((Int8.ofInt c).toInt32 = Int32.ofInt c)
  | .sipush c => decide ((Int16.ofInt c).toInt32 = Int32.ofInt c)
  | .invokevirtual idx => (900 ≤ r.2.2.2.1) || (am_ml.elem (oc, idx, r.2.2.2.1, 0) && decide ((vwCl[r.2.2.2.2.2.toNat]?).map (fun q => q.1) = some (am_mi r.2.2.2.1).1.cls) && decide ((parseMethodDescriptor (am_mi r.2.2.2.1).1.desc).map (fun d => d.parameters.length) = some r.2.2.2.2.1))
  | .invokestatic idx => (bif Nat.ble 900 r.2.2.2.1 then am_jl.elem (oc, idx, r.2.2.2.1) else ((am_ml.elem (oc, idx, r.2.2.2.1, 1) && decide ((am_mi r.2.2.2.1).1.cls = am_cn oc)) || am_ml.elem (oc, idx, r.2.2.2.1, 2)) && decide ((parseMethodDescriptor (am_mi r.2.2.2.1).1.desc).map (fun d => d.parameters.length) = some r.2.2.2.2.1))
  | _ => true
def am_chk (cc : ByteArray) (oc : Nat) (rs : List Am_Row) : Bool := rs.all (fun r => decide (decode cc r.1 = .ok (r.2.1, r.2.2.1)) && am_lnk oc r)
def am_miok (n : Nat) : Prop := Cond.code (am_mi n).1 (am_mi n).2.1 (am_mi n).2.2.1 (am_mi n).2.2.2.1 ∈ am_tbl ∧ Cond.initialized (am_mi n).1.cls ∈ am_tbl ∧ (plainName (am_mi n).1.cls = true ∧ (am_mi n).1.cls ≠ "java/lang/invoke/MethodHandle" ∧ (am_mi n).1.cls ≠ "java/lang/invoke/VarHandle" ∧ am_cn (am_mi n).2.2.2.2.1 = (am_mi n).1.cls ∧ (am_mi n).2.2.1 ≤ 60) ∧ am_chk (am_mi n).2.1 (am_mi n).2.2.2.2.1 (am_mi n).2.2.2.2.2 = true
def am_Ctx (Γ : Am_G) (n : Nat) (p : Program) (s : State) (m : MethodId) (args : Array Value) (meth : Method) (c : Code) : Prop := p.tables.exec = Jvm.exec ∧ c.code = (am_mi n).2.1 ∧ meth.sig.returnType = (am_mi n).2.2.2.1 ∧ c.maxLocals = (am_mi n).2.2.1 ∧ s.vm.findClass (am_cn (am_mi n).2.2.2.2.1) = some m.cls ∧ (∀ w ∈ am_ws n, w.before args s = true) ∧ meth.locks = false ∧ am_Fix Γ s s.heap ∧ am_miok n
/-- the machine, in method n at pc, with these locals, this stack, this memory, comes to its end with K -/
def am_At (Γ : Am_G) (d n pc : Nat) (ls : Am_L) (st : List Am_V) (M : Am_M) (K : Option Am_V → Am_M → Prop) : Prop :=
  ∀ (p : Program) (l : Launch) (e : Env) (s : State) (m : MethodId) (args : Array Value) (below : List Frame) (meth : Method) (c : Code) (H : Heap) (locs : List Loc) (lr : Array Slot),
    am_Ctx Γ n p s m args meth c → (∀ v ∈ st, am_okv v) → am_Loc Γ.2.2.1 (am_mi n).2.2.1 lr ls → va_P Γ.1 vwCl (am_world Γ M) H → va_S (am_A Γ) s.heap H locs →
    W p l e (am_room d) s m args below meth c H locs 0 0 (MQ below (am_Q Γ K) args s 0 0 (am_A Γ)) (F0 m pc lr (st.map (am_c Γ.2.2.1)))
def am_callk (Γ : Am_G) (d n : Nat) (as : List Am_V) (M : Am_M) (k : Option Am_V → Am_M → Prop) : Prop := ∃ (d' : Nat) (K' : Option Am_V → Am_M → Prop), d' + 1 ≤ d ∧ am_Ev Γ d' n as M K' ∧ ∀ r M', K' r M' → k r M'
/-- the offsets of a switch, one by one -/
def am_sw (lo : Int) : List Int → Int → (Int → Prop) → Prop
  | [], _, _ => True
  | o :: l, x, k => (x = lo → k o) ∧ am_sw (lo + 1) l x k
/-- the JDK's own: min, max, abs, arraycopy -/
def am_jdk (a : Nat) (k : List Am_V → Am_M → Prop) (d : Nat) (st : List Am_V) (M : Am_M) : Prop := match a with
  | 900 => match st with
    | .inl y :: .inl x :: st => ((am_R x ∧ am_R y) ∧ 1 ≤ d ∧ am_cat st ≤ 8) ∧ k (.inl (if y < x then y else x) :: st) M
    | _ => False
  | 901 => match st with
    | .inl y :: .inl x :: st => ((am_R x ∧ am_R y) ∧ 1 ≤ d ∧ am_cat st ≤ 8) ∧ k (.inl (if x < y then y else x) :: st) M
    | _ => False
  | 902 => match st with
    | .inl x :: st => (am_R x ∧ 1 ≤ d ∧ am_cat st ≤ 8) ∧ k (.inl (if 0 ≤ x then x else 0 - x) :: st) M
    | _ => False
  | _ => match st with
    | .inl m :: .inl 0 :: .inr (.inr q2) :: .inl 0 :: .inr (.inr q1) :: st => match am_shape q1.2, am_shape q2.2 with
      | some (.inl (0, l1, _)), some (.inl (0, l2, _)) => ((0 ≤ m ∧ m ≤ l1 ∧ m ≤ l2) ∧ (l1 < 1000 ∧ l2 < 1000) ∧ 1 ≤ d ∧ am_cat st ≤ 8) ∧ k st (am_cpy M q1.1 q1.2 q2.1 q2.2 m.toNat)
      | _, _ => False
    | _ => False
/-- one row, forward: what must hold of the state behind it -/
def am_step (Γ : Am_G) (d n : Nat) (K : Option Am_V → Am_M → Prop) (k : List Am_Row → Nat → Am_L → List Am_V → Am_M → Prop) (r : Am_Row) (rs : List Am_Row) (ls : Am_L) (st : List Am_V) (M : Am_M) : Prop :=
  match r.2.1 with
  | .iconst c => k rs (r.1 + 1) ls (.inl c :: st) M
  | .bipush c => k rs (r.1 + 2) ls (.inl c :: st) M
  | .sipush c => k rs (r.1 + 3) ls (.inl c :: st) M
  | .lconst c => k rs (r.1 + 1) ls (.inr (.inl (Int64.ofNat c.val)) :: st) M
  | .ldc2_w _ => k rs (r.1 + 3) ls (.inr (.inl (Int64.ofInt r.2.2.2.2.2)) :: st) M
  | .iload_n j => match am_nth ls j.val with
    | some (some (.inl x)) => k rs (r.1 + 1) ls (.inl x :: st) M
    | _ => False
  | .iload j => match am_nth ls j with
    | some (some (.inl x)) => k rs (r.1 + 2) ls (.inl x :: st) M
    | _ => False
  | .lload_n j => match am_nth ls j.val with
    | some (some (.inr (.inl x))) => k rs (r.1 + 1) ls (.inr (.inl x) :: st) M
    | _ => False
  | .aload_n j => match am_nth ls j.val with
    | some (some (.inr (.inr q))) => k rs (r.1 + 1) ls (.inr (.inr q) :: st) M
    | _ => False
  | .aload j => match am_nth ls j with
    | some (some (.inr (.inr q))) => k rs (r.1 + 2) ls (.inr (.inr q) :: st) M
    | _ => False
  | .istore_n j => match st with
    | .inl x :: st => bif am_nolong ls j.val && Nat.blt j.val ls.length then k rs (r.1 + 1) (am_lset ls j.val (.inl x)) st M else False
    | _ => False
  | .istore j => match st with
    | .inl x :: st => bif am_nolong ls j && Nat.blt j ls.length then k rs (r.1 + 2) (am_lset ls j (.inl x)) st M else False
    | _ => False
  | .astore_n j => match st with
    | .inr (.inr q) :: st => bif am_nolong ls j.val && Nat.blt j.val ls.length then k rs (r.1 + 1) (am_lset ls j.val (.inr (.inr q))) st M else False
    | _ => False
  | .astore j => match st with
    | .inr (.inr q) :: st => bif am_nolong ls j && Nat.blt j ls.length then k rs (r.1 + 2) (am_lset ls j (.inr (.inr q))) st M else False
    | _ => False
  | .iinc j c => match am_nth ls j with
    | some (some (.inl x)) => bif am_nolong ls j then k rs (r.1 + 3) (am_lset ls j (.inl (x + c))) st M else False
    | _ => False
  | .dup => match st with
    | .inl x :: st => k rs (r.1 + 1) ls (.inl x :: .inl x :: st) M
    | .inr (.inr q) :: st => k rs (r.1 + 1) ls (.inr (.inr q) :: .inr (.inr q) :: st) M
    | _ => False
  | .dup2 => match st with
    | .inl x :: .inr (.inr q) :: st => k rs (r.1 + 1) ls (.inl x :: .inr (.inr q) :: .inl x :: .inr (.inr q) :: st) M
    | _ => False
  | .pop => match st with
    | .inl _ :: st => k rs (r.1 + 1) ls st M
    | .inr (.inr _) :: st => k rs (r.1 + 1) ls st M
    | _ => False
  | .iadd => match st with
    | .inl y :: .inl x :: st => k rs (r.1 + 1) ls (.inl (x + y) :: st) M
    | _ => False
  | .isub => match st with
    | .inl y :: .inl x :: st => k rs (r.1 + 1) ls (.inl (x - y) :: st) M
    | _ => False
  | .imul => match st with
    | .inl y :: .inl x :: st => k rs (r.1 + 1) ls (.inl (x * y) :: st) M
    | _ => False
  | .ineg => match st with
    | .inl x :: st => k rs (r.1 + 1) ls (.inl (-x) :: st) M
    | _ => False
  | .idiv => match st with
    | .inl y :: .inl x :: st => (0 ≤ x ∧ am_R x ∧ 0 < y ∧ am_R y) ∧ k rs (r.1 + 1) ls (.inl (x / y) :: st) M
    | _ => False
  | .irem => match st with
    | .inl y :: .inl x :: st => (0 ≤ x ∧ am_R x ∧ 0 < y ∧ am_R y) ∧ k rs (r.1 + 1) ls (.inl (x % y) :: st) M
    | _ => False
  | .iand => match st with
    | .inl y :: .inl x :: st => k rs (r.1 + 1) ls (.inl (am_and x y) :: st) M
    | _ => False
  | .ior => match st with
    | .inl y :: .inl x :: st => k rs (r.1 + 1) ls (.inl (am_or x y) :: st) M
    | _ => False
  | .ixor => match st with
    | .inl y :: .inl x :: st => k rs (r.1 + 1) ls (.inl (am_xor x y) :: st) M
    | _ => False
  | .ishl => match st with
    | .inl y :: .inl x :: st => k rs (r.1 + 1) ls (.inl (am_shl x y) :: st) M
    | _ => False
  | .ishr => match st with
    | .inl y :: .inl x :: st => k rs (r.1 + 1) ls (.inl (am_shr x y) :: st) M
    | _ => False
  | .i2l => match st with
    | .inl x :: st => k rs (r.1 + 1) ls (.inr (.inl (Int32.ofInt x).toInt64) :: st) M
    | _ => False
  | .l2i => match st with
    | .inr (.inl x) :: st => k rs (r.1 + 1) ls (.inl x.toInt32.toInt :: st) M
    | _ => False
  | .ladd => match st with
    | .inr (.inl y) :: .inr (.inl x) :: st => k rs (r.1 + 1) ls (.inr (.inl (x + y)) :: st) M
    | _ => False
  | .lsub => match st with
    | .inr (.inl y) :: .inr (.inl x) :: st => k rs (r.1 + 1) ls (.inr (.inl (x - y)) :: st) M
    | _ => False
  | .lmul => match st with
    | .inr (.inl y) :: .inr (.inl x) :: st => k rs (r.1 + 1) ls (.inr (.inl (x * y)) :: st) M
    | _ => False
  | .land => match st with
    | .inr (.inl y) :: .inr (.inl x) :: st => k rs (r.1 + 1) ls (.inr (.inl (x &&& y)) :: st) M
    | _ => False
  | .lshr => match st with
    | .inl y :: .inr (.inl x) :: st => k rs (r.1 + 1) ls (.inr (.inl (x >>> ((Int32.ofInt y).toInt64 &&& 63))) :: st) M
    | _ => False
  | .lcmp => match st with
    | .inr (.inl y) :: .inr (.inl x) :: st => k rs (r.1 + 1) ls (.inl (if y < x then 1 else if x = y then 0 else -1) :: st) M
    | _ => False
  | .if_icmp .eq off => match st with
    | .inl y :: .inl x :: st => (am_R x ∧ am_R y) ∧ am_br (x = y) (k (am_from (am_mi n).2.2.2.2.2 (am_jmp r.1 off)) (am_jmp r.1 off) ls st M) (k rs (r.1 + 3) ls st M)
    | _ => False
  | .if_icmp .ne off => match st with
    | .inl y :: .inl x :: st => (am_R x ∧ am_R y) ∧ am_br (x = y) (k rs (r.1 + 3) ls st M) (k (am_from (am_mi n).2.2.2.2.2 (am_jmp r.1 off)) (am_jmp r.1 off) ls st M)
    | _ => False
  | .if_icmp .lt off => match st with
    | .inl y :: .inl x :: st => (am_R x ∧ am_R y) ∧ am_br (x < y) (k (am_from (am_mi n).2.2.2.2.2 (am_jmp r.1 off)) (am_jmp r.1 off) ls st M) (k rs (r.1 + 3) ls st M)
    | _ => False
  | .if_icmp .ge off => match st with
    | .inl y :: .inl x :: st => (am_R x ∧ am_R y) ∧ am_br (x < y) (k rs (r.1 + 3) ls st M) (k (am_from (am_mi n).2.2.2.2.2 (am_jmp r.1 off)) (am_jmp r.1 off) ls st M)
    | _ => False
  | .if_icmp .gt off => match st with
    | .inl y :: .inl x :: st => (am_R x ∧ am_R y) ∧ am_br (y < x) (k (am_from (am_mi n).2.2.2.2.2 (am_jmp r.1 off)) (am_jmp r.1 off) ls st M) (k rs (r.1 + 3) ls st M)
    | _ => False
  | .if_icmp .le off => match st with
    | .inl y :: .inl x :: st => (am_R x ∧ am_R y) ∧ am_br (y < x) (k rs (r.1 + 3) ls st M) (k (am_from (am_mi n).2.2.2.2.2 (am_jmp r.1 off)) (am_jmp r.1 off) ls st M)
    | _ => False
  | .ifCond .eq off => match st with
    | .inl x :: st => am_R x ∧ am_br (x = 0) (k (am_from (am_mi n).2.2.2.2.2 (am_jmp r.1 off)) (am_jmp r.1 off) ls st M) (k rs (r.1 + 3) ls st M)
    | _ => False
  | .ifCond .ne off => match st with
    | .inl x :: st => am_R x ∧ am_br (x = 0) (k rs (r.1 + 3) ls st M) (k (am_from (am_mi n).2.2.2.2.2 (am_jmp r.1 off)) (am_jmp r.1 off) ls st M)
    | _ => False
  | .ifCond .lt off => match st with
    | .inl x :: st => am_R x ∧ am_br (x < 0) (k (am_from (am_mi n).2.2.2.2.2 (am_jmp r.1 off)) (am_jmp r.1 off) ls st M) (k rs (r.1 + 3) ls st M)
    | _ => False
  | .ifCond .ge off => match st with
    | .inl x :: st => am_R x ∧ am_br (x < 0) (k rs (r.1 + 3) ls st M) (k (am_from (am_mi n).2.2.2.2.2 (am_jmp r.1 off)) (am_jmp r.1 off) ls st M)
    | _ => False
  | .ifCond .gt off => match st with
    | .inl x :: st => am_R x ∧ am_br (0 < x) (k (am_from (am_mi n).2.2.2.2.2 (am_jmp r.1 off)) (am_jmp r.1 off) ls st M) (k rs (r.1 + 3) ls st M)
    | _ => False
  | .ifCond .le off => match st with
    | .inl x :: st => am_R x ∧ am_br (0 < x) (k rs (r.1 + 3) ls st M) (k (am_from (am_mi n).2.2.2.2.2 (am_jmp r.1 off)) (am_jmp r.1 off) ls st M)
    | _ => False
  | .goto off => k (am_from (am_mi n).2.2.2.2.2 (am_jmp r.1 off)) (am_jmp r.1 off) ls st M
  | .tableswitch df lo hi offs => match st with
    | .inl x :: st => (am_R x ∧ (offs.size : Int) = hi - lo + 1) ∧ (x < lo ∨ hi < x → k (am_from (am_mi n).2.2.2.2.2 (am_jmp r.1 df)) (am_jmp r.1 df) ls st M) ∧ am_sw lo offs.toList x (fun off => k (am_from (am_mi n).2.2.2.2.2 (am_jmp r.1 off)) (am_jmp r.1 off) ls st M)
    | _ => False
  | .getfield _ => match st with
    | .inr (.inr q) :: st => match am_shape q.2 with
      | some (.inr (ci, fs)) => bif Nat.beq ci r.2.2.2.1 then (match am_nth fs r.2.2.2.2.1 with
        | some f => k rs (r.1 + 3) ls (am_fv M q.1 q.2 r.2.2.2.2.1 f :: st) M
        | none => False) else False
      | _ => False
    | _ => False
  | .putfield _ => match st with
    | v :: .inr (.inr q) :: st => match am_shape q.2 with
      | some (.inr (ci, fs)) => bif Nat.beq ci r.2.2.2.1 then (match am_nth fs r.2.2.2.2.1, v with
        | some (.inl 0), .inl x => k rs (r.1 + 3) ls st (am_set M q.1 q.2 r.2.2.2.2.1 x)
        | some (.inl 1), .inl x => (x = 0 ∨ x = 1) ∧ k rs (r.1 + 3) ls st (am_set M q.1 q.2 r.2.2.2.2.1 x)
        | some (.inl 2), .inr (.inl y) => k rs (r.1 + 3) ls st (M.1, y)
        | _, _ => False) else False
      | _ => False
    | _ => False
  | .iaload => match st with
    | .inl i :: .inr (.inr q) :: st => match am_shape q.2 with
      | some (.inl (0, len, _)) => (0 ≤ i ∧ i < len) ∧ k rs (r.1 + 1) ls (.inl (M.1 q.1 q.2 i.toNat) :: st) M
      | _ => False
    | _ => False
  | .baload => match st with
    | .inl i :: .inr (.inr q) :: st => match am_shape q.2 with
      | some (.inl (1, len, _)) => (0 ≤ i ∧ i < len) ∧ k rs (r.1 + 1) ls (.inl (M.1 q.1 q.2 i.toNat) :: st) M
      | _ => False
    | _ => False
  | .aaload => match st with
    | .inl i :: .inr (.inr q) :: st => match am_shape q.2 with
      | some (.inl (2, len, b)) => (0 ≤ i ∧ i < len) ∧ k rs (r.1 + 1) ls (.inr (.inr (b + i.toNat, 0)) :: st) M
      | _ => False
    | _ => False
  | .iastore => match st with
    | .inl x :: .inl i :: .inr (.inr q) :: st => match am_shape q.2 with
      | some (.inl (0, len, _)) => (0 ≤ i ∧ i < len) ∧ k rs (r.1 + 1) ls st (am_set M q.1 q.2 i.toNat x)
      | _ => False
    | _ => False
  | .bastore => match st with
    | .inl x :: .inl i :: .inr (.inr q) :: st => match am_shape q.2 with
      | some (.inl (1, len, _)) => ((0 ≤ i ∧ i < len) ∧ (x = 0 ∨ x = 1)) ∧ k rs (r.1 + 1) ls st (am_set M q.1 q.2 i.toNat x)
      | _ => False
    | _ => False
  | .arraylength => match st with
    | .inr (.inr q) :: st => match am_shape q.2 with
      | some (.inl (0, len, _)) => k rs (r.1 + 1) ls (.inl (len : Int) :: st) M
      | _ => False
    | _ => False
  | .invokevirtual _ => bif Nat.ble 900 r.2.2.2.1 then am_At Γ d n r.1 ls st M K else match am_take r.2.2.2.2.1 [] st with
    | some (as, .inr (.inr q) :: st) => match am_shape q.2 with
      | some (.inr (ci, _)) => bif Nat.beq ci r.2.2.2.2.2.toNat && Nat.ble (am_cat st) 8 then am_callk Γ d r.2.2.2.1 (.inr (.inr q) :: as) M (fun v M' => k rs (r.1 + 3) ls (v.toList ++ st) M') else False
      | _ => False
    | _ => False
  | .invokestatic _ => bif Nat.ble 900 r.2.2.2.1 then am_jdk r.2.2.2.1 (fun st M => k rs (r.1 + 3) ls st M) d st M else match am_take r.2.2.2.2.1 [] st with
    | some (as, st) => bif Nat.ble (am_cat st) 8 then am_callk Γ d r.2.2.2.1 as M (fun v M' => k rs (r.1 + 3) ls (v.toList ++ st) M') else False
    | _ => False
  | .ireturn => match st with
    | [.inl x] => match (am_mi n).2.2.2.1 with
      | some .int => K (some (.inl x)) M
      | some .boolean => (x = 0 ∨ x = 1) ∧ K (some (.inl x)) M
      | _ => False
    | _ => False
  | .areturn => match st with
    | [.inr (.inr q)] => match (am_mi n).2.2.2.1 with
      | some (.object _) => K (some (.inr (.inr q))) M
      | _ => False
    | _ => False
  | .return_ => match st with
    | [] => match (am_mi n).2.2.2.1 with
      | none => K none M
      | _ => False
    | _ => False
  | _ => am_At Γ d n r.1 ls st M K
/-- rows, forward, till a stop, a loop's head, or the end -/
def am_vc (Γ : Am_G) (d n : Nat) (stops : List Nat) (K : Option Am_V → Am_M → Prop) : Nat → List Am_Row → Nat → Am_L → List Am_V → Am_M → Prop
  | 0, _, pc, ls, st, M => am_At Γ d n pc ls st M K
  | _ + 1, [], _, _, _, _ => False
  | f + 1, r :: rs, pc, ls, st, M => bif Nat.beq r.1 pc then am_step Γ d n K (fun rs pc ls st M => bif am_mem pc stops then am_At Γ d n pc ls st M K else am_vc Γ d n stops K f rs pc ls st M) r rs ls st M else False
