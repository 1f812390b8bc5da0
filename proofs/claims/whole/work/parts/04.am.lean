/-! the abstract machine: worlds, contracts, steps -/
def am_ent (Γ : Am_G) (M : Am_M) (e p : Nat) : va_E := match am_shape p with
  | some (.inl (0, n, _)) => .inl (Γ.2.1.1, n, .inl (fun i => Int32.ofInt (M.1 e p i)))
  | some (.inl (1, n, _)) => .inl (Γ.2.1.2.1, n, .inl (fun i => Int32.ofInt (M.1 e p i)))
  | some (.inl (_, n, b)) => .inl (Γ.2.1.2.2, n, .inr (.inr (.inr (.inr (fun i => some (Γ.2.2.1 (b + i) 0))))))
  | some (.inr (ci, fs)) => .inr (ci, fs.mapIdx (fun k f => am_c Γ.2.2.1 (am_fv M e p k f)))
  | none => .inr (0, [])
def am_world (Γ : Am_G) (M : Am_M) : va_W := am_ids.map (fun c => (Γ.2.2.1 c.1 c.2, am_ent Γ M c.1 c.2))
def am_tys (Γ : Am_G) : List (ClassId × FieldType) := [(Γ.2.1.1, .int), (Γ.2.1.2.1, .boolean), (Γ.2.1.2.2, .object "RaisedArms$Evening")]
def am_A (Γ : Am_G) : Nat → Prop := fun q => ∃ c ∈ am_ids, q = Γ.2.2.1 c.1 c.2
def am_okv : Am_V → Prop
  | .inr (.inr q) => q ∈ am_ids ∨ (q.2 = 99 ∧ q.1 < 10)
  | _ => True
def am_okr (ρ : Nat → Nat → Nat) : Prop := ∀ c ∈ am_ids, ∀ c' ∈ am_ids, ρ c.1 c.2 = ρ c'.1 c'.2 → c = c'
/-- words that hold, but that the kit doesn't carry over a call by itself -/
def am_nest : List Cond := [.methodLinkNest "RaisedArms$Hall" 41 ⟨"RaisedArms", "place", "(II)I"⟩ "RaisedArms", .methodLinkNest "RaisedArms$Vote" 54 ⟨"RaisedArms", "place", "(II)I"⟩ "RaisedArms", .methodLinkNest "RaisedArms$Foresight" 178 ⟨"RaisedArms", "place", "(II)I"⟩ "RaisedArms", .methodLinkNest "RaisedArms$Hall" 88 ⟨"RaisedArms", "isCarried", "(III)Z"⟩ "RaisedArms", .methodLinkNest "RaisedArms$Vote" 124 ⟨"RaisedArms", "isCarried", "(III)Z"⟩ "RaisedArms", .methodLinkNest "RaisedArms$Foresight" 106 ⟨"RaisedArms", "isCarried", "(III)Z"⟩ "RaisedArms", .castable "RaisedArms$Watch" "RaisedArms$Plain", .declares ⟨"RaisedArms$Voter", "wish", "(IIII)I"⟩]
def am_nc : List (String × String) := [("RaisedArms$Plain", "RaisedArms$Watch"), ("RaisedArms$Plain", "RaisedArms$Stout"), ("RaisedArms$Plain", "RaisedArms$Told"), ("RaisedArms$Watch", "RaisedArms$Stout"), ("RaisedArms$Watch", "RaisedArms$Told"), ("RaisedArms$Stout", "RaisedArms$Plain"), ("RaisedArms$Stout", "RaisedArms$Watch"), ("RaisedArms$Stout", "RaisedArms$Told"), ("RaisedArms$Told", "RaisedArms$Plain"), ("RaisedArms$Told", "RaisedArms$Watch"), ("RaisedArms$Told", "RaisedArms$Stout")]
def am_stx : List String := ["plain", "watch", "stout", "told", "matter", "for", "against", "counts", "hold", "hall"]
def am_slen : List Nat := am_stx.map (fun t => t.length)
def am_sbyt : List (List Int32) := am_stx.map (fun t => t.toList.map (fun c => Int32.ofNat c.toNat))
def am_Str (Γ : Am_G) (U : State) (H : Heap) : Prop := vk_S 10 am_slen am_sbyt (fun w => Γ.2.2.1 w 99) Γ.2.2.2 (am_A Γ) U H ∧ (∀ w, w < 10 → vk_R "RaisedArms$Text" (90 + 2 * w) (am_stx.getD w "") (Γ.2.2.1 w 99) U) ∧ va_Z "java/lang/String" "COMPACT_STRINGS" "Z" (.int 1) (am_A Γ) U H ∧ va_Zq "jdk/internal/util/Preconditions" "SIOOBE_FORMATTER" "Ljava/util/function/BiFunction;" (am_A Γ) U H
def am_Fix (Γ : Am_G) (U : State) (H : Heap) : Prop := va_K Γ.1 vwCl (am_tys Γ) U ∧ (∀ w ∈ am_nest, va_Nw w U) ∧ (∀ x ∈ am_nc, va_Nc x.1 x.2 U) ∧ am_okr Γ.2.2.1 ∧ am_Str Γ U H
def am_ws (n : Nat) : List Cond := .code (am_mi n).1 (am_mi n).2.1 (am_mi n).2.2.1 (am_mi n).2.2.2.1 :: am_tbl
/-- a method's end -/
def am_Q (Γ : Am_G) (K : Option Am_V → Am_M → Prop) : Array Value → State → Outcome → State → Prop := fun _ st oc t => (∃ (r : Option Am_V) (M' : Am_M), oc = .returned (r.map (am_c Γ.2.2.1)) ∧ K r M' ∧ (∀ v, r = some v → am_okv v) ∧ va_P Γ.1 vwCl (am_world Γ M') t.heap ∧ am_Fix Γ t t.heap) ∧ va_F (am_A Γ) st t
/-- A CONTRACT: from memory M, with these arguments, method n answers r and leaves M', with K r M' -/
def am_Ev (Γ : Am_G) (d n : Nat) (as : List Am_V) (M : Am_M) (K : Option Am_V → Am_M → Prop) : Prop := ∀ l : Launch, Met l (am_mi n).1 (am_ws n) (am_room d) (va_Pc (as.map (am_c Γ.2.2.1)) (fun U => (∀ v ∈ as, am_okv v) ∧ va_P Γ.1 vwCl (am_world Γ M) U.heap ∧ am_Fix Γ U U.heap)) (am_Q Γ K) 0 0 (am_A Γ)
def am_Loc (ρ : Nat → Nat → Nat) (nL : Nat) (lr : Array Slot) (ls : Am_L) : Prop := lr.size = nL ∧ lv_wf lr ∧ ls.length = nL ∧ ∀ (i : Nat) (v : Am_V), am_nth ls i = some (some v) → am_okv v ∧ lr[i]? = some (.val (am_c ρ v))
-- what the tables say
def am_flok (x : Nat × Nat × Nat × Nat) : Prop := ∃ q : vw_C, vwCl[x.2.2.1]? = some q ∧ x.2.2.2 < q.2.2 ∧ Cond.fieldLink (am_cn x.1) x.2.1 (q.2.1 x.2.2.2).1 (q.2.1 x.2.2.2).2.1 (q.2.1 x.2.2.2).2.2.1 ∈ am_tbl
def am_mlok (x : Nat × Nat × Nat × Nat) : Prop := match x.2.2.2 with
  | 0 => Cond.methodLink (am_cn x.1) x.2.1 (am_mi x.2.2.1).1 ∈ am_tbl ∧ Cond.instanceMethod (am_mi x.2.2.1).1 ∈ am_tbl ∧ Cond.selects (am_mi x.2.2.1).1.cls (am_mi x.2.2.1).1 (am_mi x.2.2.1).1 ∈ am_tbl ∧ Cond.initialized (am_mi x.2.2.1).1.cls ∈ am_tbl
  | 1 => Cond.methodLink (am_cn x.1) x.2.1 (am_mi x.2.2.1).1 ∈ am_tbl ∧ Cond.static (am_mi x.2.2.1).1 ∈ am_tbl ∧ Cond.initialized (am_mi x.2.2.1).1.cls ∈ am_tbl
  | _ => Cond.methodLinkNest (am_cn x.1) x.2.1 (am_mi x.2.2.1).1 "RaisedArms" ∈ am_nest ∧ Cond.static (am_mi x.2.2.1).1 ∈ am_tbl ∧ Cond.initialized (am_mi x.2.2.1).1.cls ∈ am_tbl
def am_clok (x : Nat × Nat × Int) : Prop := Cond.constantLong (am_cn x.1) x.2.1 (Int64.ofInt x.2.2) ∈ am_tbl
def am_jname (a : Nat) : MethodName := match a with
  | 900 => Lib.Math.min.name
  | 901 => Lib.Math.max.name
  | 902 => Lib.Math.abs.name
  | _ => arraycopyName
def am_jlok (x : Nat × Nat × Nat) : Prop := Cond.methodLink (am_cn x.1) x.2.1 (am_jname x.2.2) ∈ am_tbl
/-- a row's operands, as the tables have them -/
def am_lnk (oc : Nat) (r : Am_Row) : Bool := match r.2.1 with
  | .getfield idx => am_fl.elem (oc, idx, r.2.2.2.1, r.2.2.2.2.1)
  | .putfield idx => am_fl.elem (oc, idx, r.2.2.2.1, r.2.2.2.2.1) && (match vwCl[r.2.2.2.1]? with
    | some q => !(q.2.1 r.2.2.2.2.1).2.2.2
    | none => false)
  | .ldc2_w idx => am_cl.elem (oc, idx, r.2.2.2.2.2)
  | .bipush c => decide ((Int8.ofInt c).toInt32 = Int32.ofInt c)
  | .sipush c => decide ((Int16.ofInt c).toInt32 = Int32.ofInt c)
  | .invokevirtual idx => (900 ≤ r.2.2.2.1) || (am_ml.elem (oc, idx, r.2.2.2.1, 0) && decide ((vwCl[r.2.2.2.2.2.toNat]?).map (fun q => q.1) = some (am_mi r.2.2.2.1).1.cls) && decide ((parseMethodDescriptor (am_mi r.2.2.2.1).1.desc).map (fun d => d.parameters.length) = some r.2.2.2.2.1))
  | .invokestatic idx => (bif Nat.ble 900 r.2.2.2.1 then am_jl.elem (oc, idx, r.2.2.2.1) else ((am_ml.elem (oc, idx, r.2.2.2.1, 1) && decide ((am_mi r.2.2.2.1).1.cls = am_cn oc)) || am_ml.elem (oc, idx, r.2.2.2.1, 2)) && decide ((parseMethodDescriptor (am_mi r.2.2.2.1).1.desc).map (fun d => d.parameters.length) = some r.2.2.2.2.1))
  | _ => true
def am_len : Instr → Nat
  | .bipush _ => 2
  | .iload _ => 2
  | .istore _ => 2
  | .aload _ => 2
  | .astore _ => 2
  | .ldc _ => 2
  | .sipush _ => 3
  | .ldc2_w _ => 3
  | .iinc _ _ => 3
  | .if_icmp _ _ => 3
  | .ifCond _ _ => 3
  | .goto _ => 3
  | .getfield _ => 3
  | .putfield _ => 3
  | .invokevirtual _ => 3
  | .invokestatic _ => 3
  | .invokespecial _ => 3
  | .instanceof _ => 3
  | _ => 1
def am_lenok (r : Am_Row) : Bool := match r.2.1 with
  | .tableswitch _ _ _ _ => true
  | i => Nat.beq r.2.2.1 (am_len i)
def am_chk (cc : ByteArray) (oc : Nat) (rs : List Am_Row) : Bool := rs.all (fun r => decide (decode cc r.1 = .ok (r.2.1, r.2.2.1)) && (am_lnk oc r && am_lenok r))
def am_miok (n : Nat) : Prop := Cond.code (am_mi n).1 (am_mi n).2.1 (am_mi n).2.2.1 (am_mi n).2.2.2.1 ∈ am_tbl ∧ Cond.initialized (am_mi n).1.cls ∈ am_tbl ∧ (plainName (am_mi n).1.cls = true ∧ (am_mi n).1.cls ≠ "java/lang/invoke/MethodHandle" ∧ (am_mi n).1.cls ≠ "java/lang/invoke/VarHandle" ∧ am_cn (am_mi n).2.2.2.2.1 = (am_mi n).1.cls ∧ (am_mi n).2.2.1 ≤ 60) ∧ am_chk (am_mi n).2.1 (am_mi n).2.2.2.2.1 (am_mi n).2.2.2.2.2 = true
def am_Ctx (Γ : Am_G) (n : Nat) (p : Program) (s : State) (m : MethodId) (args : Array Value) (meth : Method) (c : Code) : Prop := p.tables.exec = Jvm.exec ∧ c.code = (am_mi n).2.1 ∧ meth.sig.returnType = (am_mi n).2.2.2.1 ∧ c.maxLocals = (am_mi n).2.2.1 ∧ s.vm.findClass (am_cn (am_mi n).2.2.2.2.1) = some m.cls ∧ (∀ w ∈ am_ws n, w.before args s = true) ∧ meth.locks = false ∧ am_Fix Γ s s.heap ∧ am_miok n
/-- the machine, in method n at pc, with these locals, this stack, this memory, comes to its end with K -/
def am_At (Γ : Am_G) (d n pc : Nat) (ls : Am_L) (st : List Am_V) (M : Am_M) (K : Option Am_V → Am_M → Prop) : Prop :=
  ∀ (p : Program) (l : Launch) (e : Env) (s : State) (m : MethodId) (args : Array Value) (below : List Frame) (meth : Method) (c : Code) (H : Heap) (locs : List Loc) (lr : Array Slot),
    am_Ctx Γ n p s m args meth c → (∀ v ∈ st, am_okv v) → am_Loc Γ.2.2.1 (am_mi n).2.2.1 lr ls → va_P Γ.1 vwCl (am_world Γ M) H → va_S (am_A Γ) s.heap H locs →
    W p l e (am_room d) s m args below meth c H locs 0 0 (MQ below (am_Q Γ K) args s 0 0 (am_A Γ)) (F0 m pc lr (st.map (am_c Γ.2.2.1)))
def am_callk (Γ : Am_G) (d n : Nat) (as : List Am_V) (M : Am_M) (k : Option Am_V → Am_M → Prop) : Prop := ∃ (d' : Nat) (K' : Option Am_V → Am_M → Prop), d' + 1 ≤ d ∧ am_Ev Γ d' n as M K' ∧ ∀ r M', K' r M' → k r M'
/-- a cell's shape, held against the classes -/
def am_fchk (f : Am_F) (desc : String) : Bool := match f with
  | .inl 0 => decide (parseFieldDescriptor desc = some .int)
  | .inl 1 => decide (parseFieldDescriptor desc = some .boolean)
  | .inl 2 => decide (parseFieldDescriptor desc = some .long)
  | .inl _ => false
  | .inr _ => true
def am_shchk (p : Nat) : Bool := match am_shape p with
  | some (.inl (ty, len, b)) => Nat.ble ty 2 && Nat.blt len 1000 && (Nat.blt ty 2 || (List.range len).all (fun i => am_ids.elem (b + i, 0)))
  | some (.inr (ci, fs)) => (match vwCl[ci]? with
    | some q => Nat.beq fs.length q.2.2 && (List.range fs.length).all (fun k => match am_nth fs k with
      | some f => am_fchk f (q.2.1 k).2.2.1
      | none => false)
    | none => false)
  | none => true
def am_idchk (c : Nat × Nat) : Bool := match am_shape c.2 with
  | some (.inr (_, fs)) => fs.all (fun f => match f with
    | .inr q => am_ids.elem (am_own c.1 q.1, q.2)
    | .inl 2 => Nat.beq c.1 0 && Nat.beq c.2 41
    | _ => true)
  | some _ => true
  | none => false
