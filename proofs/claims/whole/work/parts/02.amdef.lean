/-! the abstract machine: its values, its memory, its rows -/
abbrev Am_V : Type := Int ⊕ (Int64 ⊕ (Nat × Nat))
abbrev Am_M : Type := (Nat → Nat → Nat → Int) × Int64
abbrev Am_L : Type := List (Option Am_V)
abbrev Am_Row : Type := Nat × Instr × Nat × Nat × Nat × Int
abbrev Am_Mi : Type := MethodName × ByteArray × Nat × Option FieldType × Nat × List Am_Row
abbrev Am_F : Type := Nat ⊕ (Nat × Nat)
abbrev Am_Sh : Type := (Nat × Nat × Nat) ⊕ (Nat × List Am_F)
abbrev Am_G : Type := va_G × (ClassId × ClassId × ClassId) × (Nat → Nat → Nat) × (Nat → Nat)
/-- the words that every method is given -/
def am_tbl : List Cond := lw_tbl.filter goodWord
theorem am_in {w : Cond} (i : Nat) (h : lw_tbl[i]? = some w) (hg : goodWord w = true) : w ∈ am_tbl := List.mem_filter.mpr ⟨List.mem_of_getElem? h, hg⟩
theorem am_ins {ws : List Cond} (ps : List Nat) (hp : ws = ps.filterMap (fun i => lw_tbl[i]?)) (h : ws.all goodWord = true) : ∀ w ∈ ws, w ∈ am_tbl := by
  intro w hw
  have h1 := List.all_eq_true.mp h w hw
  rw [hp] at hw
  obtain ⟨i, -, hi⟩ := List.mem_filterMap.mp hw
  exact am_in i hi h1
theorem am_an {α : Type} {P : α → Prop} : ∀ x ∈ ([] : List α), P x := fun _ h => absurd h List.not_mem_nil
theorem am_ac {α : Type} {P : α → Prop} {a : α} {l : List α} (h : P a) (t : ∀ x ∈ l, P x) : ∀ x ∈ a :: l, P x := List.forall_mem_cons.mpr ⟨h, t⟩
/-- the range of an int -/
def am_R (x : Int) : Prop := -2147483648 ≤ x ∧ x ≤ 2147483647
def am_set (M : Am_M) (e p k : Nat) (v : Int) : Am_M := (fun e' p' k' => if k' = k ∧ p' = p ∧ e' = e then v else M.1 e' p' k', M.2)
def am_cpy (M : Am_M) (e1 p1 e2 p2 n : Nat) : Am_M := (fun e p k => if p = p2 ∧ e = e2 ∧ k < n then M.1 e1 p1 k else M.1 e p k, M.2)
def am_and (x y : Int) : Int := (Int32.ofInt x &&& Int32.ofInt y).toInt
def am_or (x y : Int) : Int := (Int32.ofInt x ||| Int32.ofInt y).toInt
def am_xor (x y : Int) : Int := (Int32.ofInt x ^^^ Int32.ofInt y).toInt
def am_shl (x y : Int) : Int := (Int32.ofInt x <<< (Int32.ofInt y &&& 31)).toInt
def am_shr (x y : Int) : Int := (Int32.ofInt x >>> (Int32.ofInt y &&& 31)).toInt
def am_nth {α : Type} : List α → Nat → Option α
  | [], _ => none
  | a :: _, 0 => some a
  | _ :: l, n + 1 => am_nth l n
def am_lset : Am_L → Nat → Am_V → Am_L
  | [], _, _ => []
  | _ :: l, 0, v => some v :: l
  | a :: l, n + 1, v => a :: am_lset l n v
/-- no long ends where i begins -/
def am_nolong (ls : Am_L) : Nat → Bool
  | 0 => true
  | j + 1 => match am_nth ls j with
    | some (some (.inr (.inl _))) => false
    | _ => true
def am_from : List Am_Row → Nat → List Am_Row
  | [], _ => []
  | r :: rs, pc => bif Nat.beq r.1 pc then r :: rs else am_from rs pc
def am_mem (pc : Nat) : List Nat → Bool
  | [] => false
  | x :: l => bif Nat.beq x pc then true else am_mem pc l
def am_cat : List Am_V → Nat
  | [] => 0
  | .inl _ :: l => am_cat l + 1
  | .inr (.inl _) :: l => am_cat l + 2
  | .inr (.inr _) :: l => am_cat l + 1
def am_take : Nat → List Am_V → List Am_V → Option (List Am_V × List Am_V)
  | 0, acc, st => some (acc, st)
  | n + 1, acc, v :: st => am_take n (v :: acc) st
  | _ + 1, _, [] => none
def am_jmp (pc : Nat) (off : Int) : Nat := ((pc : Int) + off).toNat
def am_br (c a b : Prop) : Prop := (c → a) ∧ (¬ c → b)
def am_own (e : Nat) : Nat → Nat
  | 0 => e
  | k + 1 => k
/-- a field's value -/
def am_fv (M : Am_M) (e p k : Nat) : Am_F → Am_V
  | .inl 2 => .inr (.inl M.2)
  | .inl _ => .inl (M.1 e p k)
  | .inr q => .inr (.inr (am_own e q.1, q.2))
def am_c (ρ : Nat → Nat → Nat) : Am_V → Value
  | .inl x => .int (Int32.ofInt x)
  | .inr (.inl y) => .long y
  | .inr (.inr q) => .ref (ρ q.1 q.2)
def am_room (d : Nat) : Room := { frames := d, cells := 0, slots := 0, locals := 100 * d }
/-- locals at a method's entry -/
def am_ent0 : List Am_V → Am_L
  | [] => []
  | .inr (.inl y) :: l => some (.inr (.inl y)) :: none :: am_ent0 l
  | v :: l => some v :: am_ent0 l
def am_pad : Am_L → Nat → Am_L
  | [], n => List.replicate n none
  | a :: l, n + 1 => a :: am_pad l n
  | _ :: _, 0 => []
def am_entry (as : List Am_V) (n : Nat) : Am_L := am_pad (am_ent0 as) n
