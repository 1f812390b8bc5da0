/-! the abstract machine: each row is the machine's -/
abbrev am_rows (n : Nat) : List Am_Row := (am_mi n).2.2.2.2.2
theorem am_row {n : Nat} {r : Am_Row} (ho : am_miok n) (hr : r ∈ am_rows n) : decode (am_mi n).2.1 r.1 = .ok (r.2.1, r.2.2.1) ∧ am_lnk (am_mi n).2.2.2.2.1 r = true ∧ am_lenok r = true := by
  have h := List.all_eq_true.mp ho.2.2.2 r hr
  simp only [Bool.and_eq_true, decide_eq_true_eq] at h
  exact h
theorem am_dec {n len : Nat} {r : Am_Row} {i : Instr} (ho : am_miok n) (hr : r ∈ am_rows n) (hi : r.2.1 = i) (hb : am_lenok r = true → r.2.2.1 = len) : decode (am_mi n).2.1 r.1 = .ok (i, len) := by
  have h := am_row ho hr
  rw [h.1, hi, hb h.2.2]
theorem am_len_of {r : Am_Row} {i : Instr} {len : Nat} (hl : (match i with | .tableswitch _ _ _ _ => true | i => Nat.beq r.2.2.1 (am_len i)) = true → r.2.2.1 = len) (hi : r.2.1 = i) : am_lenok r = true → r.2.2.1 = len := by
  intro h
  unfold am_lenok at h
  rw [hi] at h
  exact hl h
theorem am_o1 {v : Am_V} {st : List Am_V} (h : am_okv v) (t : ∀ x ∈ st, am_okv x) : ∀ x ∈ v :: st, am_okv x := List.forall_mem_cons.mpr ⟨h, t⟩
theorem am_ot {v : Am_V} {st : List Am_V} (h : ∀ x ∈ v :: st, am_okv x) : ∀ x ∈ st, am_okv x := (List.forall_mem_cons.mp h).2
theorem am_oh {v : Am_V} {st : List Am_V} (h : ∀ x ∈ v :: st, am_okv x) : am_okv v := (List.forall_mem_cons.mp h).1
def am_prs (ρ : Nat → Nat → Nat) (ls : Am_L) : List (Nat × Value) := (List.range ls.length).filterMap (fun i => match am_nth ls i with
  | some (some v) => some (i, am_c ρ v)
  | _ => none)
theorem am_prs_in {ρ : Nat → Nat → Nat} {ls : Am_L} {i : Nat} {v : Am_V} (h : am_nth ls i = some (some v)) : (i, am_c ρ v) ∈ am_prs ρ ls := by
  have hl : i < ls.length := by rw [am_nth_eq] at h; exact (List.getElem?_eq_some_iff.mp h).1
  exact List.mem_filterMap.mpr ⟨i, List.mem_range.mpr hl, by rw [h]⟩
theorem am_prs_of {ρ : Nat → Nat → Nat} {ls : Am_L} {q : Nat × Value} (h : q ∈ am_prs ρ ls) : ∃ v, am_nth ls q.1 = some (some v) ∧ q.2 = am_c ρ v := by
  obtain ⟨i, -, hi⟩ := List.mem_filterMap.mp h
  split at hi
  · rename_i v hv
    cases hi
    exact ⟨v, hv, rfl⟩
  · cases hi
theorem am_loc_has {ρ : Nat → Nat → Nat} {nL : Nat} {lr : Array Slot} {ls : Am_L} (h : am_Loc ρ nL lr ls) : lv_has lr nL (am_prs ρ ls) := ⟨h.1, h.2.1, fun q hq => by
  obtain ⟨v, hv, he⟩ := am_prs_of hq
  rw [he]
  exact (h.2.2.2 _ _ hv).2⟩
theorem am_cat_c {ρ : Nat → Nat → Nat} {v : Am_V} (h : ∀ y, v ≠ .inr (.inl y)) : (am_c ρ v).category = 1 := by
  match v, h with
  | .inl x, _ => rfl
  | .inr (.inl y), h => exact absurd rfl (h y)
  | .inr (.inr q), _ => rfl
theorem am_nolong_ne {ls : Am_L} {j : Nat} {v : Am_V} (h : am_nolong ls (j + 1) = true) (hv : am_nth ls j = some (some v)) : ∀ y, v ≠ .inr (.inl y) := by
  intro y e
  subst e
  simp [am_nolong, hv] at h
theorem am_loc_set {ρ : Nat → Nat → Nat} {nL i : Nat} {lr lr' : Array Slot} {ls : Am_L} {v : Am_V} (h : am_Loc ρ nL lr ls) (hn : am_nolong ls i = true) (hi : i < ls.length) (hv : am_okv v) (h' : lv_has lr' nL ((i, am_c ρ v) :: (am_prs ρ ls).filter (fun q => !(q.1 == i) && !(q.1 + 1 == i && q.2.category == 2)))) : am_Loc ρ nL lr' (am_lset ls i v) := by
  refine ⟨h'.1, h'.2.1, by rw [am_lset_eq, List.length_set]; exact h.2.2.1, fun j w hj => ?_⟩
  rw [am_lset_eq, am_nth_eq, List.getElem?_set] at hj
  by_cases hij : i = j
  · subst hij
    rw [if_pos rfl, if_pos hi] at hj
    cases hj
    exact ⟨hv, h'.2.2 _ List.mem_cons_self⟩
  · rw [if_neg hij, ← am_nth_eq] at hj
    refine ⟨(h.2.2.2 j w hj).1, h'.2.2 (j, am_c ρ w) (List.mem_cons_of_mem _ (List.mem_filter.mpr ⟨am_prs_in hj, ?_⟩))⟩
    have h1 : (j == i) = false := by simpa using Ne.symm hij
    by_cases h2 : j + 1 = i
    · subst h2
      have := am_cat_c (ρ := ρ) (am_nolong_ne hn hj)
      simp [this]
    · have h3 : (j + 1 == i) = false := by simpa using h2
      simp [h1, h3]

theorem am_s_iconst {Γ : Am_G} {d n : Nat} {K : Option Am_V → Am_M → Prop} {r : Am_Row} {ls : Am_L} {st : List Am_V} {M : Am_M} {x : Int} (hr : r ∈ am_rows n) (hi : r.2.1 = .iconst x) (kk : am_At Γ d n (r.1 + 1) ls (.inl x :: st) M K) : am_At Γ d n r.1 ls st M K := by
  intro p l e s m args below meth c H locs lr C hst hl hP hS
  have ho := C.2.2.2.2.2.2.2.2
  have hd := am_dec (len := 1) ho hr hi (am_len_of (by intro h; exact Nat.eq_of_beq_eq_true h) hi)
  exact lv_iconst C.1 C.2.1 hd rfl (kk p l e s m args below meth c H locs lr C (am_o1 trivial hst) hl hP hS)
theorem am_s_bipush {Γ : Am_G} {d n : Nat} {K : Option Am_V → Am_M → Prop} {r : Am_Row} {ls : Am_L} {st : List Am_V} {M : Am_M} {x : Int} (hr : r ∈ am_rows n) (hi : r.2.1 = .bipush x) (kk : am_At Γ d n (r.1 + 2) ls (.inl x :: st) M K) : am_At Γ d n r.1 ls st M K := by
  intro p l e s m args below meth c H locs lr C hst hl hP hS
  have ho := C.2.2.2.2.2.2.2.2
  have hd := am_dec (len := 2) ho hr hi (am_len_of (by intro h; exact Nat.eq_of_beq_eq_true h) hi)
  have hc := (am_row ho hr).2.1
  unfold am_lnk at hc
  rw [hi] at hc
  exact lv_bipush C.1 C.2.1 hd (of_decide_eq_true hc) (kk p l e s m args below meth c H locs lr C (am_o1 trivial hst) hl hP hS)
theorem am_s_sipush {Γ : Am_G} {d n : Nat} {K : Option Am_V → Am_M → Prop} {r : Am_Row} {ls : Am_L} {st : List Am_V} {M : Am_M} {x : Int} (hr : r ∈ am_rows n) (hi : r.2.1 = .sipush x) (kk : am_At Γ d n (r.1 + 3) ls (.inl x :: st) M K) : am_At Γ d n r.1 ls st M K := by
  intro p l e s m args below meth c H locs lr C hst hl hP hS
  have ho := C.2.2.2.2.2.2.2.2
  have hd := am_dec (len := 3) ho hr hi (am_len_of (by intro h; exact Nat.eq_of_beq_eq_true h) hi)
  have hc := (am_row ho hr).2.1
  unfold am_lnk at hc
  rw [hi] at hc
  exact lv_sipush C.1 C.2.1 hd (of_decide_eq_true hc) (kk p l e s m args below meth c H locs lr C (am_o1 trivial hst) hl hP hS)
theorem am_s_lconst {Γ : Am_G} {d n : Nat} {K : Option Am_V → Am_M → Prop} {r : Am_Row} {ls : Am_L} {st : List Am_V} {M : Am_M} {x : Fin 2} (hr : r ∈ am_rows n) (hi : r.2.1 = .lconst x) (kk : am_At Γ d n (r.1 + 1) ls (.inr (.inl (Int64.ofNat x.val)) :: st) M K) : am_At Γ d n r.1 ls st M K := by
  intro p l e s m args below meth c H locs lr C hst hl hP hS
  have ho := C.2.2.2.2.2.2.2.2
  have hd := am_dec (len := 1) ho hr hi (am_len_of (by intro h; exact Nat.eq_of_beq_eq_true h) hi)
  exact lv_lconst C.1 C.2.1 hd rfl (kk p l e s m args below meth c H locs lr C (am_o1 trivial hst) hl hP hS)
theorem am_s_ldc2 {Γ : Am_G} {d n : Nat} {K : Option Am_V → Am_M → Prop} {r : Am_Row} {ls : Am_L} {st : List Am_V} {M : Am_M} {x : Nat} (hr : r ∈ am_rows n) (hi : r.2.1 = .ldc2_w x) (kk : am_At Γ d n (r.1 + 3) ls (.inr (.inl (Int64.ofInt r.2.2.2.2.2)) :: st) M K) : am_At Γ d n r.1 ls st M K := by
  intro p l e s m args below meth c H locs lr C hst hl hP hS
  have ho := C.2.2.2.2.2.2.2.2
  have hd := am_dec (len := 3) ho hr hi (am_len_of (by intro h; exact Nat.eq_of_beq_eq_true h) hi)
  have hc := (am_row ho hr).2.1
  unfold am_lnk at hc
  rw [hi] at hc
  have hm : (((am_mi n).2.2.2.2.1, x, r.2.2.2.2.2) : Nat × Nat × Int) ∈ am_cl := by simpa using hc
  exact lv_ldc2 C.1 C.2.1 C.2.2.2.2.1 (C.2.2.2.2.2.1 _ (List.mem_cons_of_mem _ (am_cl_ok _ hm))) hd (kk p l e s m args below meth c H locs lr C (am_o1 trivial hst) hl hP hS)
theorem am_s_iload_n {Γ : Am_G} {d n : Nat} {K : Option Am_V → Am_M → Prop} {r : Am_Row} {ls : Am_L} {st : List Am_V} {M : Am_M} {j : Fin 4} {x : Int} (hr : r ∈ am_rows n) (hi : r.2.1 = .iload_n j) (hn : am_nth ls j.val = some (some (.inl x))) (kk : am_At Γ d n (r.1 + 1) ls (.inl x :: st) M K) : am_At Γ d n r.1 ls st M K := by
  intro p l e s m args below meth c H locs lr C hst hl hP hS
  have ho := C.2.2.2.2.2.2.2.2
  have hd := am_dec (len := 1) ho hr hi (am_len_of (by intro h; exact Nat.eq_of_beq_eq_true h) hi)
  exact lv_iload_n C.1 C.2.1 hd rfl (hl.2.2.2 _ _ hn).2 (kk p l e s m args below meth c H locs lr C (am_o1 (hl.2.2.2 _ _ hn).1 hst) hl hP hS)
theorem am_s_lload_n {Γ : Am_G} {d n : Nat} {K : Option Am_V → Am_M → Prop} {r : Am_Row} {ls : Am_L} {st : List Am_V} {M : Am_M} {j : Fin 4} {x : Int64} (hr : r ∈ am_rows n) (hi : r.2.1 = .lload_n j) (hn : am_nth ls j.val = some (some (.inr (.inl x)))) (kk : am_At Γ d n (r.1 + 1) ls (.inr (.inl x) :: st) M K) : am_At Γ d n r.1 ls st M K := by
  intro p l e s m args below meth c H locs lr C hst hl hP hS
  have ho := C.2.2.2.2.2.2.2.2
  have hd := am_dec (len := 1) ho hr hi (am_len_of (by intro h; exact Nat.eq_of_beq_eq_true h) hi)
  exact lv_lload_n C.1 C.2.1 hd rfl (hl.2.2.2 _ _ hn).2 (kk p l e s m args below meth c H locs lr C (am_o1 (hl.2.2.2 _ _ hn).1 hst) hl hP hS)
theorem am_s_aload_n {Γ : Am_G} {d n : Nat} {K : Option Am_V → Am_M → Prop} {r : Am_Row} {ls : Am_L} {st : List Am_V} {M : Am_M} {j : Fin 4} {q : Nat × Nat} (hr : r ∈ am_rows n) (hi : r.2.1 = .aload_n j) (hn : am_nth ls j.val = some (some (.inr (.inr q)))) (kk : am_At Γ d n (r.1 + 1) ls (.inr (.inr q) :: st) M K) : am_At Γ d n r.1 ls st M K := by
  intro p l e s m args below meth c H locs lr C hst hl hP hS
  have ho := C.2.2.2.2.2.2.2.2
  have hd := am_dec (len := 1) ho hr hi (am_len_of (by intro h; exact Nat.eq_of_beq_eq_true h) hi)
  exact lv_aload_n C.1 C.2.1 hd rfl (hl.2.2.2 _ _ hn).2 (kk p l e s m args below meth c H locs lr C (am_o1 (hl.2.2.2 _ _ hn).1 hst) hl hP hS)
theorem am_s_iload {Γ : Am_G} {d n : Nat} {K : Option Am_V → Am_M → Prop} {r : Am_Row} {ls : Am_L} {st : List Am_V} {M : Am_M} {j : Nat} {x : Int} (hr : r ∈ am_rows n) (hi : r.2.1 = .iload j) (hn : am_nth ls j = some (some (.inl x))) (kk : am_At Γ d n (r.1 + 2) ls (.inl x :: st) M K) : am_At Γ d n r.1 ls st M K := by
  intro p l e s m args below meth c H locs lr C hst hl hP hS
  have ho := C.2.2.2.2.2.2.2.2
  have hd := am_dec (len := 2) ho hr hi (am_len_of (by intro h; exact Nat.eq_of_beq_eq_true h) hi)
  exact lv_iload C.1 C.2.1 hd (hl.2.2.2 _ _ hn).2 (kk p l e s m args below meth c H locs lr C (am_o1 (hl.2.2.2 _ _ hn).1 hst) hl hP hS)
theorem am_s_aload {Γ : Am_G} {d n : Nat} {K : Option Am_V → Am_M → Prop} {r : Am_Row} {ls : Am_L} {st : List Am_V} {M : Am_M} {j : Nat} {q : Nat × Nat} (hr : r ∈ am_rows n) (hi : r.2.1 = .aload j) (hn : am_nth ls j = some (some (.inr (.inr q)))) (kk : am_At Γ d n (r.1 + 2) ls (.inr (.inr q) :: st) M K) : am_At Γ d n r.1 ls st M K := by
  intro p l e s m args below meth c H locs lr C hst hl hP hS
  have ho := C.2.2.2.2.2.2.2.2
  have hd := am_dec (len := 2) ho hr hi (am_len_of (by intro h; exact Nat.eq_of_beq_eq_true h) hi)
  exact lv_aload C.1 C.2.1 hd (hl.2.2.2 _ _ hn).2 (kk p l e s m args below meth c H locs lr C (am_o1 (hl.2.2.2 _ _ hn).1 hst) hl hP hS)
theorem am_s_istore_n {Γ : Am_G} {d n : Nat} {K : Option Am_V → Am_M → Prop} {r : Am_Row} {ls : Am_L} {st : List Am_V} {M : Am_M} {j : Fin 4} {x : Int} (hr : r ∈ am_rows n) (hi : r.2.1 = .istore_n j) (hn : am_nolong ls j.val = true) (hj : j.val < ls.length) (kk : am_At Γ d n (r.1 + 1) (am_lset ls j.val (.inl x)) st M K) : am_At Γ d n r.1 ls (.inl x :: st) M K := by
  intro p l e s m args below meth c H locs lr C hst hl hP hS
  have ho := C.2.2.2.2.2.2.2.2
  have hd := am_dec (len := 1) ho hr hi (am_len_of (by intro h; exact Nat.eq_of_beq_eq_true h) hi)
  exact lv_istore_n C.1 C.2.1 hd rfl (am_loc_has hl) (by rw [← hl.2.2.1]; exact hj) rfl (fun lr' h' => kk p l e s m args below meth c H locs lr' C (am_ot hst) (am_loc_set hl hn hj (am_oh hst) h') hP hS)
theorem am_s_astore_n {Γ : Am_G} {d n : Nat} {K : Option Am_V → Am_M → Prop} {r : Am_Row} {ls : Am_L} {st : List Am_V} {M : Am_M} {j : Fin 4} {q : Nat × Nat} (hr : r ∈ am_rows n) (hi : r.2.1 = .astore_n j) (hn : am_nolong ls j.val = true) (hj : j.val < ls.length) (kk : am_At Γ d n (r.1 + 1) (am_lset ls j.val (.inr (.inr q))) st M K) : am_At Γ d n r.1 ls (.inr (.inr q) :: st) M K := by
  intro p l e s m args below meth c H locs lr C hst hl hP hS
  have ho := C.2.2.2.2.2.2.2.2
  have hd := am_dec (len := 1) ho hr hi (am_len_of (by intro h; exact Nat.eq_of_beq_eq_true h) hi)
  exact lv_astore_n C.1 C.2.1 hd rfl (am_loc_has hl) (by rw [← hl.2.2.1]; exact hj) rfl (fun lr' h' => kk p l e s m args below meth c H locs lr' C (am_ot hst) (am_loc_set hl hn hj (am_oh hst) h') hP hS)
theorem am_s_istore {Γ : Am_G} {d n : Nat} {K : Option Am_V → Am_M → Prop} {r : Am_Row} {ls : Am_L} {st : List Am_V} {M : Am_M} {j : Nat} {x : Int} (hr : r ∈ am_rows n) (hi : r.2.1 = .istore j) (hn : am_nolong ls j = true) (hj : j < ls.length) (kk : am_At Γ d n (r.1 + 2) (am_lset ls j (.inl x)) st M K) : am_At Γ d n r.1 ls (.inl x :: st) M K := by
  intro p l e s m args below meth c H locs lr C hst hl hP hS
  have ho := C.2.2.2.2.2.2.2.2
  have hd := am_dec (len := 2) ho hr hi (am_len_of (by intro h; exact Nat.eq_of_beq_eq_true h) hi)
  exact lv_istore C.1 C.2.1 hd (am_loc_has hl) (by rw [← hl.2.2.1]; exact hj) rfl (fun lr' h' => kk p l e s m args below meth c H locs lr' C (am_ot hst) (am_loc_set hl hn hj (am_oh hst) h') hP hS)
theorem am_s_astore {Γ : Am_G} {d n : Nat} {K : Option Am_V → Am_M → Prop} {r : Am_Row} {ls : Am_L} {st : List Am_V} {M : Am_M} {j : Nat} {q : Nat × Nat} (hr : r ∈ am_rows n) (hi : r.2.1 = .astore j) (hn : am_nolong ls j = true) (hj : j < ls.length) (kk : am_At Γ d n (r.1 + 2) (am_lset ls j (.inr (.inr q))) st M K) : am_At Γ d n r.1 ls (.inr (.inr q) :: st) M K := by
  intro p l e s m args below meth c H locs lr C hst hl hP hS
  have ho := C.2.2.2.2.2.2.2.2
  have hd := am_dec (len := 2) ho hr hi (am_len_of (by intro h; exact Nat.eq_of_beq_eq_true h) hi)
  exact lv_astore C.1 C.2.1 hd (am_loc_has hl) (by rw [← hl.2.2.1]; exact hj) rfl (fun lr' h' => kk p l e s m args below meth c H locs lr' C (am_ot hst) (am_loc_set hl hn hj (am_oh hst) h') hP hS)
theorem am_s_iinc {Γ : Am_G} {d n : Nat} {K : Option Am_V → Am_M → Prop} {r : Am_Row} {ls : Am_L} {st : List Am_V} {M : Am_M} {j : Nat} {z x : Int} (hr : r ∈ am_rows n) (hi : r.2.1 = .iinc j z) (hx : am_nth ls j = some (some (.inl x))) (hn : am_nolong ls j = true) (kk : am_At Γ d n (r.1 + 3) (am_lset ls j (.inl (x + z))) st M K) : am_At Γ d n r.1 ls st M K := by
  intro p l e s m args below meth c H locs lr C hst hl hP hS
  have ho := C.2.2.2.2.2.2.2.2
  have hd := am_dec (len := 3) ho hr hi (am_len_of (by intro h; exact Nat.eq_of_beq_eq_true h) hi)
  have hj : j < ls.length := by rw [am_nth_eq] at hx; exact (List.getElem?_eq_some_iff.mp hx).1
  obtain ⟨k0, hk0⟩ := List.getElem?_of_mem (am_prs_in (ρ := Γ.2.2.1) hx)
  exact lv_iinc C.1 C.2.1 hd (am_loc_has hl) hk0 (Int32.ofInt_add x z).symm (by rw [← hl.2.2.1]; exact hj) rfl (fun lr' h' => kk p l e s m args below meth c H locs lr' C hst (am_loc_set hl hn hj (v := .inl (x + z)) trivial h') hP hS)
theorem am_s_dup_i {Γ : Am_G} {d n : Nat} {K : Option Am_V → Am_M → Prop} {r : Am_Row} {ls : Am_L} {st : List Am_V} {M : Am_M} {x : Int} (hr : r ∈ am_rows n) (hi : r.2.1 = .dup) (kk : am_At Γ d n (r.1 + 1) ls (.inl x :: .inl x :: st) M K) : am_At Γ d n r.1 ls (.inl x :: st) M K := by
  intro p l e s m args below meth c H locs lr C hst hl hP hS
  have ho := C.2.2.2.2.2.2.2.2
  have hd := am_dec (len := 1) ho hr hi (am_len_of (by intro h; exact Nat.eq_of_beq_eq_true h) hi)
  exact lv_dup C.1 C.2.1 hd rfl (kk p l e s m args below meth c H locs lr C (am_o1 (am_oh hst) hst) hl hP hS)
theorem am_s_dup_a {Γ : Am_G} {d n : Nat} {K : Option Am_V → Am_M → Prop} {r : Am_Row} {ls : Am_L} {st : List Am_V} {M : Am_M} {q : Nat × Nat} (hr : r ∈ am_rows n) (hi : r.2.1 = .dup) (kk : am_At Γ d n (r.1 + 1) ls (.inr (.inr q) :: .inr (.inr q) :: st) M K) : am_At Γ d n r.1 ls (.inr (.inr q) :: st) M K := by
  intro p l e s m args below meth c H locs lr C hst hl hP hS
  have ho := C.2.2.2.2.2.2.2.2
  have hd := am_dec (len := 1) ho hr hi (am_len_of (by intro h; exact Nat.eq_of_beq_eq_true h) hi)
  exact lv_dup C.1 C.2.1 hd rfl (kk p l e s m args below meth c H locs lr C (am_o1 (am_oh hst) hst) hl hP hS)
theorem am_s_dup2 {Γ : Am_G} {d n : Nat} {K : Option Am_V → Am_M → Prop} {r : Am_Row} {ls : Am_L} {st : List Am_V} {M : Am_M} {x : Int} {q : Nat × Nat} (hr : r ∈ am_rows n) (hi : r.2.1 = .dup2) (kk : am_At Γ d n (r.1 + 1) ls (.inl x :: .inr (.inr q) :: .inl x :: .inr (.inr q) :: st) M K) : am_At Γ d n r.1 ls (.inl x :: .inr (.inr q) :: st) M K := by
  intro p l e s m args below meth c H locs lr C hst hl hP hS
  have ho := C.2.2.2.2.2.2.2.2
  have hd := am_dec (len := 1) ho hr hi (am_len_of (by intro h; exact Nat.eq_of_beq_eq_true h) hi)
  exact lv_dup2_11 C.1 C.2.1 hd rfl rfl (kk p l e s m args below meth c H locs lr C (am_o1 trivial (am_o1 (am_oh (am_ot hst)) hst)) hl hP hS)
theorem am_s_pop_i {Γ : Am_G} {d n : Nat} {K : Option Am_V → Am_M → Prop} {r : Am_Row} {ls : Am_L} {st : List Am_V} {M : Am_M} {x : Int} (hr : r ∈ am_rows n) (hi : r.2.1 = .pop) (kk : am_At Γ d n (r.1 + 1) ls st M K) : am_At Γ d n r.1 ls (.inl x :: st) M K := by
  intro p l e s m args below meth c H locs lr C hst hl hP hS
  have ho := C.2.2.2.2.2.2.2.2
  have hd := am_dec (len := 1) ho hr hi (am_len_of (by intro h; exact Nat.eq_of_beq_eq_true h) hi)
  exact lv_pop C.1 C.2.1 hd rfl (kk p l e s m args below meth c H locs lr C (am_ot hst) hl hP hS)
theorem am_s_pop_a {Γ : Am_G} {d n : Nat} {K : Option Am_V → Am_M → Prop} {r : Am_Row} {ls : Am_L} {st : List Am_V} {M : Am_M} {q : Nat × Nat} (hr : r ∈ am_rows n) (hi : r.2.1 = .pop) (kk : am_At Γ d n (r.1 + 1) ls st M K) : am_At Γ d n r.1 ls (.inr (.inr q) :: st) M K := by
  intro p l e s m args below meth c H locs lr C hst hl hP hS
  have ho := C.2.2.2.2.2.2.2.2
  have hd := am_dec (len := 1) ho hr hi (am_len_of (by intro h; exact Nat.eq_of_beq_eq_true h) hi)
  exact lv_pop C.1 C.2.1 hd rfl (kk p l e s m args below meth c H locs lr C (am_ot hst) hl hP hS)
theorem am_s_iadd {Γ : Am_G} {d n : Nat} {K : Option Am_V → Am_M → Prop} {r : Am_Row} {ls : Am_L} {st : List Am_V} {M : Am_M} {x y : Int} (hr : r ∈ am_rows n) (hi : r.2.1 = .iadd) (kk : am_At Γ d n (r.1 + 1) ls (.inl (x + y) :: st) M K) : am_At Γ d n r.1 ls (.inl y :: .inl x :: st) M K := by
  intro p l e s m args below meth c H locs lr C hst hl hP hS
  have ho := C.2.2.2.2.2.2.2.2
  have hd := am_dec (len := 1) ho hr hi (am_len_of (by intro h; exact Nat.eq_of_beq_eq_true h) hi)
  have k2 := kk p l e s m args below meth c H locs lr C (am_o1 trivial (am_ot (am_ot hst))) hl hP hS
  refine lv_iadd C.1 C.2.1 hd ?_
  rw [← Int32.ofInt_add]
  exact k2
theorem am_s_isub {Γ : Am_G} {d n : Nat} {K : Option Am_V → Am_M → Prop} {r : Am_Row} {ls : Am_L} {st : List Am_V} {M : Am_M} {x y : Int} (hr : r ∈ am_rows n) (hi : r.2.1 = .isub) (kk : am_At Γ d n (r.1 + 1) ls (.inl (x - y) :: st) M K) : am_At Γ d n r.1 ls (.inl y :: .inl x :: st) M K := by
  intro p l e s m args below meth c H locs lr C hst hl hP hS
  have ho := C.2.2.2.2.2.2.2.2
  have hd := am_dec (len := 1) ho hr hi (am_len_of (by intro h; exact Nat.eq_of_beq_eq_true h) hi)
  have k2 := kk p l e s m args below meth c H locs lr C (am_o1 trivial (am_ot (am_ot hst))) hl hP hS
  refine lv_isub C.1 C.2.1 hd ?_
  rw [← Int32.ofInt_sub]
  exact k2
theorem am_s_imul {Γ : Am_G} {d n : Nat} {K : Option Am_V → Am_M → Prop} {r : Am_Row} {ls : Am_L} {st : List Am_V} {M : Am_M} {x y : Int} (hr : r ∈ am_rows n) (hi : r.2.1 = .imul) (kk : am_At Γ d n (r.1 + 1) ls (.inl (x * y) :: st) M K) : am_At Γ d n r.1 ls (.inl y :: .inl x :: st) M K := by
  intro p l e s m args below meth c H locs lr C hst hl hP hS
  have ho := C.2.2.2.2.2.2.2.2
  have hd := am_dec (len := 1) ho hr hi (am_len_of (by intro h; exact Nat.eq_of_beq_eq_true h) hi)
  have k2 := kk p l e s m args below meth c H locs lr C (am_o1 trivial (am_ot (am_ot hst))) hl hP hS
  refine lv_imul C.1 C.2.1 hd ?_
  rw [← Int32.ofInt_mul]
  exact k2
theorem am_s_iand {Γ : Am_G} {d n : Nat} {K : Option Am_V → Am_M → Prop} {r : Am_Row} {ls : Am_L} {st : List Am_V} {M : Am_M} {x y : Int} (hr : r ∈ am_rows n) (hi : r.2.1 = .iand) (kk : am_At Γ d n (r.1 + 1) ls (.inl (am_and x y) :: st) M K) : am_At Γ d n r.1 ls (.inl y :: .inl x :: st) M K := by
  intro p l e s m args below meth c H locs lr C hst hl hP hS
  have ho := C.2.2.2.2.2.2.2.2
  have hd := am_dec (len := 1) ho hr hi (am_len_of (by intro h; exact Nat.eq_of_beq_eq_true h) hi)
  have k2 := kk p l e s m args below meth c H locs lr C (am_o1 trivial (am_ot (am_ot hst))) hl hP hS
  refine lv_iand C.1 C.2.1 hd ?_
  have e1 : Int32.ofInt (am_and x y) = Int32.ofInt x &&& Int32.ofInt y := Int32.ofInt_toInt _
  rw [← e1]
  exact k2
theorem am_s_ior {Γ : Am_G} {d n : Nat} {K : Option Am_V → Am_M → Prop} {r : Am_Row} {ls : Am_L} {st : List Am_V} {M : Am_M} {x y : Int} (hr : r ∈ am_rows n) (hi : r.2.1 = .ior) (kk : am_At Γ d n (r.1 + 1) ls (.inl (am_or x y) :: st) M K) : am_At Γ d n r.1 ls (.inl y :: .inl x :: st) M K := by
  intro p l e s m args below meth c H locs lr C hst hl hP hS
  have ho := C.2.2.2.2.2.2.2.2
  have hd := am_dec (len := 1) ho hr hi (am_len_of (by intro h; exact Nat.eq_of_beq_eq_true h) hi)
  have k2 := kk p l e s m args below meth c H locs lr C (am_o1 trivial (am_ot (am_ot hst))) hl hP hS
  refine lv_ior C.1 C.2.1 hd ?_
  have e1 : Int32.ofInt (am_or x y) = Int32.ofInt x ||| Int32.ofInt y := Int32.ofInt_toInt _
  rw [← e1]
  exact k2
theorem am_s_ixor {Γ : Am_G} {d n : Nat} {K : Option Am_V → Am_M → Prop} {r : Am_Row} {ls : Am_L} {st : List Am_V} {M : Am_M} {x y : Int} (hr : r ∈ am_rows n) (hi : r.2.1 = .ixor) (kk : am_At Γ d n (r.1 + 1) ls (.inl (am_xor x y) :: st) M K) : am_At Γ d n r.1 ls (.inl y :: .inl x :: st) M K := by
  intro p l e s m args below meth c H locs lr C hst hl hP hS
  have ho := C.2.2.2.2.2.2.2.2
  have hd := am_dec (len := 1) ho hr hi (am_len_of (by intro h; exact Nat.eq_of_beq_eq_true h) hi)
  have k2 := kk p l e s m args below meth c H locs lr C (am_o1 trivial (am_ot (am_ot hst))) hl hP hS
  refine lv_ixor C.1 C.2.1 hd ?_
  have e1 : Int32.ofInt (am_xor x y) = Int32.ofInt x ^^^ Int32.ofInt y := Int32.ofInt_toInt _
  rw [← e1]
  exact k2
theorem am_s_ishl {Γ : Am_G} {d n : Nat} {K : Option Am_V → Am_M → Prop} {r : Am_Row} {ls : Am_L} {st : List Am_V} {M : Am_M} {x y : Int} (hr : r ∈ am_rows n) (hi : r.2.1 = .ishl) (kk : am_At Γ d n (r.1 + 1) ls (.inl (am_shl x y) :: st) M K) : am_At Γ d n r.1 ls (.inl y :: .inl x :: st) M K := by
  intro p l e s m args below meth c H locs lr C hst hl hP hS
  have ho := C.2.2.2.2.2.2.2.2
  have hd := am_dec (len := 1) ho hr hi (am_len_of (by intro h; exact Nat.eq_of_beq_eq_true h) hi)
  have k2 := kk p l e s m args below meth c H locs lr C (am_o1 trivial (am_ot (am_ot hst))) hl hP hS
  refine lv_ishl C.1 C.2.1 hd ?_
  have e1 : Int32.ofInt (am_shl x y) = Int32.ofInt x <<< (Int32.ofInt y &&& 31) := Int32.ofInt_toInt _
  rw [← e1]
  exact k2
theorem am_s_ishr {Γ : Am_G} {d n : Nat} {K : Option Am_V → Am_M → Prop} {r : Am_Row} {ls : Am_L} {st : List Am_V} {M : Am_M} {x y : Int} (hr : r ∈ am_rows n) (hi : r.2.1 = .ishr) (kk : am_At Γ d n (r.1 + 1) ls (.inl (am_shr x y) :: st) M K) : am_At Γ d n r.1 ls (.inl y :: .inl x :: st) M K := by
  intro p l e s m args below meth c H locs lr C hst hl hP hS
  have ho := C.2.2.2.2.2.2.2.2
  have hd := am_dec (len := 1) ho hr hi (am_len_of (by intro h; exact Nat.eq_of_beq_eq_true h) hi)
  have k2 := kk p l e s m args below meth c H locs lr C (am_o1 trivial (am_ot (am_ot hst))) hl hP hS
  refine lv_ishr C.1 C.2.1 hd ?_
  have e1 : Int32.ofInt (am_shr x y) = Int32.ofInt x >>> (Int32.ofInt y &&& 31) := Int32.ofInt_toInt _
  rw [← e1]
  exact k2
theorem am_s_ineg {Γ : Am_G} {d n : Nat} {K : Option Am_V → Am_M → Prop} {r : Am_Row} {ls : Am_L} {st : List Am_V} {M : Am_M} {x : Int} (hr : r ∈ am_rows n) (hi : r.2.1 = .ineg) (kk : am_At Γ d n (r.1 + 1) ls (.inl (-x) :: st) M K) : am_At Γ d n r.1 ls (.inl x :: st) M K := by
  intro p l e s m args below meth c H locs lr C hst hl hP hS
  have ho := C.2.2.2.2.2.2.2.2
  have hd := am_dec (len := 1) ho hr hi (am_len_of (by intro h; exact Nat.eq_of_beq_eq_true h) hi)
  have k2 := kk p l e s m args below meth c H locs lr C (am_o1 trivial (am_ot hst)) hl hP hS
  refine lv_ineg C.1 C.2.1 hd ?_
  rw [← Int32.ofInt_neg]
  exact k2
theorem am_divI {x y : Int} (h : 0 ≤ x ∧ am_R x ∧ 0 < y ∧ am_R y) : Int32.ofInt x / Int32.ofInt y = Int32.ofInt (x / y) := by
  obtain ⟨h0, hx, hy0, hy⟩ := h
  have h1 : 0 ≤ x / y := Int.ediv_nonneg h0 (by omega)
  have h2 : x / y ≤ x := Int.ediv_le_self y h0
  have hq : am_R (x / y) := ⟨by have := hx.1; omega, by have := hx.2; omega⟩
  apply Int32.toInt_inj.mp
  rw [Int32.toInt_div_of_ne_right _ _ (fun e => by
    have := congrArg Int32.toInt e
    rw [am_toInt hy] at this
    have h3 : (-1 : Int32).toInt = -1 := by decide +kernel
    rw [h3] at this
    omega), am_toInt hx, am_toInt hy, am_toInt hq]
  exact Int.tdiv_eq_ediv_of_nonneg h0
theorem am_remI {x y : Int} (h : 0 ≤ x ∧ am_R x ∧ 0 < y ∧ am_R y) : Int32.ofInt x - Int32.ofInt x / Int32.ofInt y * Int32.ofInt y = Int32.ofInt (x % y) := by
  rw [am_divI h, ← Int32.ofInt_mul, ← Int32.ofInt_sub]
  congr 1
  have := Int.emod_add_mul_ediv x y
  rw [Int.mul_comm] at this
  omega
theorem am_ne0 {y : Int} (h0 : 0 < y) (hy : am_R y) : ¬ Int32.ofInt y = 0 := fun e => by
  rw [← am_ofInt0, am_eqI hy am_R0] at e
  omega
theorem am_s_idiv {Γ : Am_G} {d n : Nat} {K : Option Am_V → Am_M → Prop} {r : Am_Row} {ls : Am_L} {st : List Am_V} {M : Am_M} {x y : Int} (hr : r ∈ am_rows n) (hi : r.2.1 = .idiv) (hc : 0 ≤ x ∧ am_R x ∧ 0 < y ∧ am_R y) (kk : am_At Γ d n (r.1 + 1) ls (.inl (x / y) :: st) M K) : am_At Γ d n r.1 ls (.inl y :: .inl x :: st) M K := by
  intro p l e s m args below meth c H locs lr C hst hl hP hS
  have ho := C.2.2.2.2.2.2.2.2
  have hd := am_dec (len := 1) ho hr hi (am_len_of (by intro h; exact Nat.eq_of_beq_eq_true h) hi)
  have k2 := kk p l e s m args below meth c H locs lr C (am_o1 trivial (am_ot (am_ot hst))) hl hP hS
  refine lv_idiv C.1 C.2.1 hd (am_ne0 hc.2.2.1 hc.2.2.2) ?_
  rw [am_divI hc]
  exact k2
theorem am_s_irem {Γ : Am_G} {d n : Nat} {K : Option Am_V → Am_M → Prop} {r : Am_Row} {ls : Am_L} {st : List Am_V} {M : Am_M} {x y : Int} (hr : r ∈ am_rows n) (hi : r.2.1 = .irem) (hc : 0 ≤ x ∧ am_R x ∧ 0 < y ∧ am_R y) (kk : am_At Γ d n (r.1 + 1) ls (.inl (x % y) :: st) M K) : am_At Γ d n r.1 ls (.inl y :: .inl x :: st) M K := by
  intro p l e s m args below meth c H locs lr C hst hl hP hS
  have ho := C.2.2.2.2.2.2.2.2
  have hd := am_dec (len := 1) ho hr hi (am_len_of (by intro h; exact Nat.eq_of_beq_eq_true h) hi)
  have k2 := kk p l e s m args below meth c H locs lr C (am_o1 trivial (am_ot (am_ot hst))) hl hP hS
  refine lv_irem C.1 C.2.1 hd (am_ne0 hc.2.2.1 hc.2.2.2) ?_
  rw [am_remI hc]
  exact k2
theorem am_s_i2l {Γ : Am_G} {d n : Nat} {K : Option Am_V → Am_M → Prop} {r : Am_Row} {ls : Am_L} {st : List Am_V} {M : Am_M} {x : Int} (hr : r ∈ am_rows n) (hi : r.2.1 = .i2l) (kk : am_At Γ d n (r.1 + 1) ls (.inr (.inl (Int32.ofInt x).toInt64) :: st) M K) : am_At Γ d n r.1 ls (.inl x :: st) M K := by
  intro p l e s m args below meth c H locs lr C hst hl hP hS
  have ho := C.2.2.2.2.2.2.2.2
  have hd := am_dec (len := 1) ho hr hi (am_len_of (by intro h; exact Nat.eq_of_beq_eq_true h) hi)
  exact lv_i2l C.1 C.2.1 hd rfl (kk p l e s m args below meth c H locs lr C (am_o1 trivial (am_ot hst)) hl hP hS)
theorem am_s_l2i {Γ : Am_G} {d n : Nat} {K : Option Am_V → Am_M → Prop} {r : Am_Row} {ls : Am_L} {st : List Am_V} {M : Am_M} {x : Int64} (hr : r ∈ am_rows n) (hi : r.2.1 = .l2i) (kk : am_At Γ d n (r.1 + 1) ls (.inl x.toInt32.toInt :: st) M K) : am_At Γ d n r.1 ls (.inr (.inl x) :: st) M K := by
  intro p l e s m args below meth c H locs lr C hst hl hP hS
  have ho := C.2.2.2.2.2.2.2.2
  have hd := am_dec (len := 1) ho hr hi (am_len_of (by intro h; exact Nat.eq_of_beq_eq_true h) hi)
  exact lv_l2i C.1 C.2.1 hd (Int32.ofInt_toInt _).symm (kk p l e s m args below meth c H locs lr C (am_o1 trivial (am_ot hst)) hl hP hS)
theorem am_s_ladd {Γ : Am_G} {d n : Nat} {K : Option Am_V → Am_M → Prop} {r : Am_Row} {ls : Am_L} {st : List Am_V} {M : Am_M} {x y : Int64} (hr : r ∈ am_rows n) (hi : r.2.1 = .ladd) (kk : am_At Γ d n (r.1 + 1) ls (.inr (.inl (x + y)) :: st) M K) : am_At Γ d n r.1 ls (.inr (.inl y) :: .inr (.inl x) :: st) M K := by
  intro p l e s m args below meth c H locs lr C hst hl hP hS
  have ho := C.2.2.2.2.2.2.2.2
  have hd := am_dec (len := 1) ho hr hi (am_len_of (by intro h; exact Nat.eq_of_beq_eq_true h) hi)
  exact lv_ladd C.1 C.2.1 hd (kk p l e s m args below meth c H locs lr C (am_o1 trivial (am_ot (am_ot hst))) hl hP hS)
theorem am_s_lsub {Γ : Am_G} {d n : Nat} {K : Option Am_V → Am_M → Prop} {r : Am_Row} {ls : Am_L} {st : List Am_V} {M : Am_M} {x y : Int64} (hr : r ∈ am_rows n) (hi : r.2.1 = .lsub) (kk : am_At Γ d n (r.1 + 1) ls (.inr (.inl (x - y)) :: st) M K) : am_At Γ d n r.1 ls (.inr (.inl y) :: .inr (.inl x) :: st) M K := by
  intro p l e s m args below meth c H locs lr C hst hl hP hS
  have ho := C.2.2.2.2.2.2.2.2
  have hd := am_dec (len := 1) ho hr hi (am_len_of (by intro h; exact Nat.eq_of_beq_eq_true h) hi)
  exact lv_lsub C.1 C.2.1 hd (kk p l e s m args below meth c H locs lr C (am_o1 trivial (am_ot (am_ot hst))) hl hP hS)
theorem am_s_lmul {Γ : Am_G} {d n : Nat} {K : Option Am_V → Am_M → Prop} {r : Am_Row} {ls : Am_L} {st : List Am_V} {M : Am_M} {x y : Int64} (hr : r ∈ am_rows n) (hi : r.2.1 = .lmul) (kk : am_At Γ d n (r.1 + 1) ls (.inr (.inl (x * y)) :: st) M K) : am_At Γ d n r.1 ls (.inr (.inl y) :: .inr (.inl x) :: st) M K := by
  intro p l e s m args below meth c H locs lr C hst hl hP hS
  have ho := C.2.2.2.2.2.2.2.2
  have hd := am_dec (len := 1) ho hr hi (am_len_of (by intro h; exact Nat.eq_of_beq_eq_true h) hi)
  exact lv_lmul C.1 C.2.1 hd (kk p l e s m args below meth c H locs lr C (am_o1 trivial (am_ot (am_ot hst))) hl hP hS)
theorem am_s_land {Γ : Am_G} {d n : Nat} {K : Option Am_V → Am_M → Prop} {r : Am_Row} {ls : Am_L} {st : List Am_V} {M : Am_M} {x y : Int64} (hr : r ∈ am_rows n) (hi : r.2.1 = .land) (kk : am_At Γ d n (r.1 + 1) ls (.inr (.inl (x &&& y)) :: st) M K) : am_At Γ d n r.1 ls (.inr (.inl y) :: .inr (.inl x) :: st) M K := by
  intro p l e s m args below meth c H locs lr C hst hl hP hS
  have ho := C.2.2.2.2.2.2.2.2
  have hd := am_dec (len := 1) ho hr hi (am_len_of (by intro h; exact Nat.eq_of_beq_eq_true h) hi)
  exact lv_land C.1 C.2.1 hd (kk p l e s m args below meth c H locs lr C (am_o1 trivial (am_ot (am_ot hst))) hl hP hS)
theorem am_s_lshr {Γ : Am_G} {d n : Nat} {K : Option Am_V → Am_M → Prop} {r : Am_Row} {ls : Am_L} {st : List Am_V} {M : Am_M} {x : Int64} {y : Int} (hr : r ∈ am_rows n) (hi : r.2.1 = .lshr) (kk : am_At Γ d n (r.1 + 1) ls (.inr (.inl (x >>> ((Int32.ofInt y).toInt64 &&& 63))) :: st) M K) : am_At Γ d n r.1 ls (.inl y :: .inr (.inl x) :: st) M K := by
  intro p l e s m args below meth c H locs lr C hst hl hP hS
  have ho := C.2.2.2.2.2.2.2.2
  have hd := am_dec (len := 1) ho hr hi (am_len_of (by intro h; exact Nat.eq_of_beq_eq_true h) hi)
  exact lv_lshr C.1 C.2.1 hd rfl (kk p l e s m args below meth c H locs lr C (am_o1 trivial (am_ot (am_ot hst))) hl hP hS)
theorem am_s_lcmp {Γ : Am_G} {d n : Nat} {K : Option Am_V → Am_M → Prop} {r : Am_Row} {ls : Am_L} {st : List Am_V} {M : Am_M} {x y : Int64} (hr : r ∈ am_rows n) (hi : r.2.1 = .lcmp) (kk : am_At Γ d n (r.1 + 1) ls (.inl (if y < x then 1 else if x = y then 0 else -1) :: st) M K) : am_At Γ d n r.1 ls (.inr (.inl y) :: .inr (.inl x) :: st) M K := by
  intro p l e s m args below meth c H locs lr C hst hl hP hS
  have ho := C.2.2.2.2.2.2.2.2
  have hd := am_dec (len := 1) ho hr hi (am_len_of (by intro h; exact Nat.eq_of_beq_eq_true h) hi)
  refine W.lcmp C.1 C.2.1 hd ?_
  have e1 : lg_cmp x y = Int32.ofInt (if y < x then 1 else if x = y then 0 else -1) := by
    unfold lg_cmp
    by_cases h1 : y < x
    · rw [if_pos h1, if_pos h1]; decide +kernel
    · rw [if_neg h1, if_neg h1]
      by_cases h2 : x = y
      · rw [if_pos h2, if_pos h2]; decide +kernel
      · rw [if_neg h2, if_neg h2]; decide +kernel
  rw [e1]
  exact kk p l e s m args below meth c H locs lr C (am_o1 trivial (am_ot (am_ot hst))) hl hP hS
theorem am_jmpI {pc : Nat} {off : Int} (h : 0 ≤ (pc : Int) + off) : (pc : Int) + off = ((am_jmp pc off : Nat) : Int) := by unfold am_jmp; omega
theorem am_s_icmp_eq {Γ : Am_G} {d n : Nat} {K : Option Am_V → Am_M → Prop} {r : Am_Row} {ls : Am_L} {st : List Am_V} {M : Am_M} {x y off : Int} (hr : r ∈ am_rows n) (hi : r.2.1 = .if_icmp .eq off) (hR : am_R x ∧ am_R y) (hj : 0 ≤ (r.1 : Int) + off) (kt : x = y → am_At Γ d n (am_jmp r.1 off) ls st M K) (kf : ¬ x = y → am_At Γ d n (r.1 + 3) ls st M K) : am_At Γ d n r.1 ls (.inl y :: .inl x :: st) M K := by
  intro p l e s m args below meth c H locs lr C hst hl hP hS
  have ho := C.2.2.2.2.2.2.2.2
  have hd := am_dec (len := 3) ho hr hi (am_len_of (by intro h; exact Nat.eq_of_beq_eq_true h) hi)
  exact lv_icmp_eq C.1 C.2.1 hd (am_jmpI hj) (fun q => kt ((am_eqI hR.1 hR.2).mp q) p l e s m args below meth c H locs lr C (am_ot (am_ot hst)) hl hP hS) (fun q => kf (fun z => q ((am_eqI hR.1 hR.2).mpr z)) p l e s m args below meth c H locs lr C (am_ot (am_ot hst)) hl hP hS)
theorem am_s_icmp_ne {Γ : Am_G} {d n : Nat} {K : Option Am_V → Am_M → Prop} {r : Am_Row} {ls : Am_L} {st : List Am_V} {M : Am_M} {x y off : Int} (hr : r ∈ am_rows n) (hi : r.2.1 = .if_icmp .ne off) (hR : am_R x ∧ am_R y) (hj : 0 ≤ (r.1 : Int) + off) (kt : ¬ x = y → am_At Γ d n (am_jmp r.1 off) ls st M K) (kf : x = y → am_At Γ d n (r.1 + 3) ls st M K) : am_At Γ d n r.1 ls (.inl y :: .inl x :: st) M K := by
  intro p l e s m args below meth c H locs lr C hst hl hP hS
  have ho := C.2.2.2.2.2.2.2.2
  have hd := am_dec (len := 3) ho hr hi (am_len_of (by intro h; exact Nat.eq_of_beq_eq_true h) hi)
  exact lv_icmp_ne C.1 C.2.1 hd (am_jmpI hj) (fun q => kt (fun z => q ((am_eqI hR.1 hR.2).mpr z)) p l e s m args below meth c H locs lr C (am_ot (am_ot hst)) hl hP hS) (fun q => kf ((am_eqI hR.1 hR.2).mp q) p l e s m args below meth c H locs lr C (am_ot (am_ot hst)) hl hP hS)
theorem am_s_icmp_lt {Γ : Am_G} {d n : Nat} {K : Option Am_V → Am_M → Prop} {r : Am_Row} {ls : Am_L} {st : List Am_V} {M : Am_M} {x y off : Int} (hr : r ∈ am_rows n) (hi : r.2.1 = .if_icmp .lt off) (hR : am_R x ∧ am_R y) (hj : 0 ≤ (r.1 : Int) + off) (kt : x < y → am_At Γ d n (am_jmp r.1 off) ls st M K) (kf : ¬ x < y → am_At Γ d n (r.1 + 3) ls st M K) : am_At Γ d n r.1 ls (.inl y :: .inl x :: st) M K := by
  intro p l e s m args below meth c H locs lr C hst hl hP hS
  have ho := C.2.2.2.2.2.2.2.2
  have hd := am_dec (len := 3) ho hr hi (am_len_of (by intro h; exact Nat.eq_of_beq_eq_true h) hi)
  exact lv_icmp_lt C.1 C.2.1 hd (am_jmpI hj) (fun q => kt ((am_ltI hR.1 hR.2).mp q) p l e s m args below meth c H locs lr C (am_ot (am_ot hst)) hl hP hS) (fun q => kf (fun z => q ((am_ltI hR.1 hR.2).mpr z)) p l e s m args below meth c H locs lr C (am_ot (am_ot hst)) hl hP hS)
theorem am_s_icmp_ge {Γ : Am_G} {d n : Nat} {K : Option Am_V → Am_M → Prop} {r : Am_Row} {ls : Am_L} {st : List Am_V} {M : Am_M} {x y off : Int} (hr : r ∈ am_rows n) (hi : r.2.1 = .if_icmp .ge off) (hR : am_R x ∧ am_R y) (hj : 0 ≤ (r.1 : Int) + off) (kt : ¬ x < y → am_At Γ d n (am_jmp r.1 off) ls st M K) (kf : x < y → am_At Γ d n (r.1 + 3) ls st M K) : am_At Γ d n r.1 ls (.inl y :: .inl x :: st) M K := by
  intro p l e s m args below meth c H locs lr C hst hl hP hS
  have ho := C.2.2.2.2.2.2.2.2
  have hd := am_dec (len := 3) ho hr hi (am_len_of (by intro h; exact Nat.eq_of_beq_eq_true h) hi)
  exact lv_icmp_ge C.1 C.2.1 hd (am_jmpI hj) (fun q => kt (fun z => by have := (am_leI hR.2 hR.1).mp q; omega) p l e s m args below meth c H locs lr C (am_ot (am_ot hst)) hl hP hS) (fun q => kf (by have h9 : ¬ y ≤ x := fun z => q ((am_leI hR.2 hR.1).mpr z); omega) p l e s m args below meth c H locs lr C (am_ot (am_ot hst)) hl hP hS)
theorem am_s_icmp_gt {Γ : Am_G} {d n : Nat} {K : Option Am_V → Am_M → Prop} {r : Am_Row} {ls : Am_L} {st : List Am_V} {M : Am_M} {x y off : Int} (hr : r ∈ am_rows n) (hi : r.2.1 = .if_icmp .gt off) (hR : am_R x ∧ am_R y) (hj : 0 ≤ (r.1 : Int) + off) (kt : y < x → am_At Γ d n (am_jmp r.1 off) ls st M K) (kf : ¬ y < x → am_At Γ d n (r.1 + 3) ls st M K) : am_At Γ d n r.1 ls (.inl y :: .inl x :: st) M K := by
  intro p l e s m args below meth c H locs lr C hst hl hP hS
  have ho := C.2.2.2.2.2.2.2.2
  have hd := am_dec (len := 3) ho hr hi (am_len_of (by intro h; exact Nat.eq_of_beq_eq_true h) hi)
  exact lv_icmp_gt C.1 C.2.1 hd (am_jmpI hj) (fun q => kt ((am_ltI hR.2 hR.1).mp q) p l e s m args below meth c H locs lr C (am_ot (am_ot hst)) hl hP hS) (fun q => kf (fun z => q ((am_ltI hR.2 hR.1).mpr z)) p l e s m args below meth c H locs lr C (am_ot (am_ot hst)) hl hP hS)
theorem am_s_icmp_le {Γ : Am_G} {d n : Nat} {K : Option Am_V → Am_M → Prop} {r : Am_Row} {ls : Am_L} {st : List Am_V} {M : Am_M} {x y off : Int} (hr : r ∈ am_rows n) (hi : r.2.1 = .if_icmp .le off) (hR : am_R x ∧ am_R y) (hj : 0 ≤ (r.1 : Int) + off) (kt : ¬ y < x → am_At Γ d n (am_jmp r.1 off) ls st M K) (kf : y < x → am_At Γ d n (r.1 + 3) ls st M K) : am_At Γ d n r.1 ls (.inl y :: .inl x :: st) M K := by
  intro p l e s m args below meth c H locs lr C hst hl hP hS
  have ho := C.2.2.2.2.2.2.2.2
  have hd := am_dec (len := 3) ho hr hi (am_len_of (by intro h; exact Nat.eq_of_beq_eq_true h) hi)
  exact lv_icmp_le C.1 C.2.1 hd (am_jmpI hj) (fun q => kt (fun z => by have := (am_leI hR.1 hR.2).mp q; omega) p l e s m args below meth c H locs lr C (am_ot (am_ot hst)) hl hP hS) (fun q => kf (by have h9 : ¬ x ≤ y := fun z => q ((am_leI hR.1 hR.2).mpr z); omega) p l e s m args below meth c H locs lr C (am_ot (am_ot hst)) hl hP hS)
theorem am_s_if_eq {Γ : Am_G} {d n : Nat} {K : Option Am_V → Am_M → Prop} {r : Am_Row} {ls : Am_L} {st : List Am_V} {M : Am_M} {x off : Int} (hr : r ∈ am_rows n) (hi : r.2.1 = .ifCond .eq off) (hR : am_R x) (hj : 0 ≤ (r.1 : Int) + off) (kt : x = 0 → am_At Γ d n (am_jmp r.1 off) ls st M K) (kf : ¬ x = 0 → am_At Γ d n (r.1 + 3) ls st M K) : am_At Γ d n r.1 ls (.inl x :: st) M K := by
  intro p l e s m args below meth c H locs lr C hst hl hP hS
  have ho := C.2.2.2.2.2.2.2.2
  have hd := am_dec (len := 3) ho hr hi (am_len_of (by intro h; exact Nat.eq_of_beq_eq_true h) hi)
  have eE : Int32.ofInt x = 0 ↔ x = 0 := by rw [← am_ofInt0]; exact am_eqI hR am_R0
  have eL : Int32.ofInt x < 0 ↔ x < 0 := by rw [← am_ofInt0]; exact am_ltI hR am_R0
  have eG : 0 < Int32.ofInt x ↔ 0 < x := by rw [← am_ofInt0]; exact am_ltI am_R0 hR
  have eLE : Int32.ofInt x ≤ 0 ↔ x ≤ 0 := by rw [← am_ofInt0]; exact am_leI hR am_R0
  have eGE : 0 ≤ Int32.ofInt x ↔ 0 ≤ x := by rw [← am_ofInt0]; exact am_leI am_R0 hR
  exact lv_if_eq C.1 C.2.1 hd (am_jmpI hj) (fun q => kt (eE.mp q) p l e s m args below meth c H locs lr C (am_ot hst) hl hP hS) (fun q => kf (fun z => q (eE.mpr z)) p l e s m args below meth c H locs lr C (am_ot hst) hl hP hS)
theorem am_s_if_ne {Γ : Am_G} {d n : Nat} {K : Option Am_V → Am_M → Prop} {r : Am_Row} {ls : Am_L} {st : List Am_V} {M : Am_M} {x off : Int} (hr : r ∈ am_rows n) (hi : r.2.1 = .ifCond .ne off) (hR : am_R x) (hj : 0 ≤ (r.1 : Int) + off) (kt : ¬ x = 0 → am_At Γ d n (am_jmp r.1 off) ls st M K) (kf : x = 0 → am_At Γ d n (r.1 + 3) ls st M K) : am_At Γ d n r.1 ls (.inl x :: st) M K := by
  intro p l e s m args below meth c H locs lr C hst hl hP hS
  have ho := C.2.2.2.2.2.2.2.2
  have hd := am_dec (len := 3) ho hr hi (am_len_of (by intro h; exact Nat.eq_of_beq_eq_true h) hi)
  have eE : Int32.ofInt x = 0 ↔ x = 0 := by rw [← am_ofInt0]; exact am_eqI hR am_R0
  have eL : Int32.ofInt x < 0 ↔ x < 0 := by rw [← am_ofInt0]; exact am_ltI hR am_R0
  have eG : 0 < Int32.ofInt x ↔ 0 < x := by rw [← am_ofInt0]; exact am_ltI am_R0 hR
  have eLE : Int32.ofInt x ≤ 0 ↔ x ≤ 0 := by rw [← am_ofInt0]; exact am_leI hR am_R0
  have eGE : 0 ≤ Int32.ofInt x ↔ 0 ≤ x := by rw [← am_ofInt0]; exact am_leI am_R0 hR
  exact lv_if_ne C.1 C.2.1 hd (am_jmpI hj) (fun q => kt (fun z => q (eE.mpr z)) p l e s m args below meth c H locs lr C (am_ot hst) hl hP hS) (fun q => kf (eE.mp q) p l e s m args below meth c H locs lr C (am_ot hst) hl hP hS)
theorem am_s_if_lt {Γ : Am_G} {d n : Nat} {K : Option Am_V → Am_M → Prop} {r : Am_Row} {ls : Am_L} {st : List Am_V} {M : Am_M} {x off : Int} (hr : r ∈ am_rows n) (hi : r.2.1 = .ifCond .lt off) (hR : am_R x) (hj : 0 ≤ (r.1 : Int) + off) (kt : x < 0 → am_At Γ d n (am_jmp r.1 off) ls st M K) (kf : ¬ x < 0 → am_At Γ d n (r.1 + 3) ls st M K) : am_At Γ d n r.1 ls (.inl x :: st) M K := by
  intro p l e s m args below meth c H locs lr C hst hl hP hS
  have ho := C.2.2.2.2.2.2.2.2
  have hd := am_dec (len := 3) ho hr hi (am_len_of (by intro h; exact Nat.eq_of_beq_eq_true h) hi)
  have eE : Int32.ofInt x = 0 ↔ x = 0 := by rw [← am_ofInt0]; exact am_eqI hR am_R0
  have eL : Int32.ofInt x < 0 ↔ x < 0 := by rw [← am_ofInt0]; exact am_ltI hR am_R0
  have eG : 0 < Int32.ofInt x ↔ 0 < x := by rw [← am_ofInt0]; exact am_ltI am_R0 hR
  have eLE : Int32.ofInt x ≤ 0 ↔ x ≤ 0 := by rw [← am_ofInt0]; exact am_leI hR am_R0
  have eGE : 0 ≤ Int32.ofInt x ↔ 0 ≤ x := by rw [← am_ofInt0]; exact am_leI am_R0 hR
  exact lv_if_lt C.1 C.2.1 hd (am_jmpI hj) (fun q => kt (eL.mp q) p l e s m args below meth c H locs lr C (am_ot hst) hl hP hS) (fun q => kf (fun z => q (eL.mpr z)) p l e s m args below meth c H locs lr C (am_ot hst) hl hP hS)
theorem am_s_if_ge {Γ : Am_G} {d n : Nat} {K : Option Am_V → Am_M → Prop} {r : Am_Row} {ls : Am_L} {st : List Am_V} {M : Am_M} {x off : Int} (hr : r ∈ am_rows n) (hi : r.2.1 = .ifCond .ge off) (hR : am_R x) (hj : 0 ≤ (r.1 : Int) + off) (kt : ¬ x < 0 → am_At Γ d n (am_jmp r.1 off) ls st M K) (kf : x < 0 → am_At Γ d n (r.1 + 3) ls st M K) : am_At Γ d n r.1 ls (.inl x :: st) M K := by
  intro p l e s m args below meth c H locs lr C hst hl hP hS
  have ho := C.2.2.2.2.2.2.2.2
  have hd := am_dec (len := 3) ho hr hi (am_len_of (by intro h; exact Nat.eq_of_beq_eq_true h) hi)
  have eE : Int32.ofInt x = 0 ↔ x = 0 := by rw [← am_ofInt0]; exact am_eqI hR am_R0
  have eL : Int32.ofInt x < 0 ↔ x < 0 := by rw [← am_ofInt0]; exact am_ltI hR am_R0
  have eG : 0 < Int32.ofInt x ↔ 0 < x := by rw [← am_ofInt0]; exact am_ltI am_R0 hR
  have eLE : Int32.ofInt x ≤ 0 ↔ x ≤ 0 := by rw [← am_ofInt0]; exact am_leI hR am_R0
  have eGE : 0 ≤ Int32.ofInt x ↔ 0 ≤ x := by rw [← am_ofInt0]; exact am_leI am_R0 hR
  exact lv_if_ge C.1 C.2.1 hd (am_jmpI hj) (fun q => kt (fun z => by have := eGE.mp q; omega) p l e s m args below meth c H locs lr C (am_ot hst) hl hP hS) (fun q => kf (by have h9 : ¬ 0 ≤ x := fun z => q (eGE.mpr z); omega) p l e s m args below meth c H locs lr C (am_ot hst) hl hP hS)
theorem am_s_if_gt {Γ : Am_G} {d n : Nat} {K : Option Am_V → Am_M → Prop} {r : Am_Row} {ls : Am_L} {st : List Am_V} {M : Am_M} {x off : Int} (hr : r ∈ am_rows n) (hi : r.2.1 = .ifCond .gt off) (hR : am_R x) (hj : 0 ≤ (r.1 : Int) + off) (kt : 0 < x → am_At Γ d n (am_jmp r.1 off) ls st M K) (kf : ¬ 0 < x → am_At Γ d n (r.1 + 3) ls st M K) : am_At Γ d n r.1 ls (.inl x :: st) M K := by
  intro p l e s m args below meth c H locs lr C hst hl hP hS
  have ho := C.2.2.2.2.2.2.2.2
  have hd := am_dec (len := 3) ho hr hi (am_len_of (by intro h; exact Nat.eq_of_beq_eq_true h) hi)
  have eE : Int32.ofInt x = 0 ↔ x = 0 := by rw [← am_ofInt0]; exact am_eqI hR am_R0
  have eL : Int32.ofInt x < 0 ↔ x < 0 := by rw [← am_ofInt0]; exact am_ltI hR am_R0
  have eG : 0 < Int32.ofInt x ↔ 0 < x := by rw [← am_ofInt0]; exact am_ltI am_R0 hR
  have eLE : Int32.ofInt x ≤ 0 ↔ x ≤ 0 := by rw [← am_ofInt0]; exact am_leI hR am_R0
  have eGE : 0 ≤ Int32.ofInt x ↔ 0 ≤ x := by rw [← am_ofInt0]; exact am_leI am_R0 hR
  exact lv_if_gt C.1 C.2.1 hd (am_jmpI hj) (fun q => kt (eG.mp q) p l e s m args below meth c H locs lr C (am_ot hst) hl hP hS) (fun q => kf (fun z => q (eG.mpr z)) p l e s m args below meth c H locs lr C (am_ot hst) hl hP hS)
theorem am_s_if_le {Γ : Am_G} {d n : Nat} {K : Option Am_V → Am_M → Prop} {r : Am_Row} {ls : Am_L} {st : List Am_V} {M : Am_M} {x off : Int} (hr : r ∈ am_rows n) (hi : r.2.1 = .ifCond .le off) (hR : am_R x) (hj : 0 ≤ (r.1 : Int) + off) (kt : ¬ 0 < x → am_At Γ d n (am_jmp r.1 off) ls st M K) (kf : 0 < x → am_At Γ d n (r.1 + 3) ls st M K) : am_At Γ d n r.1 ls (.inl x :: st) M K := by
  intro p l e s m args below meth c H locs lr C hst hl hP hS
  have ho := C.2.2.2.2.2.2.2.2
  have hd := am_dec (len := 3) ho hr hi (am_len_of (by intro h; exact Nat.eq_of_beq_eq_true h) hi)
  have eE : Int32.ofInt x = 0 ↔ x = 0 := by rw [← am_ofInt0]; exact am_eqI hR am_R0
  have eL : Int32.ofInt x < 0 ↔ x < 0 := by rw [← am_ofInt0]; exact am_ltI hR am_R0
  have eG : 0 < Int32.ofInt x ↔ 0 < x := by rw [← am_ofInt0]; exact am_ltI am_R0 hR
  have eLE : Int32.ofInt x ≤ 0 ↔ x ≤ 0 := by rw [← am_ofInt0]; exact am_leI hR am_R0
  have eGE : 0 ≤ Int32.ofInt x ↔ 0 ≤ x := by rw [← am_ofInt0]; exact am_leI am_R0 hR
  exact lv_if_le C.1 C.2.1 hd (am_jmpI hj) (fun q => kt (fun z => by have := eLE.mp q; omega) p l e s m args below meth c H locs lr C (am_ot hst) hl hP hS) (fun q => kf (by have h9 : ¬ x ≤ 0 := fun z => q (eLE.mpr z); omega) p l e s m args below meth c H locs lr C (am_ot hst) hl hP hS)
theorem am_s_goto {Γ : Am_G} {d n : Nat} {K : Option Am_V → Am_M → Prop} {r : Am_Row} {ls : Am_L} {st : List Am_V} {M : Am_M} {off : Int} (hr : r ∈ am_rows n) (hi : r.2.1 = .goto off) (hj : 0 ≤ (r.1 : Int) + off) (kk : am_At Γ d n (am_jmp r.1 off) ls st M K) : am_At Γ d n r.1 ls st M K := by
  intro p l e s m args below meth c H locs lr C hst hl hP hS
  have ho := C.2.2.2.2.2.2.2.2
  have hd := am_dec (len := 3) ho hr hi (am_len_of (by intro h; exact Nat.eq_of_beq_eq_true h) hi)
  exact lv_goto C.1 C.2.1 hd (am_jmpI hj) (kk p l e s m args below meth c H locs lr C hst hl hP hS)
