/-! the abstract machine: rows that read and write the world -/
theorem am_fieldfact {n : Nat} {idx a b : Nat} (h : am_fl.elem ((am_mi n).2.2.2.2.1, idx, a, b) = true) : ∃ q : vw_C, vwCl[a]? = some q ∧ b < q.2.2 ∧ Cond.fieldLink (am_cn (am_mi n).2.2.2.2.1) idx (q.2.1 b).1 (q.2.1 b).2.1 (q.2.1 b).2.2.1 ∈ am_tbl := am_fl_ok ((am_mi n).2.2.2.2.1, idx, a, b) (by simpa using h)
theorem am_s_getfield {Γ : Am_G} {d n : Nat} {K : Option Am_V → Am_M → Prop} {r : Am_Row} {ls : Am_L} {st : List Am_V} {M : Am_M} {x ci : Nat} {q : Nat × Nat} {fs : List Am_F} {f : Am_F} (hr : r ∈ am_rows n) (hi : r.2.1 = .getfield x) (hs : am_shape q.2 = some (.inr (ci, fs))) (hci : ci = r.2.2.2.1) (hf : am_nth fs r.2.2.2.2.1 = some f) (kk : am_At Γ d n (r.1 + 3) ls (am_fv M q.1 q.2 r.2.2.2.2.1 f :: st) M K) : am_At Γ d n r.1 ls (.inr (.inr q) :: st) M K := by
  intro p l e s m args below meth c H locs lr C hst hl hP hS
  have ho := C.2.2.2.2.2.2.2.2
  have hd := am_dec (len := 3) ho hr hi (am_len_of (by intro h; exact Nat.eq_of_beq_eq_true h) hi)
  have hc := (am_row ho hr).2.1
  unfold am_lnk at hc
  rw [hi] at hc
  obtain ⟨⟨Cn, T, N⟩, g1, g2, g3⟩ := am_fieldfact hc
  subst hci
  obtain ⟨ty0, -, -, hin⟩ := am_cls _ _ g1
  have hq : q ∈ am_ids := am_idmem (am_oh hst) hs
  obtain ⟨q0, hq0⟩ := List.getElem?_of_mem hq
  have he := am_wget (Γ := Γ) (M := M) hq0
  rw [am_ent_obj hs] at he
  rw [am_nth_eq] at hf
  have hv : (fs.mapIdx (fun k f => am_c Γ.2.2.1 (am_fv M q.1 q.2 k f)))[r.2.2.2.2.1]? = some (am_c Γ.2.2.1 (am_fv M q.1 q.2 r.2.2.2.2.1 f)) := by rw [List.getElem?_mapIdx, hf]; rfl
  refine va_get C.1 C.2.1 C.2.2.2.2.2.1 (fun w hw => List.mem_cons_of_mem _ (hin w hw)) C.2.2.2.2.1 C.2.2.2.2.2.2.2.1.1 hP q0 he g1 r.2.2.2.2.1 g2 (C.2.2.2.2.2.1 _ (List.mem_cons_of_mem _ g3)) (fun _ h => h) hv hd ?_
  refine kk p l e s m args below meth c H locs lr C (am_o1 ?_ (am_ot hst)) hl hP hS
  have hfm : f ∈ fs := List.mem_of_getElem? hf
  unfold am_fv
  split
  · trivial
  · trivial
  · rename_i q'
    exact Or.inl ((am_idfld hq hs _ hfm).1 q' rfl)
/-- a store into an object, of whatever type -/
theorem am_put {Γ : Am_G} {n : Nat} {r : Am_Row} {M M' : Am_M} {x ci : Nat} {q : Nat × Nat} {fs : List Am_F} {f : Am_F} {ty : FieldType} {v : Value}
    (hr : r ∈ am_rows n) (hi : r.2.1 = .putfield x) (hs : am_shape q.2 = some (.inr (ci, fs))) (hci : ci = r.2.2.2.1) (hf : fs[r.2.2.2.2.1]? = some f) (hty : ∀ desc : String, am_fchk f desc = true → parseFieldDescriptor desc = some ty) (hn : narrow ty v = v) (hfit : fits ty v = true)
    (hset : (fs.mapIdx (fun k f => am_c Γ.2.2.1 (am_fv M q.1 q.2 k f))).set r.2.2.2.2.1 v = fs.mapIdx (fun k f => am_c Γ.2.2.1 (am_fv M' q.1 q.2 k f))) (hoth : ∀ c ∈ am_ids, c ≠ q → am_ent Γ M c.1 c.2 = am_ent Γ M' c.1 c.2)
    {p : Program} {l : Launch} {e : Env} {R : Room} {s : State} {m : MethodId} {args : Array Value} {below : List Frame} {meth : Method} {c : Code} {H : Heap} {locs : List Loc} {cells slots : Nat} {Q : State → Prop} {lr : Array Slot} {rest : List Value} (C : am_Ctx Γ n p s m args meth c) (hok : am_okv (.inr (.inr q))) (hP : va_P Γ.1 vwCl (am_world Γ M) H) (hS : va_S (am_A Γ) s.heap H locs)
    (kk : ∀ (H1 : Heap) (locs1 : List Loc), va_P Γ.1 vwCl (am_world Γ M') H1 → va_S (am_A Γ) s.heap H1 locs1 → W p l e R s m args below meth c H1 locs1 cells slots Q (F0 m (r.1 + 3) lr rest)) : W p l e R s m args below meth c H locs cells slots Q (F0 m r.1 lr (v :: .ref (Γ.2.2.1 q.1 q.2) :: rest)) := by
  have ho := C.2.2.2.2.2.2.2.2
  have hd := am_dec (len := 3) ho hr hi (am_len_of (by intro h; exact Nat.eq_of_beq_eq_true h) hi)
  have hc := (am_row ho hr).2.1
  unfold am_lnk at hc
  rw [hi] at hc
  simp only [Bool.and_eq_true] at hc
  obtain ⟨⟨Cn, T, N⟩, g1, g2, g3⟩ := am_fieldfact hc.1
  have hfin := hc.2
  rw [g1] at hfin
  subst hci
  obtain ⟨ty0, hty0, hnm, hin⟩ := am_cls _ _ g1
  have hq : q ∈ am_ids := am_idmem hok hs
  obtain ⟨q0, hq0⟩ := List.getElem?_of_mem hq
  have he := am_wget (Γ := Γ) (M := M) hq0
  rw [am_ent_obj hs] at he
  obtain ⟨q', g4, g5, g6⟩ := am_shobj hs
  cases g1.symm.trans g4
  refine va_put C.1 C.2.1 C.2.2.2.2.2.1 (fun w hw => List.mem_cons_of_mem _ (hin w hw)) ty0 hty0 hnm C.2.2.2.2.1 C.2.2.2.2.2.2.2.1.1 hP (am_wD C.2.2.2.2.2.2.2.1.2.2.2.1 M) hS q0 he g1 r.2.2.2.2.1 g2 (C.2.2.2.2.2.1 _ (List.mem_cons_of_mem _ g3)) (fun _ h => h) (by simpa using hfin) (hty _ (g6 _ _ hf)) hn hfit (by rw [List.length_mapIdx, g5]; exact g2) hd (fun H1 locs1 hP1 _ hS1 => ?_)
  rw [hset, ← am_ent_obj (Γ := Γ) (M := M') (e := q.1) hs, am_wset hq0 hoth] at hP1
  exact kk H1 locs1 hP1 hS1
theorem am_ent_set {Γ : Am_G} {M : Am_M} {q : Nat × Nat} {k : Nat} {x : Int} : ∀ c ∈ am_ids, c ≠ q → am_ent Γ M c.1 c.2 = am_ent Γ (am_set M q.1 q.2 k x) c.1 c.2 := fun c hc hne => am_ent_congr (fun i => am_set_other (by simpa using hne) i) (fun _ => rfl) hc
theorem am_s_putI {Γ : Am_G} {d n : Nat} {K : Option Am_V → Am_M → Prop} {r : Am_Row} {ls : Am_L} {st : List Am_V} {M : Am_M} {x ci : Nat} {q : Nat × Nat} {fs : List Am_F} {y : Int} (hr : r ∈ am_rows n) (hi : r.2.1 = .putfield x) (hs : am_shape q.2 = some (.inr (ci, fs))) (hci : ci = r.2.2.2.1) (hf : am_nth fs r.2.2.2.2.1 = some (.inl 0)) (kk : am_At Γ d n (r.1 + 3) ls st (am_set M q.1 q.2 r.2.2.2.2.1 y) K) : am_At Γ d n r.1 ls (.inl y :: .inr (.inr q) :: st) M K := by
  intro p l e s m args below meth c H locs lr C hst hl hP hS
  rw [am_nth_eq] at hf
  exact am_put (ty := .int) (v := .int (Int32.ofInt y)) hr hi hs hci hf (fun desc h => of_decide_eq_true h) rfl rfl (am_obj_set (Or.inl hf)) am_ent_set C (am_oh (am_ot hst)) hP hS (fun H1 locs1 hP1 hS1 => kk p l e s m args below meth c H1 locs1 lr C (am_ot (am_ot hst)) hl hP1 hS1)
theorem am_s_putZ {Γ : Am_G} {d n : Nat} {K : Option Am_V → Am_M → Prop} {r : Am_Row} {ls : Am_L} {st : List Am_V} {M : Am_M} {x ci : Nat} {q : Nat × Nat} {fs : List Am_F} {y : Int} (hr : r ∈ am_rows n) (hi : r.2.1 = .putfield x) (hs : am_shape q.2 = some (.inr (ci, fs))) (hci : ci = r.2.2.2.1) (hf : am_nth fs r.2.2.2.2.1 = some (.inl 1)) (hy : y = 0 ∨ y = 1) (kk : am_At Γ d n (r.1 + 3) ls st (am_set M q.1 q.2 r.2.2.2.2.1 y) K) : am_At Γ d n r.1 ls (.inl y :: .inr (.inr q) :: st) M K := by
  intro p l e s m args below meth c H locs lr C hst hl hP hS
  rw [am_nth_eq] at hf
  exact am_put (ty := .boolean) (v := .int (Int32.ofInt y)) hr hi hs hci hf (fun desc h => of_decide_eq_true h) (by rcases hy with rfl | rfl <;> decide +kernel) (by rcases hy with rfl | rfl <;> decide +kernel) (am_obj_set (Or.inr hf)) am_ent_set C (am_oh (am_ot hst)) hP hS (fun H1 locs1 hP1 hS1 => kk p l e s m args below meth c H1 locs1 lr C (am_ot (am_ot hst)) hl hP1 hS1)
def am_only2 (fs : List Am_F) : Bool := (List.range fs.length).all (fun i => (List.range fs.length).all (fun j => match am_nth fs i, am_nth fs j with
  | some (Sum.inl 2), some (Sum.inl 2) => Nat.beq i j
  | _, _ => true))
def am_l41 : Bool := match am_shape 41 with
  | some (.inr (_, fs)) => am_only2 fs
  | _ => false
theorem am_l41_ok : am_l41 = true := by decide +kernel
theorem am_long_sole {ci : Nat} {fs : List Am_F} (h : am_shape 41 = some (.inr (ci, fs))) : ∀ i j : Nat, fs[i]? = some (Sum.inl 2 : Am_F) → fs[j]? = some (Sum.inl 2 : Am_F) → i = j := by
  intro i j hi hj
  have h1 := am_l41_ok
  unfold am_l41 at h1
  rw [h] at h1
  have h2 := List.all_eq_true.mp h1 i (List.mem_range.mpr (List.getElem?_eq_some_iff.mp hi).1)
  have h3 := List.all_eq_true.mp h2 j (List.mem_range.mpr (List.getElem?_eq_some_iff.mp hj).1)
  rw [am_nth_eq, am_nth_eq, hi, hj] at h3
  exact Nat.eq_of_beq_eq_true h3
theorem am_s_putJ {Γ : Am_G} {d n : Nat} {K : Option Am_V → Am_M → Prop} {r : Am_Row} {ls : Am_L} {st : List Am_V} {M : Am_M} {x ci : Nat} {q : Nat × Nat} {fs : List Am_F} {y : Int64} (hr : r ∈ am_rows n) (hi : r.2.1 = .putfield x) (hs : am_shape q.2 = some (.inr (ci, fs))) (hci : ci = r.2.2.2.1) (hf : am_nth fs r.2.2.2.2.1 = some (.inl 2)) (kk : am_At Γ d n (r.1 + 3) ls st (M.1, y) K) : am_At Γ d n r.1 ls (.inr (.inl y) :: .inr (.inr q) :: st) M K := by
  intro p l e s m args below meth c H locs lr C hst hl hP hS
  rw [am_nth_eq] at hf
  have hq : q ∈ am_ids := am_idmem (am_oh (am_ot hst)) hs
  have hq41 : q = (0, 41) := (am_idfld hq hs _ (List.mem_of_getElem? hf)).2 rfl
  have hs41 : am_shape 41 = some (.inr (ci, fs)) := by rw [hq41] at hs; exact hs
  exact am_put (M' := (M.1, y)) (ty := .long) (v := .long y) hr hi hs hci hf (fun desc h => of_decide_eq_true h) rfl rfl (am_obj_setL hf (fun j hj => am_long_sole hs41 j _ hj hf)) (fun c hc hne => am_ent_congr (fun i => rfl) (fun e => absurd (e.trans hq41.symm) hne) hc) C (am_oh (am_ot hst)) hP hS (fun H1 locs1 hP1 hS1 => kk p l e s m args below meth c H1 locs1 lr C (am_ot (am_ot hst)) hl hP1 hS1)
theorem am_s_iaload {Γ : Am_G} {d n : Nat} {K : Option Am_V → Am_M → Prop} {r : Am_Row} {ls : Am_L} {st : List Am_V} {M : Am_M} {i : Int} {len b : Nat} {q : Nat × Nat} (hr : r ∈ am_rows n) (hi : r.2.1 = .iaload) (hs : am_shape q.2 = some (.inl (0, len, b))) (h : 0 ≤ i ∧ i < len) (kk : am_At Γ d n (r.1 + 1) ls (.inl (M.1 q.1 q.2 i.toNat) :: st) M K) : am_At Γ d n r.1 ls (.inl i :: .inr (.inr q) :: st) M K := by
  intro p l e s m args below meth c H locs lr C hst hl hP hS
  have ho := C.2.2.2.2.2.2.2.2
  have hd := am_dec (len := 1) ho hr hi (am_len_of (by intro h; exact Nat.eq_of_beq_eq_true h) hi)
  have hb := (am_sharr hs).1
  obtain ⟨q0, hq0⟩ := List.getElem?_of_mem (am_idmem (am_oh (am_ot hst)) hs)
  have he := am_wget (Γ := Γ) (M := M) hq0
  rw [am_ent_int hs] at he
  have k2 := kk p l e s m args below meth c H locs lr C (am_o1 trivial (am_ot (am_ot hst))) hl hP hS
  refine va_iald C.1 C.2.1 C.2.2.2.2.2.2.2.1.1 hP q0 0 he rfl (am_vpI h.1 h.2 hb) hd ?_
  rw [am_clampI (am_Rof h.1 h.2 hb)]
  exact k2
theorem am_s_baload {Γ : Am_G} {d n : Nat} {K : Option Am_V → Am_M → Prop} {r : Am_Row} {ls : Am_L} {st : List Am_V} {M : Am_M} {i : Int} {len b : Nat} {q : Nat × Nat} (hr : r ∈ am_rows n) (hi : r.2.1 = .baload) (hs : am_shape q.2 = some (.inl (1, len, b))) (h : 0 ≤ i ∧ i < len) (kk : am_At Γ d n (r.1 + 1) ls (.inl (M.1 q.1 q.2 i.toNat) :: st) M K) : am_At Γ d n r.1 ls (.inl i :: .inr (.inr q) :: st) M K := by
  intro p l e s m args below meth c H locs lr C hst hl hP hS
  have ho := C.2.2.2.2.2.2.2.2
  have hd := am_dec (len := 1) ho hr hi (am_len_of (by intro h; exact Nat.eq_of_beq_eq_true h) hi)
  have hb := (am_sharr hs).1
  obtain ⟨q0, hq0⟩ := List.getElem?_of_mem (am_idmem (am_oh (am_ot hst)) hs)
  have he := am_wget (Γ := Γ) (M := M) hq0
  rw [am_ent_bool hs] at he
  have k2 := kk p l e s m args below meth c H locs lr C (am_o1 trivial (am_ot (am_ot hst))) hl hP hS
  refine va_zald C.1 C.2.1 C.2.2.2.2.2.2.2.1.1 hP q0 1 he rfl (am_vpI h.1 h.2 hb) hd ?_
  rw [am_clampI (am_Rof h.1 h.2 hb)]
  exact k2
theorem am_s_aaload {Γ : Am_G} {d n : Nat} {K : Option Am_V → Am_M → Prop} {r : Am_Row} {ls : Am_L} {st : List Am_V} {M : Am_M} {i : Int} {len b : Nat} {q : Nat × Nat} (hr : r ∈ am_rows n) (hi : r.2.1 = .aaload) (hs : am_shape q.2 = some (.inl (2, len, b))) (h : 0 ≤ i ∧ i < len) (kk : am_At Γ d n (r.1 + 1) ls (.inr (.inr (b + i.toNat, 0)) :: st) M K) : am_At Γ d n r.1 ls (.inl i :: .inr (.inr q) :: st) M K := by
  intro p l e s m args below meth c H locs lr C hst hl hP hS
  have ho := C.2.2.2.2.2.2.2.2
  have hd := am_dec (len := 1) ho hr hi (am_len_of (by intro h; exact Nat.eq_of_beq_eq_true h) hi)
  have hb := (am_sharr hs).1
  obtain ⟨q0, hq0⟩ := List.getElem?_of_mem (am_idmem (am_oh (am_ot hst)) hs)
  have he := am_wget (Γ := Γ) (M := M) hq0
  rw [am_ent_ref hs] at he
  have k2 := kk p l e s m args below meth c H locs lr C (am_o1 (Or.inl ((am_sharr hs).2 rfl i.toNat (by omega))) (am_ot (am_ot hst))) hl hP hS
  refine va_aldq C.1 C.2.1 C.2.2.2.2.2.2.2.1.1 hP q0 2 he rfl (am_vpI h.1 h.2 hb) hd ?_
  rw [am_clampI (am_Rof h.1 h.2 hb)]
  exact k2
theorem am_s_iastore {Γ : Am_G} {d n : Nat} {K : Option Am_V → Am_M → Prop} {r : Am_Row} {ls : Am_L} {st : List Am_V} {M : Am_M} {i x : Int} {len b : Nat} {q : Nat × Nat} (hr : r ∈ am_rows n) (hi : r.2.1 = .iastore) (hs : am_shape q.2 = some (.inl (0, len, b))) (h : 0 ≤ i ∧ i < len) (kk : am_At Γ d n (r.1 + 1) ls st (am_set M q.1 q.2 i.toNat x) K) : am_At Γ d n r.1 ls (.inl x :: .inl i :: .inr (.inr q) :: st) M K := by
  intro p l e s m args below meth c H locs lr C hst hl hP hS
  have ho := C.2.2.2.2.2.2.2.2
  have hd := am_dec (len := 1) ho hr hi (am_len_of (by intro h; exact Nat.eq_of_beq_eq_true h) hi)
  have hb := (am_sharr hs).1
  obtain ⟨q0, hq0⟩ := List.getElem?_of_mem (am_idmem (am_oh (am_ot (am_ot hst))) hs)
  have he := am_wget (Γ := Γ) (M := M) hq0
  rw [am_ent_int hs] at he
  refine va_iast C.1 C.2.1 C.2.2.2.2.2.2.2.1.1 hP (am_wD C.2.2.2.2.2.2.2.1.2.2.2.1 M) hS q0 0 he rfl (am_vpI h.1 h.2 hb) hd (fun H1 locs1 hP1 _ hS1 => ?_)
  rw [am_clampI (am_Rof h.1 h.2 hb), am_upd_fun, ← am_ent_int (Γ := Γ) (M := am_set M q.1 q.2 i.toNat x) (e := q.1) hs, am_wset hq0 am_ent_set] at hP1
  exact kk p l e s m args below meth c H1 locs1 lr C (am_ot (am_ot (am_ot hst))) hl hP1 hS1
theorem am_s_bastore {Γ : Am_G} {d n : Nat} {K : Option Am_V → Am_M → Prop} {r : Am_Row} {ls : Am_L} {st : List Am_V} {M : Am_M} {i x : Int} {len b : Nat} {q : Nat × Nat} (hr : r ∈ am_rows n) (hi : r.2.1 = .bastore) (hs : am_shape q.2 = some (.inl (1, len, b))) (h : (0 ≤ i ∧ i < len) ∧ (x = 0 ∨ x = 1)) (kk : am_At Γ d n (r.1 + 1) ls st (am_set M q.1 q.2 i.toNat x) K) : am_At Γ d n r.1 ls (.inl x :: .inl i :: .inr (.inr q) :: st) M K := by
  intro p l e s m args below meth c H locs lr C hst hl hP hS
  have ho := C.2.2.2.2.2.2.2.2
  have hd := am_dec (len := 1) ho hr hi (am_len_of (by intro h; exact Nat.eq_of_beq_eq_true h) hi)
  have hb := (am_sharr hs).1
  obtain ⟨q0, hq0⟩ := List.getElem?_of_mem (am_idmem (am_oh (am_ot (am_ot hst))) hs)
  have he := am_wget (Γ := Γ) (M := M) hq0
  rw [am_ent_bool hs] at he
  have hx : vp_nar .boolean (Int32.ofInt x) = Int32.ofInt x := by rcases h.2 with rfl | rfl <;> decide +kernel
  refine va_zast C.1 C.2.1 C.2.2.2.2.2.2.2.1.1 hP (am_wD C.2.2.2.2.2.2.2.1.2.2.2.1 M) hS q0 1 he rfl (am_vpI h.1.1 h.1.2 hb) hd (fun H1 locs1 hP1 _ hS1 => ?_)
  rw [hx, am_clampI (am_Rof h.1.1 h.1.2 hb), am_upd_fun, ← am_ent_bool (Γ := Γ) (M := am_set M q.1 q.2 i.toNat x) (e := q.1) hs, am_wset hq0 am_ent_set] at hP1
  exact kk p l e s m args below meth c H1 locs1 lr C (am_ot (am_ot (am_ot hst))) hl hP1 hS1
theorem am_s_alen {Γ : Am_G} {d n : Nat} {K : Option Am_V → Am_M → Prop} {r : Am_Row} {ls : Am_L} {st : List Am_V} {M : Am_M} {len b : Nat} {q : Nat × Nat} (hr : r ∈ am_rows n) (hi : r.2.1 = .arraylength) (hs : am_shape q.2 = some (.inl (0, len, b))) (kk : am_At Γ d n (r.1 + 1) ls (.inl (len : Int) :: st) M K) : am_At Γ d n r.1 ls (.inr (.inr q) :: st) M K := by
  intro p l e s m args below meth c H locs lr C hst hl hP hS
  have ho := C.2.2.2.2.2.2.2.2
  have hd := am_dec (len := 1) ho hr hi (am_len_of (by intro h; exact Nat.eq_of_beq_eq_true h) hi)
  obtain ⟨q0, hq0⟩ := List.getElem?_of_mem (am_idmem (am_oh hst) hs)
  have he := am_wget (Γ := Γ) (M := M) hq0
  rw [am_ent_int hs] at he
  exact va_alen C.1 C.2.1 C.2.2.2.2.2.2.2.1.1 hP q0 0 he rfl (Int32.ofInt_eq_ofNat).symm hd (kk p l e s m args below meth c H locs lr C (am_o1 trivial (am_ot hst)) hl hP hS)
theorem am_s_switch {Γ : Am_G} {d n : Nat} {K : Option Am_V → Am_M → Prop} {r : Am_Row} {ls : Am_L} {st : List Am_V} {M : Am_M} {df lo hi2 x : Int} {offs : Array Int} (hr : r ∈ am_rows n) (hi : r.2.1 = .tableswitch df lo hi2 offs) (hR : am_R x ∧ (offs.size : Int) = hi2 - lo + 1) (hj : 0 ≤ (r.1 : Int) + df ∧ ∀ off ∈ offs.toList, 0 ≤ (r.1 : Int) + off) (hd0 : x < lo ∨ hi2 < x → am_At Γ d n (am_jmp r.1 df) ls st M K) (hin : ∀ (j : Nat) (off : Int), offs.toList[j]? = some off → x = lo + j → am_At Γ d n (am_jmp r.1 off) ls st M K) : am_At Γ d n r.1 ls (.inl x :: st) M K := by
  intro p l e s m args below meth c H locs lr C hst hl hP hS
  have ho := C.2.2.2.2.2.2.2.2
  have hdg := (am_row ho hr).1
  rw [hi] at hdg
  by_cases h1 : x < lo ∨ hi2 < x
  · exact lv_tableOut C.1 C.2.1 hdg (by rw [am_toInt hR.1]; exact h1) (am_jmpI hj.1) (hd0 h1 p l e s m args below meth c H locs lr C (am_ot hst) hl hP hS)
  · have h2 : ¬ x < lo := fun z => h1 (Or.inl z)
    have h3 : ¬ hi2 < x := fun z => h1 (Or.inr z)
    have hlt : (x - lo).toNat < offs.size := by have := hR.2; omega
    have ho1 : offs[(x - lo).toNat]? = some offs[(x - lo).toNat] := Array.getElem?_eq_getElem hlt
    have ho2 : offs.toList[(x - lo).toNat]? = some offs[(x - lo).toNat] := by rw [Array.getElem?_toList]; exact ho1
    refine lv_tableIn C.1 C.2.1 hdg (by rw [am_toInt hR.1]; exact h2) (by rw [am_toInt hR.1]; exact h3) (by rw [am_toInt hR.1]; exact ho1) (am_jmpI (hj.2 _ (List.mem_of_getElem? ho2))) ?_
    exact hin _ _ ho2 (by omega) p l e s m args below meth c H locs lr C (am_ot hst) hl hP hS
