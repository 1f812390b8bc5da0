/-! the abstract machine: what carries -/
theorem am_toInt {x : Int} (h : am_R x) : (Int32.ofInt x).toInt = x := Int32.toInt_ofInt_of_le (by have := h.1; omega) (by have := h.2; omega)
theorem am_ltI {x y : Int} (hx : am_R x) (hy : am_R y) : Int32.ofInt x < Int32.ofInt y ↔ x < y := by rw [Int32.lt_iff_toInt_lt, am_toInt hx, am_toInt hy]
theorem am_leI {x y : Int} (hx : am_R x) (hy : am_R y) : Int32.ofInt x ≤ Int32.ofInt y ↔ x ≤ y := by rw [Int32.le_iff_toInt_le, am_toInt hx, am_toInt hy]
theorem am_eqI {x y : Int} (hx : am_R x) (hy : am_R y) : Int32.ofInt x = Int32.ofInt y ↔ x = y := by rw [← Int32.toInt_inj, am_toInt hx, am_toInt hy]
theorem am_R0 : am_R 0 := ⟨by omega, by omega⟩
theorem am_ofInt0 : Int32.ofInt 0 = 0 := by decide +kernel
theorem am_clampI {x : Int} (h : am_R x) : (Int32.ofInt x).toNatClampNeg = x.toNat := by rw [← Int32.toNat_toInt, am_toInt h]
theorem am_Rof {x : Int} {n : Nat} (h0 : 0 ≤ x) (h1 : x < n) (hn : n < 1000) : am_R x := ⟨by omega, by omega⟩
theorem am_vpI {x : Int} {n : Nat} (h0 : 0 ≤ x) (h1 : x < n) (hn : n < 1000) : vp_in (Int32.ofInt x) n := vp_in_iff.mpr ⟨by rw [am_toInt (am_Rof h0 h1 hn)]; exact h0, by rw [am_toInt (am_Rof h0 h1 hn)]; exact h1⟩
theorem am_nth_eq {α : Type} (l : List α) (i : Nat) : am_nth l i = l[i]? := by
  induction l generalizing i with
  | nil => simp [am_nth]
  | cons a l ih => cases i with
    | zero => simp [am_nth]
    | succ i => simp [am_nth, ih]
theorem am_lset_eq (l : Am_L) (i : Nat) (v : Am_V) : am_lset l i v = l.set i (some v) := by
  induction l generalizing i with
  | nil => simp [am_lset]
  | cons a l ih => cases i with
    | zero => simp [am_lset]
    | succ i => simp [am_lset, ih]
theorem am_idmem {q : Nat × Nat} {sh : Am_Sh} (h : am_okv (.inr (.inr q))) (hs : am_shape q.2 = some sh) : q ∈ am_ids := by
  rcases h with h | ⟨h, -⟩
  · exact h
  · rw [h] at hs
    rw [am_sh_none 99 (by omega)] at hs
    cases hs
theorem am_shlt {p : Nat} {sh : Am_Sh} (h : am_shape p = some sh) : p < 57 := by
  rcases Nat.lt_or_ge p 57 with h1 | h1
  · exact h1
  · rw [am_sh_none p h1] at h; cases h
theorem am_sharr {p ty len b : Nat} (h : am_shape p = some (.inl (ty, len, b))) : len < 1000 ∧ (ty = 2 → ∀ i, i < len → (b + i, 0) ∈ am_ids) := by
  have h1 := am_sh_ok p (am_shlt h)
  unfold am_shchk at h1
  rw [h] at h1
  simp only [Bool.and_eq_true, Bool.or_eq_true, Nat.blt_eq, List.all_eq_true, List.mem_range, List.elem_eq_mem, decide_eq_true_eq] at h1
  refine ⟨h1.1.2, fun ht i hi => ?_⟩
  rcases h1.2 with h2 | h2
  · omega
  · exact h2 i hi
theorem am_shobj {p ci : Nat} {fs : List Am_F} (h : am_shape p = some (.inr (ci, fs))) : ∃ q : vw_C, vwCl[ci]? = some q ∧ fs.length = q.2.2 ∧ ∀ k f, fs[k]? = some f → am_fchk f (q.2.1 k).2.2.1 = true := by
  have h1 := am_sh_ok p (am_shlt h)
  unfold am_shchk at h1
  rw [h] at h1
  dsimp only at h1
  cases hq : vwCl[ci]? with
  | none => rw [hq] at h1; cases h1
  | some q =>
    rw [hq] at h1
    simp only [Bool.and_eq_true, List.all_eq_true, List.mem_range] at h1
    refine ⟨q, rfl, Nat.eq_of_beq_eq_true h1.1, fun k f hf => ?_⟩
    have hk := h1.2 k (List.getElem?_eq_some_iff.mp hf).1
    rw [am_nth_eq, hf] at hk
    exact hk
theorem am_idfld {c : Nat × Nat} {ci : Nat} {fs : List Am_F} (hc : c ∈ am_ids) (h : am_shape c.2 = some (.inr (ci, fs))) : ∀ f ∈ fs, (∀ q, f = .inr q → (am_own c.1 q.1, q.2) ∈ am_ids) ∧ (f = .inl 2 → c = (0, 41)) := by
  intro f hf
  have h1 := List.all_eq_true.mp am_id_ok c hc
  unfold am_idchk at h1
  rw [h] at h1
  have h2 := List.all_eq_true.mp h1 f hf
  refine ⟨fun q hq => ?_, fun hq => ?_⟩
  · subst hq
    simpa using h2
  · subst hq
    simp only [Bool.and_eq_true] at h2
    exact Prod.ext (Nat.eq_of_beq_eq_true h2.1) (Nat.eq_of_beq_eq_true h2.2)
theorem am_fv_congr {M M' : Am_M} {e p k : Nat} {f : Am_F} (h1 : ∀ i, M.1 e p i = M'.1 e p i) (h2 : f = .inl 2 → M.2 = M'.2) : am_fv M e p k f = am_fv M' e p k f := by
  unfold am_fv
  split
  · rw [h2 rfl]
  · rw [h1]
  · rfl
theorem am_ent_congr {Γ : Am_G} {M M' : Am_M} {e p : Nat} (h1 : ∀ i, M.1 e p i = M'.1 e p i) (h2 : (e, p) = (0, 41) → M.2 = M'.2) (hc : (e, p) ∈ am_ids) : am_ent Γ M e p = am_ent Γ M' e p := by
  unfold am_ent
  split
  · congr 4; funext i; rw [h1]
  · congr 4; funext i; rw [h1]
  · rfl
  · rename_i ci fs hs
    have hf := am_idfld hc hs
    congr 2
    apply List.ext_getElem?
    intro j
    rw [List.getElem?_mapIdx, List.getElem?_mapIdx]
    cases hj : fs[j]? with
    | none => rfl
    | some f =>
      simp only [Option.map_some]
      rw [am_fv_congr h1 (fun e2 => h2 ((hf f (List.mem_of_getElem? hj)).2 e2))]
  · rfl
theorem am_wget {Γ : Am_G} {M : Am_M} {q : Nat × Nat} {q0 : Nat} (h : am_ids[q0]? = some q) : (am_world Γ M)[q0]? = some (Γ.2.2.1 q.1 q.2, am_ent Γ M q.1 q.2) := by simp [am_world, h]
theorem am_wset {Γ : Am_G} {M M' : Am_M} {q : Nat × Nat} {q0 : Nat} (h : am_ids[q0]? = some q) (hM : ∀ c ∈ am_ids, c ≠ q → am_ent Γ M c.1 c.2 = am_ent Γ M' c.1 c.2) : (am_world Γ M).set q0 (Γ.2.2.1 q.1 q.2, am_ent Γ M' q.1 q.2) = am_world Γ M' := by
  have hl : q0 < am_ids.length := (List.getElem?_eq_some_iff.mp h).1
  apply List.ext_getElem?
  intro i
  rw [List.getElem?_set]
  by_cases hi : q0 = i
  · subst hi
    rw [if_pos rfl, am_wget h]
    simp [am_world, hl]
  · rw [if_neg hi]
    cases hc : am_ids[i]? with
    | none => simp [am_world, hc]
    | some c =>
      rw [am_wget hc, am_wget hc, hM c (List.mem_of_getElem? hc) (fun e => hi ?_)]
      subst e
      exact (List.getElem?_inj hl am_id_nd).mp (h.trans hc.symm)
theorem am_set_other {M : Am_M} {e p k : Nat} {v : Int} {c : Nat × Nat} (h : c ≠ (e, p)) (i : Nat) : M.1 c.1 c.2 i = (am_set M e p k v).1 c.1 c.2 i := by
  unfold am_set
  dsimp only
  rw [if_neg]
  rintro ⟨-, h2, h3⟩
  exact h (Prod.ext h3 h2)
theorem am_wD {Γ : Am_G} (h : am_okr Γ.2.2.1) (M : Am_M) : va_D (am_A Γ) (am_world Γ M) := by
  refine ⟨fun i j p q hi hj hpq => ?_, fun k q hk => ?_⟩
  · simp only [am_world, List.getElem?_map, Option.map_eq_some_iff] at hi hj
    obtain ⟨c, hc, rfl⟩ := hi
    obtain ⟨c', hc', rfl⟩ := hj
    have e := h c (List.mem_of_getElem? hc) c' (List.mem_of_getElem? hc') hpq
    subst e
    exact (List.getElem?_inj (List.getElem?_eq_some_iff.mp hc).1 am_id_nd).mp (hc.trans hc'.symm)
  · simp only [am_world, List.getElem?_map, Option.map_eq_some_iff] at hk
    obtain ⟨c, hc, rfl⟩ := hk
    exact ⟨c, List.mem_of_getElem? hc, rfl⟩
/-- an entry, by its shape -/
theorem am_ent_int {Γ : Am_G} {M : Am_M} {e p len b : Nat} (h : am_shape p = some (.inl (0, len, b))) : am_ent Γ M e p = .inl (Γ.2.1.1, len, .inl (fun i => Int32.ofInt (M.1 e p i))) := by unfold am_ent; rw [h]; rfl
theorem am_ent_bool {Γ : Am_G} {M : Am_M} {e p len b : Nat} (h : am_shape p = some (.inl (1, len, b))) : am_ent Γ M e p = .inl (Γ.2.1.2.1, len, .inl (fun i => Int32.ofInt (M.1 e p i))) := by unfold am_ent; rw [h]; rfl
theorem am_ent_ref {Γ : Am_G} {M : Am_M} {e p len b : Nat} (h : am_shape p = some (.inl (2, len, b))) : am_ent Γ M e p = .inl (Γ.2.1.2.2, len, .inr (.inr (.inr (.inr (fun i => some (Γ.2.2.1 (b + i) 0)))))) := by unfold am_ent; rw [h]; rfl
theorem am_ent_obj {Γ : Am_G} {M : Am_M} {e p ci : Nat} {fs : List Am_F} (h : am_shape p = some (.inr (ci, fs))) : am_ent Γ M e p = .inr (ci, fs.mapIdx (fun k f => am_c Γ.2.2.1 (am_fv M e p k f))) := by unfold am_ent; rw [h]
theorem am_upd_fun {M : Am_M} {e p k : Nat} {x : Int} : upd (fun i => Int32.ofInt (M.1 e p i)) k (Int32.ofInt x) = fun i => Int32.ofInt ((am_set M e p k x).1 e p i) := by
  funext j
  by_cases h : j = k
  · subst h; simp [upd, am_set]
  · simp [upd, am_set, h]
theorem am_obj_set {Γ : Am_G} {M : Am_M} {e p k : Nat} {fs : List Am_F} {x : Int} (hk : fs[k]? = some (.inl 0) ∨ fs[k]? = some (.inl 1)) : (fs.mapIdx (fun k f => am_c Γ.2.2.1 (am_fv M e p k f))).set k (.int (Int32.ofInt x)) = fs.mapIdx (fun j f => am_c Γ.2.2.1 (am_fv (am_set M e p k x) e p j f)) := by
  have hl : k < fs.length := by rcases hk with h | h <;> exact (List.getElem?_eq_some_iff.mp h).1
  apply List.ext_getElem?
  intro j
  rw [List.getElem?_set, List.getElem?_mapIdx, List.getElem?_mapIdx]
  by_cases hj : k = j
  · subst hj
    rw [if_pos rfl, if_pos (by rw [List.length_mapIdx]; exact hl)]
    rcases hk with h | h <;> rw [h] <;> simp [am_fv, am_set, am_c]
  · rw [if_neg hj]
    cases hf : fs[j]? with
    | none => rfl
    | some f =>
      simp only [Option.map_some]
      congr 2
      unfold am_fv
      split
      · rfl
      · simp [am_set, Ne.symm hj]
      · rfl
theorem am_obj_setL {Γ : Am_G} {M : Am_M} {e p k : Nat} {fs : List Am_F} {y : Int64} (hk : fs[k]? = some (.inl 2)) (hu : ∀ j, fs[j]? = some (.inl 2) → j = k) : (fs.mapIdx (fun k f => am_c Γ.2.2.1 (am_fv M e p k f))).set k (.long y) = fs.mapIdx (fun j f => am_c Γ.2.2.1 (am_fv (M.1, y) e p j f)) := by
  have hl : k < fs.length := (List.getElem?_eq_some_iff.mp hk).1
  apply List.ext_getElem?
  intro j
  rw [List.getElem?_set, List.getElem?_mapIdx, List.getElem?_mapIdx]
  by_cases hj : k = j
  · subst hj
    rw [if_pos rfl, if_pos (by rw [List.length_mapIdx]; exact hl), hk]
    simp [am_fv, am_c]
  · rw [if_neg hj]
    cases hf : fs[j]? with
    | none => rfl
    | some f =>
      simp only [Option.map_some]
      congr 2
      unfold am_fv
      split
      · exact absurd (hu j hf).symm hj
      · rfl
      · rfl
theorem am_Nw_warm {s U : State} (hW : s.WarmedH U.vm) (h : ∀ w ∈ am_nest, va_Nw w s) : ∀ w ∈ am_nest, va_Nw w U := by
  intro w hw
  have h1 := h w hw
  simp only [am_nest, List.mem_cons, List.not_mem_nil, or_false] at hw
  rcases hw with rfl | rfl | rfl | rfl | rfl | rfl | rfl | rfl
  · exact va_Nw.warmM hW h1
  · exact va_Nw.warmM hW h1
  · exact va_Nw.warmM hW h1
  · exact va_Nw.warmM hW h1
  · exact va_Nw.warmM hW h1
  · exact va_Nw.warmM hW h1
  · exact va_Nw.warmC hW h1
  · exact va_Nw.warmD hW h1
theorem am_Nw_same {s U : State} (hv : s.vm = U.vm) (h : ∀ w ∈ am_nest, va_Nw w s) : ∀ w ∈ am_nest, va_Nw w U := by
  intro w hw
  have h1 := h w hw
  simp only [am_nest, List.mem_cons, List.not_mem_nil, or_false] at hw
  rcases hw with rfl | rfl | rfl | rfl | rfl | rfl | rfl | rfl <;> exact va_Nw.same rfl hv h1
/-- what is fixed stays, over a warmed machine and a heap that changed in the world alone -/
theorem am_Fix_warm {Γ : Am_G} {s U : State} {H H1 : Heap} (hW : s.WarmedH U.vm) (h : am_Fix Γ s H) (hk : ∀ a : Nat, a < H.size → ¬ am_A Γ a → H1[a]? = H[a]?) : am_Fix Γ U H1 := by
  obtain ⟨h1, h2, h3, h4, h5, h6, h7, h8⟩ := h
  exact ⟨va_K.moved hW.alike h1, am_Nw_warm hW h2, fun x hx => (h3 x hx).moved hW.alike, h4, (h5.moved hW.alike).kept hk, fun w hw => (h6 w hw).warm hW, (va_Z.moved hW.alike h7).kept hk, (va_Zq.moved hW.alike h8).kept hk⟩
theorem am_Fix_same {Γ : Am_G} {s U : State} {H : Heap} (hv : s.vm = U.vm) (h : am_Fix Γ s H) : am_Fix Γ U H := by
  obtain ⟨h1, h2, h3, h4, h5, h6, h7, h8⟩ := h
  have ha : s.vm.Alike U.vm := by rw [hv]; exact Vm.Alike.refl _
  exact ⟨va_K.moved ha h1, am_Nw_same hv h2, fun x hx => (h3 x hx).moved ha, h4, h5.moved ha, fun w hw => (h6 w hw).same hv.symm, va_Z.moved ha h7, va_Zq.moved ha h8⟩
