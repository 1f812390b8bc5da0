/-! the abstract machine: calls on voters, instanceof -/
theorem am_s_vv {Γ : Am_G} {d n : Nat} {K : Option Am_V → Am_M → Prop} {r : Am_Row} {ls : Am_L} {st as : List Am_V} {M : Am_M} {x ci a : Nat} {q : Nat × Nat} {fs : List Am_F} {C nm ds : String} {k : Option Am_V → Am_M → Prop} (hr : r ∈ am_rows n) (hi : r.2.1 = .invokevirtual x) (hs : am_shape q.2 = some (.inr (ci, fs))) (hC : (vwCl[ci]?).map (fun q => q.1) = some C) (ha9 : a < 163)
    (w1 : Cond.methodLink (am_cn (am_mi n).2.2.2.2.1) x ⟨"RaisedArms$Voter", nm, ds⟩ ∈ am_tbl) (w2 : Cond.sameMethod "RaisedArms$Voter" "RaisedArms$Voter" nm ds ∈ am_tbl) (w3 : Cond.selects C ⟨"RaisedArms$Voter", nm, ds⟩ (am_mi a).1 ∈ am_tbl) (w4 : Cond.instanceMethod (am_mi a).1 ∈ am_tbl)
    (hdecl : (Cond.instanceMethod ⟨"RaisedArms$Voter", nm, ds⟩ ∈ am_tbl ∧ ∃ (b : ByteArray) (m : Nat) (t : Option FieldType), Cond.code ⟨"RaisedArms$Voter", nm, ds⟩ b m t ∈ am_tbl) ∨ Cond.declares ⟨"RaisedArms$Voter", nm, ds⟩ ∈ am_nest) (hpar : (parseMethodDescriptor ds).map (fun d => d.parameters.length) = some as.length) (hcat : am_cat st ≤ 8) (hc : am_callk Γ d a (.inr (.inr q) :: as) M k) (kk : ∀ v M', k v M' → am_At Γ d n (r.1 + 3) ls (v.toList ++ st) M' K) : am_At Γ d n r.1 ls (as.reverse ++ .inr (.inr q) :: st) M K := by
  intro p l e s m args below meth c H locs lr C0 hst hl hP hS
  have ho := C0.2.2.2.2.2.2.2.2
  have hd := am_dec (len := 3) ho hr hi (am_len_of (by intro h; exact Nat.eq_of_beq_eq_true h) hi)
  have ha : am_miok a := am_mi_all _ ha9
  obtain ⟨d', K', hdd, hEv, hK'⟩ := hc
  have hq : q ∈ am_ids := am_idmem (hst (.inr (.inr q)) (by simp)) hs
  obtain ⟨q0, hq0⟩ := List.getElem?_of_mem hq
  have he := am_wget (Γ := Γ) (M := M) hq0
  rw [am_ent_obj hs] at he
  obtain ⟨qc, g1, -, -⟩ := am_shobj hs
  have hcn : qc.1 = C := by
    rw [g1] at hC
    exact Option.some.inj hC
  have hrec := va_recv C0.2.2.2.2.2.2.2.1.1 hP g1 he
  rw [hcn] at hrec
  have hokA : ∀ v ∈ (.inr (.inr q) :: as : List Am_V), am_okv v := by
    intro v hv
    rcases List.mem_cons.mp hv with rfl | hv
    · exact Or.inl hq
    · exact hst v (by simp [hv])
  have hokR : ∀ v ∈ st, am_okv v := fun v hv => hst v (by simp [hv])
  have hts := C0.2.2.2.2.2.1
  have hRR : (am_room d').frames + 1 ≤ (am_room d).frames ∧ 8 + ((am_mi a).2.2.1 + 11) + (am_room d').locals ≤ (am_room d).locals := by
    have h60 := ha.2.2.1.2.2.2.2
    refine ⟨hdd, ?_⟩
    show 8 + ((am_mi a).2.2.1 + 11) + 100 * d' ≤ 100 * d
    omega
  have hM := hEv l
  have hW8 : (((st.map (am_c Γ.2.2.1)).map fun v => v.category)).sum ≤ 8 := by rw [am_cat_eq]; exact hcat
  have hD : va_Decl s ⟨"RaisedArms$Voter", nm, ds⟩ := by
    rcases hdecl with ⟨g2, b0, m0, t0, g3⟩ | g2
    · exact va_Decl.of (hts _ (am_goodw g2).1) (hts _ (am_goodw g3).1)
    · exact va_Decl.abs (C0.2.2.2.2.2.2.2.1.2.1 _ g2)
  have cu : va_CU (am_room d) s args (am_cn (am_mi n).2.2.2.2.1) C "RaisedArms$Voter" x ⟨"RaisedArms$Voter", nm, ds⟩ (am_mi a).1 (am_mi a).2.1 (am_mi a).2.2.1 (am_mi a).2.2.2.1 (am_ws a) (am_room d') 0 0 as.length := by
    refine ⟨⟨rfl, rfl, hRR.1, hRR.2, pay_in hts (am_good ha), List.mem_cons_self⟩, hts _ (am_goodw ha.1).1, hts _ (am_goodw ha.2.1).1, ⟨by decide, by decide⟩, fun sig h => ?_, hts _ (am_goodw w1).1, hts _ (am_goodw w2).1, hD, hts _ (am_goodw w3).1, hts _ (am_goodw w4).1⟩
    dsimp only at h
    rw [h] at hpar
    exact (Option.some.inj hpar).symm
  refine am_callW (rest := st.map (am_c Γ.2.2.1)) (va_runU (As := as.map (am_c Γ.2.2.1)) ⟨C0.1, C0.2.1, C0.2.2.2.1, C0.2.2.2.2.1, hts⟩ hM cu ⟨am_blind, hrec, fun U hU hW => ⟨by simp [am_c], hokA, by rw [hU]; exact hP, by rw [hU]; exact am_Fix_warm hW C0.2.2.2.2.2.2.2.1 hS.2.1⟩⟩ rfl (by simp) hl.1 (by simp [am_c]) (lv_room hW8) hd ⟨Nat.le_refl _, Nat.le_refl _⟩) hS (fun v M' H1 locs1 hk1 hv1 hP1 hS1 => ?_)
  rw [am_mapback]
  exact kk v M' (hK' v M' hk1) p l e s m args below meth c H1 locs1 lr C0 (am_okrest hv1 hokR) hl hP1 hS1
theorem am_s_inst {Γ : Am_G} {d n : Nat} {K : Option Am_V → Am_M → Prop} {r : Am_Row} {ls : Am_L} {st : List Am_V} {M : Am_M} {x ci : Nat} {y : Int} {q : Nat × Nat} {fs : List Am_F} {C nm : String} (hr : r ∈ am_rows n) (hi : r.2.1 = .instanceof x) (hs : am_shape q.2 = some (.inr (ci, fs))) (hC : (vwCl[ci]?).map (fun q => q.1) = some C) (hlk : Cond.classLink (am_cn (am_mi n).2.2.2.2.1) x nm ∈ am_tbl) (hy : (y = 1 ∧ (C = nm ∨ Cond.castable C nm ∈ am_nest)) ∨ (y = 0 ∧ (C, nm) ∈ am_nc)) (kk : am_At Γ d n (r.1 + 3) ls (.inl y :: st) M K) : am_At Γ d n r.1 ls (.inr (.inr q) :: st) M K := by
  intro p l e s m args below meth c H locs lr C0 hst hl hP hS
  have ho := C0.2.2.2.2.2.2.2.2
  have hd := am_dec (len := 3) ho hr hi (am_len_of (by intro h; exact Nat.eq_of_beq_eq_true h) hi)
  have hq : q ∈ am_ids := am_idmem (am_oh hst) hs
  obtain ⟨q0, hq0⟩ := List.getElem?_of_mem hq
  have he := am_wget (Γ := Γ) (M := M) hq0
  rw [am_ent_obj hs] at he
  obtain ⟨qc, g1, -, -⟩ := am_shobj hs
  have hcn : qc.1 = C := by
    rw [g1] at hC
    exact Option.some.inj hC
  have hrec := va_recv C0.2.2.2.2.2.2.2.1.1 hP g1 he
  rw [hcn] at hrec
  have hts := C0.2.2.2.2.2.1
  have k2 := kk p l e s m args below meth c H locs lr C0 (am_o1 trivial (am_ot hst)) hl hP hS
  rcases hy with ⟨rfl, h | h⟩ | ⟨rfl, h⟩
  · subst h
    exact va_instE C0.1 C0.2.1 C0.2.2.2.2.1 (hts _ (am_goodw hlk).1) hrec hd k2
  · exact va_instY C0.1 C0.2.1 C0.2.2.2.2.1 (hts _ (am_goodw hlk).1) (C0.2.2.2.2.2.2.2.1.2.1 _ h) hrec hd k2
  · exact va_instNo C0.1 C0.2.1 C0.2.2.2.2.1 (hts _ (am_goodw hlk).1) (C0.2.2.2.2.2.2.2.1.2.2.1 _ h) hrec hd k2
/-- a row, by its place -/
theorem am_rowat {n : Nat} {r : Am_Row} (i : Nat) (h : (am_rows n)[i]? = some r) : r ∈ am_rows n := List.mem_of_getElem? h
theorem am_at_eq {Γ : Am_G} {d n pc : Nat} {K : Option Am_V → Am_M → Prop} {ls : Am_L} {st : List Am_V} {M : Am_M} {r : Am_Row} (h : r.1 = pc) (k : am_At Γ d n r.1 ls st M K) : am_At Γ d n pc ls st M K := h ▸ k

