/-! the abstract machine: calls, ends, entries -/
section AMC
variable {p : Program} {l : Launch} {e : Env} {R : Room} {s : State} {m : MethodId} {args : Array Value} {below : List Frame} {meth : Method} {c : Code} {H : Heap} {locs : List Loc} {cells slots : Nat} {Q : State → Prop}
theorem am_callW {Γ : Am_G} {K' : Option Am_V → Am_M → Prop} {pc : Nat} {ls : Array Slot} {rest st0 : List Value} {a : Array Value} {H0 : Heap} (hr : va_Run p l e R s m args below meth c H locs cells slots 0 0 (F0 m pc ls st0) rest (am_Q Γ K' a) (am_A Γ)) (hS : va_S (am_A Γ) H0 H locs)
    (kk : ∀ (v : Option Am_V) (M' : Am_M) (H1 : Heap) (locs1 : List Loc), K' v M' → (∀ x, v = some x → am_okv x) → va_P Γ.1 vwCl (am_world Γ M') H1 → va_S (am_A Γ) H0 H1 locs1 → W p l e R s m args below meth c H1 locs1 cells slots Q (F0 m (pc + 3) ls ((v.map (am_c Γ.2.2.1)).toList ++ rest))) : W p l e R s m args below meth c H locs cells slots Q (F0 m pc ls st0) := by
  intro T hT X
  obtain ⟨v, st₀, t, T', L, h0, X', hL, e1, e2, ⟨⟨r, M', hv, hK, hok, hP1, hF1⟩, hz, hk⟩, st⟩ := hr T hT X
  cases hv
  rw [h0] at hz hk
  obtain ⟨t2, a1, b1⟩ := kk r M' T'.heap (locs ++ L) hK hok (by rw [e1]; exact hP1) ⟨Nat.le_trans hS.1 (by rw [e1]; exact hz), fun q h1 h2 => by rw [e1, hk q (Nat.lt_of_lt_of_le h1 hS.1) h2]; exact hS.2.1 q h1 h2, fun q hq => by
      rcases List.mem_append.mp hq with h | h
      · exact hS.2.2 q h
      · exact hL q h⟩ T' rfl X'
  exact ⟨t2, st t2 a1, b1⟩
end AMC
def am_Pc (Γ : Am_G) (as : List Am_V) (M : Am_M) : Array Value → State → Prop := va_Pc (as.map (am_c Γ.2.2.1)) (fun U => (∀ v ∈ as, am_okv v) ∧ va_P Γ.1 vwCl (am_world Γ M) U.heap ∧ am_Fix Γ U U.heap)
theorem am_blind {Γ : Am_G} {as : List Am_V} {M : Am_M} : FrameBlind (am_Pc Γ as M) := fun a U g mk h => ⟨h.1, h.2.1, h.2.2.1, (show am_Fix Γ (U.calling g mk a) U.heap from am_Fix_same (s := U) rfl h.2.2.2)⟩
theorem am_goodw {n : Nat} {w : Cond} (h : w ∈ am_tbl) : w ∈ am_ws n ∧ ((w.onTables && w.keeps) = true ∨ ∃ ty, w = .arrayClass ty) := ⟨List.mem_cons_of_mem _ h, good_of_word (List.mem_filter.mp h).2⟩
theorem am_good {n a : Nat} (h : am_miok a) : GoodIn (am_ws n) (am_ws a) := fun w hw => by
  rcases List.mem_cons.mp hw with rfl | hw
  · exact am_goodw h.1
  · exact am_goodw hw
theorem am_take_eq : ∀ (b : Nat) (acc st as st' : List Am_V), am_take b acc st = some (as, st') → acc.reverse ++ st = as.reverse ++ st' ∧ as.length = acc.length + b := by
  intro b
  induction b with
  | zero =>
    intro acc st as st' h
    cases h
    exact ⟨rfl, rfl⟩
  | succ b ih =>
    intro acc st as st' h
    cases st with
    | nil => cases h
    | cons v st =>
      obtain ⟨h1, h2⟩ := ih (v :: acc) st as st' h
      exact ⟨by rw [← h1]; simp, by rw [h2, List.length_cons]; omega⟩
theorem am_cat_eq {ρ : Nat → Nat → Nat} : ∀ st : List Am_V, ((st.map (am_c ρ)).map fun v => v.category).sum = am_cat st
  | [] => rfl
  | .inl x :: st => by
    have := am_cat_eq (ρ := ρ) st
    simp only [List.map_cons, List.sum_cons, am_cat, am_c, Value.category] at this ⊢
    omega
  | .inr (.inl x) :: st => by
    have := am_cat_eq (ρ := ρ) st
    simp only [List.map_cons, List.sum_cons, am_cat, am_c, Value.category] at this ⊢
    omega
  | .inr (.inr x) :: st => by
    have := am_cat_eq (ρ := ρ) st
    simp only [List.map_cons, List.sum_cons, am_cat, am_c, Value.category] at this ⊢
    omega
theorem am_okrest {v : Option Am_V} {st : List Am_V} (hv : ∀ x, v = some x → am_okv x) (h : ∀ x ∈ st, am_okv x) : ∀ x ∈ v.toList ++ st, am_okv x := by
  intro x hx
  rcases List.mem_append.mp hx with h1 | h1
  · exact hv x (by simpa using h1)
  · exact h x h1
theorem am_mapback {ρ : Nat → Nat → Nat} {v : Option Am_V} {st : List Am_V} : (v.map (am_c ρ)).toList ++ st.map (am_c ρ) = (v.toList ++ st).map (am_c ρ) := by
  cases v <;> simp
theorem am_s_virt {Γ : Am_G} {d n : Nat} {K : Option Am_V → Am_M → Prop} {r : Am_Row} {ls : Am_L} {st as : List Am_V} {M : Am_M} {x ci : Nat} {q : Nat × Nat} {fs : List Am_F} {k : Option Am_V → Am_M → Prop} (hr : r ∈ am_rows n) (hi : r.2.1 = .invokevirtual x) (hlt : ¬ 900 ≤ r.2.2.2.1) (hs : am_shape q.2 = some (.inr (ci, fs))) (hci : ci = r.2.2.2.2.2.toNat) (hlen : as.length = r.2.2.2.2.1) (hcat : am_cat st ≤ 8) (hc : am_callk Γ d r.2.2.2.1 (.inr (.inr q) :: as) M k) (kk : ∀ v M', k v M' → am_At Γ d n (r.1 + 3) ls (v.toList ++ st) M' K) : am_At Γ d n r.1 ls (as.reverse ++ .inr (.inr q) :: st) M K := by
  intro p l e s m args below meth c H locs lr C hst hl hP hS
  have ho := C.2.2.2.2.2.2.2.2
  have hd := am_dec (len := 3) ho hr hi (am_len_of (by intro h; exact Nat.eq_of_beq_eq_true h) hi)
  have hlk := (am_row ho hr).2.1
  unfold am_lnk at hlk
  rw [hi] at hlk
  simp only [Bool.or_eq_true, decide_eq_true_eq, Bool.and_eq_true] at hlk
  rcases hlk with h | ⟨⟨h1, h2⟩, h3⟩
  · exact absurd h hlt
  have hm : ((am_mi n).2.2.2.2.1, x, r.2.2.2.1, 0) ∈ am_ml := by simpa using h1
  obtain ⟨m1, m2, m3, m4⟩ := am_ml_ok _ hm
  have ha : am_miok r.2.2.2.1 := am_mi_all _ (am_ml_lt _ hm)
  obtain ⟨d', K', hdd, hEv, hK'⟩ := hc
  have hq : q ∈ am_ids := am_idmem (hst (.inr (.inr q)) (by simp)) hs
  obtain ⟨q0, hq0⟩ := List.getElem?_of_mem hq
  have he := am_wget (Γ := Γ) (M := M) hq0
  rw [am_ent_obj hs] at he
  obtain ⟨qc, g1, -, -⟩ := am_shobj hs
  have hcn : qc.1 = (am_mi r.2.2.2.1).1.cls := by
    rw [← hci, g1] at h2
    exact Option.some.inj h2
  have hrec := va_recv C.2.2.2.2.2.2.2.1.1 hP g1 he
  rw [hcn] at hrec
  have hokA : ∀ v ∈ (.inr (.inr q) :: as : List Am_V), am_okv v := by
    intro v hv
    rcases List.mem_cons.mp hv with rfl | hv
    · exact Or.inl hq
    · exact hst v (by simp [hv])
  have hokR : ∀ v ∈ st, am_okv v := fun v hv => hst v (by simp [hv])
  have hG : GoodIn (am_ws n) (wsV (am_cn (am_mi n).2.2.2.2.1) x (am_mi r.2.2.2.1).1.cls (am_mi r.2.2.2.1).1 (am_ws r.2.2.2.1)) := by
    intro w hw
    unfold wsV at hw
    rcases List.mem_append.mp hw with hw | hw
    · simp only [List.mem_cons, List.not_mem_nil, or_false] at hw
      rcases hw with rfl | rfl | rfl | rfl
      · exact am_goodw m1
      · exact am_goodw m2
      · exact am_goodw m3
      · exact am_goodw m4
    · exact am_good ha w hw
  have hRR : (am_room d').frames + 1 ≤ (am_room d).frames ∧ 8 + ((am_mi r.2.2.2.1).2.2.1 + 11) + (am_room d').locals ≤ (am_room d).locals := by
    have h60 := ha.2.2.1.2.2.2.2
    refine ⟨hdd, ?_⟩
    show 8 + ((am_mi r.2.2.2.1).2.2.1 + 11) + 100 * d' ≤ 100 * d
    omega
  have hM := hEv l
  have hW8 : (((st.map (am_c Γ.2.2.1)).map fun v => v.category)).sum ≤ 8 := by rw [am_cat_eq]; exact hcat
  refine am_callW (rest := st.map (am_c Γ.2.2.1)) (va_runV (As := as.map (am_c Γ.2.2.1)) ⟨C.1, C.2.1, C.2.2.2.1, C.2.2.2.2.1, C.2.2.2.2.2.1⟩ hM (cwV r.2.2.2.2.1 C.2.2.2.2.2.1 hG rfl rfl rfl ⟨rfl, ha.2.2.1.2.1, ha.2.2.1.2.2.1, h3⟩ hRR) ⟨am_blind, hrec, fun U hU hW => ⟨by simp [am_c], hokA, by rw [hU]; exact hP, by rw [hU]; exact am_Fix_warm hW C.2.2.2.2.2.2.2.1 hS.2.1⟩⟩ rfl (by simpa using hlen) hl.1 (by simp [am_c]) (lv_room hW8) hd ⟨Nat.le_refl _, Nat.le_refl _⟩) hS (fun v M' H1 locs1 hk1 hv1 hP1 hS1 => ?_)
  rw [am_mapback]
  exact kk v M' (hK' v M' hk1) p l e s m args below meth c H1 locs1 lr C (am_okrest hv1 hokR) hl hP1 hS1
theorem am_s_stat {Γ : Am_G} {d n : Nat} {K : Option Am_V → Am_M → Prop} {r : Am_Row} {ls : Am_L} {st as : List Am_V} {M : Am_M} {x : Nat} {k : Option Am_V → Am_M → Prop} (hr : r ∈ am_rows n) (hi : r.2.1 = .invokestatic x) (hlt : ¬ 900 ≤ r.2.2.2.1) (hlen : as.length = r.2.2.2.2.1) (hcat : am_cat st ≤ 8) (hc : am_callk Γ d r.2.2.2.1 as M k) (kk : ∀ v M', k v M' → am_At Γ d n (r.1 + 3) ls (v.toList ++ st) M' K) : am_At Γ d n r.1 ls (as.reverse ++ st) M K := by
  intro p l e s m args below meth c H locs lr C hst hl hP hS
  have ho := C.2.2.2.2.2.2.2.2
  have hd := am_dec (len := 3) ho hr hi (am_len_of (by intro h; exact Nat.eq_of_beq_eq_true h) hi)
  have hlk := (am_row ho hr).2.1
  unfold am_lnk at hlk
  rw [hi] at hlk
  have hb : Nat.ble 900 r.2.2.2.1 = false := by
    cases hq : Nat.ble 900 r.2.2.2.1 with
    | false => rfl
    | true => exact absurd (Nat.le_of_ble_eq_true hq) hlt
  simp only [hb, cond_false, Bool.or_eq_true, decide_eq_true_eq, Bool.and_eq_true] at hlk
  obtain ⟨hlk, h3⟩ := hlk
  obtain ⟨d', K', hdd, hEv, hK'⟩ := hc
  have hokA : ∀ v ∈ as, am_okv v := fun v hv => hst v (by simp [hv])
  have hokR : ∀ v ∈ st, am_okv v := fun v hv => hst v (by simp [hv])
  have hM := hEv l
  have hW8 : (((st.map (am_c Γ.2.2.1)).map fun v => v.category)).sum ≤ 8 := by rw [am_cat_eq]; exact hcat
  have fin : ∀ (v : Option Am_V) (M' : Am_M) (H1 : Heap) (locs1 : List Loc), K' v M' → (∀ x, v = some x → am_okv x) → va_P Γ.1 vwCl (am_world Γ M') H1 → va_S (am_A Γ) s.heap H1 locs1 → W p l e (am_room d) s m args below meth c H1 locs1 0 0 (MQ below (am_Q Γ K) args s 0 0 (am_A Γ)) (F0 m (r.1 + 3) lr ((v.map (am_c Γ.2.2.1)).toList ++ st.map (am_c Γ.2.2.1))) := by
    intro v M' H1 locs1 hk1 hv1 hP1 hS1
    rw [am_mapback]
    exact kk v M' (hK' v M' hk1) p l e s m args below meth c H1 locs1 lr C (am_okrest hv1 hokR) hl hP1 hS1
  rcases hlk with ⟨h1, -⟩ | h1
  · have hm : ((am_mi n).2.2.2.2.1, x, r.2.2.2.1, 1) ∈ am_ml := by simpa using h1
    obtain ⟨m1, m2, m3⟩ := am_ml_ok _ hm
    have ha : am_miok r.2.2.2.1 := am_mi_all _ (am_ml_lt _ hm)
    have hRR : (am_room d').frames + 1 ≤ (am_room d).frames ∧ 8 + ((am_mi r.2.2.2.1).2.2.1 + 11) + (am_room d').locals ≤ (am_room d).locals := by
      have h60 := ha.2.2.1.2.2.2.2
      refine ⟨hdd, ?_⟩
      show 8 + ((am_mi r.2.2.2.1).2.2.1 + 11) + 100 * d' ≤ 100 * d
      omega
    have hG : GoodIn (am_ws n) (va_wsS (am_cn (am_mi n).2.2.2.2.1) x (am_mi r.2.2.2.1).1 (am_ws r.2.2.2.1)) := by
      intro w hw
      unfold va_wsS at hw
      rcases List.mem_append.mp hw with hw | hw
      · simp only [List.mem_cons, List.not_mem_nil, or_false] at hw
        rcases hw with rfl | rfl | rfl
        · exact am_goodw m1
        · exact am_goodw m2
        · exact am_goodw m3
      · exact am_good ha w hw
    exact am_callW (rest := st.map (am_c Γ.2.2.1)) (va_runS (As := as.map (am_c Γ.2.2.1)) ⟨C.1, C.2.1, C.2.2.2.1, C.2.2.2.2.1, C.2.2.2.2.2.1⟩ hM (va_cwS r.2.2.2.2.1 C.2.2.2.2.2.1 hG rfl rfl rfl ⟨ha.2.2.1.2.1, ha.2.2.1.2.2.1, h3⟩ hRR) ⟨am_blind, fun U hU hW => ⟨rfl, hokA, by rw [hU]; exact hP, by rw [hU]; exact am_Fix_warm hW C.2.2.2.2.2.2.2.1 hS.2.1⟩⟩ rfl (by simpa using hlen) hl.1 (by simp) (lv_room hW8) hd ⟨Nat.le_refl _, Nat.le_refl _⟩) hS fin
  · have hm : ((am_mi n).2.2.2.2.1, x, r.2.2.2.1, 2) ∈ am_ml := by simpa using h1
    obtain ⟨m1, m2, m3⟩ := am_ml_ok _ hm
    have ha : am_miok r.2.2.2.1 := am_mi_all _ (am_ml_lt _ hm)
    have hRR : (am_room d').frames + 1 ≤ (am_room d).frames ∧ 8 + ((am_mi r.2.2.2.1).2.2.1 + 11) + (am_room d').locals ≤ (am_room d).locals := by
      have h60 := ha.2.2.1.2.2.2.2
      refine ⟨hdd, ?_⟩
      show 8 + ((am_mi r.2.2.2.1).2.2.1 + 11) + 100 * d' ≤ 100 * d
      omega
    have hts := C.2.2.2.2.2.1
    exact am_callW (rest := st.map (am_c Γ.2.2.1)) (va_runSN (As := as.map (am_c Γ.2.2.1)) ⟨C.1, C.2.1, C.2.2.2.1, C.2.2.2.2.1, hts⟩ hM ⟨va_cnB r.2.2.2.2.1 hts (am_good ha) rfl rfl rfl (C.2.2.2.2.2.2.2.1.2.1 _ m1) (hts _ (am_goodw m3).1) ⟨ha.2.2.1.2.1, ha.2.2.1.2.2.1, h3⟩ hRR, hts _ (am_goodw m2).1, trivial⟩ ⟨am_blind, fun U hU hW => ⟨rfl, hokA, by rw [hU]; exact hP, by rw [hU]; exact am_Fix_warm hW C.2.2.2.2.2.2.2.1 hS.2.1⟩⟩ rfl (by simpa using hlen) hl.1 (by simp) (lv_room hW8) hd ⟨Nat.le_refl _, Nat.le_refl _⟩) hS fin
-- ends
theorem am_end {Γ : Am_G} {n : Nat} {K : Option Am_V → Am_M → Prop} {M : Am_M} {v : Option Am_V} {p : Program} {s t : State} {m : MethodId} {args : Array Value} {meth : Method} {c : Code} {H : Heap} {locs : List Loc} (C : am_Ctx Γ n p s m args meth c) (hK : K v M) (hv : ∀ x, v = some x → am_okv x) (hP : va_P Γ.1 vwCl (am_world Γ M) H) (hS : va_S (am_A Γ) s.heap H locs) (ht : t.heap = H) (hW : s.WarmedH t.vm) : am_Q Γ K args s (.returned (v.map (am_c Γ.2.2.1))) t := ⟨⟨v, M, rfl, hK, hv, by rw [ht]; exact hP, by rw [ht]; exact am_Fix_warm hW C.2.2.2.2.2.2.2.1 hS.2.1⟩, hS.F ht⟩
theorem am_s_ireturn {Γ : Am_G} {d n : Nat} {K : Option Am_V → Am_M → Prop} {r : Am_Row} {ls : Am_L} {M : Am_M} {x : Int} (hr : r ∈ am_rows n) (hi : r.2.1 = .ireturn) (h : (am_mi n).2.2.2.1 = some .int ∨ ((am_mi n).2.2.2.1 = some .boolean ∧ (x = 0 ∨ x = 1))) (hK : K (some (.inl x)) M) : am_At Γ d n r.1 ls [.inl x] M K := by
  intro p l e s m args below meth c H locs lr C hst hl hP hS
  have ho := C.2.2.2.2.2.2.2.2
  have hd := am_dec (len := 1) ho hr hi (am_len_of (by intro h; exact Nat.eq_of_beq_eq_true h) hi)
  have hq : ∀ t : State, t.heap = H → s.WarmedH t.vm → am_Q Γ K args s (.returned (some (.int (Int32.ofInt x)))) t := fun t ht hW => am_end (v := some (.inl x)) C hK (fun y hy => by cases hy; trivial) hP hS ht hW
  rcases h with h | ⟨h, hx⟩
  · exact W.iret C.1 C.2.1 (C.2.2.1.trans h) hq hS.2.2 hd C.2.2.2.2.2.2.1
  · exact W.zret C.1 C.2.1 (C.2.2.1.trans h) (by rcases hx with rfl | rfl <;> decide +kernel) hq hS.2.2 hd C.2.2.2.2.2.2.1
theorem am_s_areturn {Γ : Am_G} {d n : Nat} {K : Option Am_V → Am_M → Prop} {r : Am_Row} {ls : Am_L} {M : Am_M} {q : Nat × Nat} {o : String} (hr : r ∈ am_rows n) (hi : r.2.1 = .areturn) (h : (am_mi n).2.2.2.1 = some (.object o)) (hK : K (some (.inr (.inr q))) M) : am_At Γ d n r.1 ls [.inr (.inr q)] M K := by
  intro p l e s m args below meth c H locs lr C hst hl hP hS
  have ho := C.2.2.2.2.2.2.2.2
  have hd := am_dec (len := 1) ho hr hi (am_len_of (by intro h; exact Nat.eq_of_beq_eq_true h) hi)
  exact W.aret C.1 C.2.1 (C.2.2.1.trans h) (Or.inl ⟨_, rfl⟩) (Or.inr ⟨_, rfl⟩) (fun t ht hW => am_end (v := some (.inr (.inr q))) C hK (fun y hy => by cases hy; exact am_oh hst) hP hS ht hW) hS.2.2 hd C.2.2.2.2.2.2.1
theorem am_s_return {Γ : Am_G} {d n : Nat} {K : Option Am_V → Am_M → Prop} {r : Am_Row} {ls : Am_L} {M : Am_M} (hr : r ∈ am_rows n) (hi : r.2.1 = .return_) (h : (am_mi n).2.2.2.1 = none) (hK : K none M) : am_At Γ d n r.1 ls [] M K := by
  intro p l e s m args below meth c H locs lr C hst hl hP hS
  have ho := C.2.2.2.2.2.2.2.2
  have hd := am_dec (len := 1) ho hr hi (am_len_of (by intro h; exact Nat.eq_of_beq_eq_true h) hi)
  exact W.vret C.1 C.2.1 (C.2.2.1.trans h) (fun t ht hW => am_end (v := none) C hK (fun y hy => by cases hy) hP hS ht hW) hS.2.2 hd C.2.2.2.2.2.2.1
-- the JDK's own
theorem am_jfact {n : Nat} {idx a : Nat} (h : am_jl.elem ((am_mi n).2.2.2.2.1, idx, a) = true) : Cond.methodLink (am_cn (am_mi n).2.2.2.2.1) idx (am_jname a) ∈ am_tbl := am_jl_ok ((am_mi n).2.2.2.2.1, idx, a) (by simpa using h)
theorem am_cpy_fun {M : Am_M} {e1 p1 e2 p2 k : Nat} : va_cpy (fun i => Int32.ofInt (M.1 e1 p1 i)) (fun i => Int32.ofInt (M.1 e2 p2 i)) 0 0 k = fun i => Int32.ofInt ((am_cpy M e1 p1 e2 p2 k).1 e2 p2 i) := by
  funext j
  unfold va_cpy am_cpy
  by_cases h : j < k
  · simp [h]
  · simp [h]
theorem am_nfw : nativeFrameWords "java/lang/System" "arraycopy" 5 ≤ 60 := by decide +kernel
theorem am_s_jdk {Γ : Am_G} {d n : Nat} {K : Option Am_V → Am_M → Prop} {r : Am_Row} {ls : Am_L} {st : List Am_V} {M : Am_M} {x : Nat} {k : List Am_V → Am_M → Prop} (hr : r ∈ am_rows n) (hi : r.2.1 = .invokestatic x) (hge : 900 ≤ r.2.2.2.1) (h : am_jdk r.2.2.2.1 k d st M) (kk : ∀ st M, k st M → am_At Γ d n (r.1 + 3) ls st M K) : am_At Γ d n r.1 ls st M K := by
  intro p l e s m args below meth c H locs lr C hst hl hP hS
  have ho := C.2.2.2.2.2.2.2.2
  have hd := am_dec (len := 3) ho hr hi (am_len_of (by intro h; exact Nat.eq_of_beq_eq_true h) hi)
  have hlk := (am_row ho hr).2.1
  unfold am_lnk at hlk
  rw [hi] at hlk
  have hb : Nat.ble 900 r.2.2.2.1 = true := Nat.ble_eq_true_of_le hge
  simp only [hb, cond_true] at hlk
  have hlink := am_jfact hlk
  have hts := C.2.2.2.2.2.1
  have T : ∀ {w : Cond}, w ∈ am_tbl → w.before args s = true := fun hw => hts _ (List.mem_cons_of_mem _ hw)
  obtain ⟨⟨a1, a2⟩, ⟨b1, b2⟩, ⟨c1, c2⟩, mi, ⟨n1, n2, n3⟩⟩ := am_math_ok
  have hml : c.maxLocals = lr.size := C.2.2.2.1.trans hl.1.symm
  unfold am_jdk at h
  split at h
  · rename_i ha
    rw [ha] at hlink
    split at h
    · rename_i y z st'
      obtain ⟨⟨⟨hx, hy⟩, h1, h8⟩, hk⟩ := h
      have k2 := kk _ _ hk p l e s m args below meth c H locs lr C (am_o1 trivial (am_ot (am_ot hst))) hl hP hS
      have hc := am_cat_eq (ρ := Γ.2.2.1) st'
      refine va_mmin C.1 C.2.1 hml C.2.2.2.2.1 (T hlink) (T a1) (T mi) (T a2) h1 (by show _ ≤ 100 * d; omega) (Nat.zero_le _) (Nat.zero_le _) hd ?_
      have e1 : (if Int32.ofInt y < Int32.ofInt z then Int32.ofInt y else Int32.ofInt z) = Int32.ofInt (if y < z then y else z) := by
        by_cases hz : y < z
        · rw [if_pos ((am_ltI hy hx).mpr hz), if_pos hz]
        · rw [if_neg (fun w => hz ((am_ltI hy hx).mp w)), if_neg hz]
      rw [e1]
      exact k2
    · exact h.elim
  · rename_i ha
    rw [ha] at hlink
    split at h
    · rename_i y z st'
      obtain ⟨⟨⟨hx, hy⟩, h1, h8⟩, hk⟩ := h
      have k2 := kk _ _ hk p l e s m args below meth c H locs lr C (am_o1 trivial (am_ot (am_ot hst))) hl hP hS
      have hc := am_cat_eq (ρ := Γ.2.2.1) st'
      refine va_mmax C.1 C.2.1 hml C.2.2.2.2.1 (T hlink) (T b1) (T mi) (T b2) h1 (by show _ ≤ 100 * d; omega) (Nat.zero_le _) (Nat.zero_le _) hd ?_
      have e1 : (if Int32.ofInt z < Int32.ofInt y then Int32.ofInt y else Int32.ofInt z) = Int32.ofInt (if z < y then y else z) := by
        by_cases hz : z < y
        · rw [if_pos ((am_ltI hx hy).mpr hz), if_pos hz]
        · rw [if_neg (fun w => hz ((am_ltI hx hy).mp w)), if_neg hz]
      rw [e1]
      exact k2
    · exact h.elim
  · rename_i ha
    rw [ha] at hlink
    split at h
    · rename_i z st'
      obtain ⟨⟨hx, h1, h8⟩, hk⟩ := h
      have k2 := kk _ _ hk p l e s m args below meth c H locs lr C (am_o1 trivial (am_ot hst)) hl hP hS
      have hc := am_cat_eq (ρ := Γ.2.2.1) st'
      refine va_mabs C.1 C.2.1 hml C.2.2.2.2.1 (T hlink) (T c1) (T mi) (T c2) h1 (by show _ ≤ 100 * d; omega) (Nat.zero_le _) (Nat.zero_le _) hd ?_
      have e0 : 0 ≤ Int32.ofInt z ↔ 0 ≤ z := by rw [← am_ofInt0]; exact am_leI am_R0 hx
      have e1 : (if 0 ≤ Int32.ofInt z then Int32.ofInt z else 0 - Int32.ofInt z) = Int32.ofInt (if 0 ≤ z then z else 0 - z) := by
        by_cases hz : 0 ≤ z
        · rw [if_pos (e0.mpr hz), if_pos hz]
        · rw [if_neg (fun w => hz (e0.mp w)), if_neg hz, Int32.ofInt_sub, am_ofInt0]
      rw [e1]
      exact k2
    · exact h.elim
  · rename_i h900 h901 h902
    have hjn : am_jname r.2.2.2.1 = arraycopyName := by
      unfold am_jname
      split
      · rename_i z; exact absurd z h900
      · rename_i z; exact absurd z h901
      · rename_i z; exact absurd z h902
      · rfl
    rw [hjn] at hlink
    split at h
    · rename_i mm q2 q1 st'
      split at h
      · rename_i l1 b1' l2 b2' hs1 hs2
        obtain ⟨⟨⟨z0, z1, z2⟩, ⟨w1, w2⟩, h1, h8⟩, hk⟩ := h
        have hR : am_R mm := ⟨by omega, by omega⟩
        have hc := am_cat_eq (ρ := Γ.2.2.1) st'
        obtain ⟨p1, hp1⟩ := List.getElem?_of_mem (am_idmem (hst (.inr (.inr q1)) (by simp)) hs1)
        obtain ⟨p2, hp2⟩ := List.getElem?_of_mem (am_idmem (hst (.inr (.inr q2)) (by simp)) hs2)
        have he1 := am_wget (Γ := Γ) (M := M) hp1
        rw [am_ent_int hs1] at he1
        have he2 := am_wget (Γ := Γ) (M := M) hp2
        rw [am_ent_int hs2] at he2
        have hz : (Int32.ofInt 0).toNatClampNeg = 0 := by decide +kernel
        have hmm : (Int32.ofInt mm).toNatClampNeg = mm.toNat := am_clampI hR
        have hn0 : ¬ Int32.ofInt mm < 0 := fun w => by
          rw [← am_ofInt0, am_ltI hR am_R0] at w
          omega
        refine va_copyi (ty := .int) C.1 C.2.1 hml C.2.2.2.2.1 (T hlink) (T n1) (T n2) (T n3) C.2.2.2.2.2.2.2.1.1 hP (am_wD C.2.2.2.2.2.2.2.1.2.2.2.1 M) hS p1 p2 0 0 he1 he2 rfl rfl rfl (by decide +kernel) (by decide +kernel) hn0 (by rw [hz, hmm]; omega) (by rw [hz, hmm]; omega) (fun _ _ => rfl) h1 (by have := am_nfw; show _ ≤ 100 * d; omega) hd (fun H1 locs1 hP1 _ hS1 => ?_)
        rw [hz, hmm, am_cpy_fun, ← am_ent_int (Γ := Γ) (M := am_cpy M q1.1 q1.2 q2.1 q2.2 mm.toNat) (e := q2.1) hs2, am_wset (Γ := Γ) (M := M) (M' := am_cpy M q1.1 q1.2 q2.1 q2.2 mm.toNat) hp2 (fun c hc hne => am_ent_congr (fun i => by
          unfold am_cpy
          dsimp only
          rw [if_neg]
          rintro ⟨g1, g2, -⟩
          exact hne (Prod.ext g2 g1)) (fun _ => rfl) hc)] at hP1
        exact kk _ _ hk p l e s m args below meth c H1 locs1 lr C (am_ot (am_ot (am_ot (am_ot (am_ot hst))))) hl hP1 hS1
      · exact h.elim
    · exact h.elim
