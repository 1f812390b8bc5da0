/-! the abstract machine: the step function is sound -/
theorem am_from_in {full : List Am_Row} {pc : Nat} : ∀ x ∈ am_from full pc, x ∈ full := by
  induction full with
  | nil => intro x hx; exact hx
  | cons r rs ih =>
    intro x hx
    unfold am_from at hx
    cases hb : Nat.beq r.1 pc with
    | true => rw [hb] at hx; exact hx
    | false => rw [hb] at hx; exact List.mem_cons_of_mem _ (ih x hx)
theorem am_brk {c a b : Prop} (h : am_br c a b) : (c → a) ∧ (¬ c → b) := h
theorem am_sw_in {k : Int → Prop} : ∀ (offs : List Int) (lo x : Int), am_sw lo offs x k → ∀ (j : Nat) (off : Int), offs[j]? = some off → x = lo + j → k off := by
  intro offs
  induction offs with
  | nil => intro lo x h j off hj; simp at hj
  | cons o l ih =>
    intro lo x h j off hj hx
    cases j with
    | zero =>
      simp at hj
      subst hj
      exact h.1 (by simpa using hx)
    | succ j =>
      simp at hj
      exact ih (lo + 1) x h.2 j off hj (by rw [hx]; push_cast; omega)
theorem am_jrow {n : Nat} {r : Am_Row} (hn : n < 163) (hr : r ∈ am_rows n) : am_jok r = true := List.all_eq_true.mp (am_j_all n hn) r hr
set_option maxHeartbeats 4000000 in
theorem am_step_ok {Γ : Am_G} {d n : Nat} {K : Option Am_V → Am_M → Prop} {k : List Am_Row → Nat → Am_L → List Am_V → Am_M → Prop} {r : Am_Row} {rs : List Am_Row} {ls : Am_L} {st : List Am_V} {M : Am_M} (hn : n < 163) (hr : r ∈ am_rows n) (hrs : ∀ x ∈ rs, x ∈ am_rows n) (hk : ∀ rs pc ls st M, (∀ x ∈ rs, x ∈ am_rows n) → k rs pc ls st M → am_At Γ d n pc ls st M K) (h : am_step Γ d n K k r rs ls st M) : am_At Γ d n r.1 ls st M K := by
  have hj := am_jrow hn hr
  unfold am_jok at hj
  unfold am_step at h
  split at h
  · rename_i x hi
    exact am_s_iconst hr hi (hk _ _ _ _ _ hrs h)
  · rename_i x hi
    exact am_s_bipush hr hi (hk _ _ _ _ _ hrs h)
  · rename_i x hi
    exact am_s_sipush hr hi (hk _ _ _ _ _ hrs h)
  · rename_i x hi
    exact am_s_lconst hr hi (hk _ _ _ _ _ hrs h)
  · rename_i x hi
    exact am_s_ldc2 hr hi (hk _ _ _ _ _ hrs h)
  · rename_i j hi
    split at h
    · rename_i x hx
      exact am_s_iload_n hr hi hx (hk _ _ _ _ _ hrs h)
    · exact h.elim
  · rename_i j hi
    split at h
    · rename_i x hx
      exact am_s_iload hr hi hx (hk _ _ _ _ _ hrs h)
    · exact h.elim
  · rename_i j hi
    split at h
    · rename_i x hx
      exact am_s_lload_n hr hi hx (hk _ _ _ _ _ hrs h)
    · exact h.elim
  · rename_i j hi
    split at h
    · rename_i x hx
      exact am_s_aload_n hr hi hx (hk _ _ _ _ _ hrs h)
    · exact h.elim
  · rename_i j hi
    split at h
    · rename_i x hx
      exact am_s_aload hr hi hx (hk _ _ _ _ _ hrs h)
    · exact h.elim
  · rename_i j hi
    split at h
    · rename_i x st'
      cases hb : (am_nolong ls j.val && Nat.blt j.val ls.length) with
      | false => rw [hb] at h; exact h.elim
      | true =>
        rw [hb] at h
        simp only [Bool.and_eq_true] at hb
        exact am_s_istore_n hr hi hb.1 (Nat.blt_eq.mp hb.2) (hk _ _ _ _ _ hrs h)
    · exact h.elim
  · rename_i j hi
    split at h
    · rename_i x st'
      cases hb : (am_nolong ls j && Nat.blt j ls.length) with
      | false => rw [hb] at h; exact h.elim
      | true =>
        rw [hb] at h
        simp only [Bool.and_eq_true] at hb
        exact am_s_istore hr hi hb.1 (Nat.blt_eq.mp hb.2) (hk _ _ _ _ _ hrs h)
    · exact h.elim
  · rename_i j hi
    split at h
    · rename_i x st'
      cases hb : (am_nolong ls j.val && Nat.blt j.val ls.length) with
      | false => rw [hb] at h; exact h.elim
      | true =>
        rw [hb] at h
        simp only [Bool.and_eq_true] at hb
        exact am_s_astore_n hr hi hb.1 (Nat.blt_eq.mp hb.2) (hk _ _ _ _ _ hrs h)
    · exact h.elim
  · rename_i j hi
    split at h
    · rename_i x st'
      cases hb : (am_nolong ls j && Nat.blt j ls.length) with
      | false => rw [hb] at h; exact h.elim
      | true =>
        rw [hb] at h
        simp only [Bool.and_eq_true] at hb
        exact am_s_astore hr hi hb.1 (Nat.blt_eq.mp hb.2) (hk _ _ _ _ _ hrs h)
    · exact h.elim
  · rename_i j z hi
    split at h
    · rename_i x hx
      cases hb : am_nolong ls j with
      | false => rw [hb] at h; exact h.elim
      | true =>
        rw [hb] at h
        exact am_s_iinc hr hi hx hb (hk _ _ _ _ _ hrs h)
    · exact h.elim
  · rename_i hi
    split at h
    · exact am_s_dup_i hr hi (hk _ _ _ _ _ hrs h)
    · exact am_s_dup_a hr hi (hk _ _ _ _ _ hrs h)
    · exact h.elim
  · rename_i hi
    split at h
    · exact am_s_dup2 hr hi (hk _ _ _ _ _ hrs h)
    · exact h.elim
  · rename_i hi
    split at h
    · exact am_s_pop_i hr hi (hk _ _ _ _ _ hrs h)
    · exact am_s_pop_a hr hi (hk _ _ _ _ _ hrs h)
    · exact h.elim
  · rename_i hi
    split at h
    · exact am_s_iadd hr hi (hk _ _ _ _ _ hrs h)
    · exact h.elim
  · rename_i hi
    split at h
    · exact am_s_isub hr hi (hk _ _ _ _ _ hrs h)
    · exact h.elim
  · rename_i hi
    split at h
    · exact am_s_imul hr hi (hk _ _ _ _ _ hrs h)
    · exact h.elim
  · rename_i hi
    split at h
    · exact am_s_ineg hr hi (hk _ _ _ _ _ hrs h)
    · exact h.elim
  · rename_i hi
    split at h
    · exact am_s_idiv hr hi h.1 (hk _ _ _ _ _ hrs h.2)
    · exact h.elim
  · rename_i hi
    split at h
    · exact am_s_irem hr hi h.1 (hk _ _ _ _ _ hrs h.2)
    · exact h.elim
  · rename_i hi
    split at h
    · exact am_s_iand hr hi (hk _ _ _ _ _ hrs h)
    · exact h.elim
  · rename_i hi
    split at h
    · exact am_s_ior hr hi (hk _ _ _ _ _ hrs h)
    · exact h.elim
  · rename_i hi
    split at h
    · exact am_s_ixor hr hi (hk _ _ _ _ _ hrs h)
    · exact h.elim
  · rename_i hi
    split at h
    · exact am_s_ishl hr hi (hk _ _ _ _ _ hrs h)
    · exact h.elim
  · rename_i hi
    split at h
    · exact am_s_ishr hr hi (hk _ _ _ _ _ hrs h)
    · exact h.elim
  · rename_i hi
    split at h
    · exact am_s_i2l hr hi (hk _ _ _ _ _ hrs h)
    · exact h.elim
  · rename_i hi
    split at h
    · exact am_s_l2i hr hi (hk _ _ _ _ _ hrs h)
    · exact h.elim
  · rename_i hi
    split at h
    · exact am_s_ladd hr hi (hk _ _ _ _ _ hrs h)
    · exact h.elim
  · rename_i hi
    split at h
    · exact am_s_lsub hr hi (hk _ _ _ _ _ hrs h)
    · exact h.elim
  · rename_i hi
    split at h
    · exact am_s_lmul hr hi (hk _ _ _ _ _ hrs h)
    · exact h.elim
  · rename_i hi
    split at h
    · exact am_s_land hr hi (hk _ _ _ _ _ hrs h)
    · exact h.elim
  · rename_i hi
    split at h
    · exact am_s_lshr hr hi (hk _ _ _ _ _ hrs h)
    · exact h.elim
  · rename_i hi
    split at h
    · exact am_s_lcmp hr hi (hk _ _ _ _ _ hrs h)
    · exact h.elim
  · rename_i off hi
    rw [hi] at hj
    split at h
    · exact am_s_icmp_eq hr hi h.1 (of_decide_eq_true hj) (fun q => hk _ _ _ _ _ am_from_in (h.2.1 q)) (fun q => hk _ _ _ _ _ hrs (h.2.2 q))
    · exact h.elim
  · rename_i off hi
    rw [hi] at hj
    split at h
    · exact am_s_icmp_ne hr hi h.1 (of_decide_eq_true hj) (fun q => hk _ _ _ _ _ am_from_in (h.2.2 q)) (fun q => hk _ _ _ _ _ hrs (h.2.1 q))
    · exact h.elim
  · rename_i off hi
    rw [hi] at hj
    split at h
    · exact am_s_icmp_lt hr hi h.1 (of_decide_eq_true hj) (fun q => hk _ _ _ _ _ am_from_in (h.2.1 q)) (fun q => hk _ _ _ _ _ hrs (h.2.2 q))
    · exact h.elim
  · rename_i off hi
    rw [hi] at hj
    split at h
    · exact am_s_icmp_ge hr hi h.1 (of_decide_eq_true hj) (fun q => hk _ _ _ _ _ am_from_in (h.2.2 q)) (fun q => hk _ _ _ _ _ hrs (h.2.1 q))
    · exact h.elim
  · rename_i off hi
    rw [hi] at hj
    split at h
    · exact am_s_icmp_gt hr hi h.1 (of_decide_eq_true hj) (fun q => hk _ _ _ _ _ am_from_in (h.2.1 q)) (fun q => hk _ _ _ _ _ hrs (h.2.2 q))
    · exact h.elim
  · rename_i off hi
    rw [hi] at hj
    split at h
    · exact am_s_icmp_le hr hi h.1 (of_decide_eq_true hj) (fun q => hk _ _ _ _ _ am_from_in (h.2.2 q)) (fun q => hk _ _ _ _ _ hrs (h.2.1 q))
    · exact h.elim
  · rename_i off hi
    rw [hi] at hj
    split at h
    · exact am_s_if_eq hr hi h.1 (of_decide_eq_true hj) (fun q => hk _ _ _ _ _ am_from_in (h.2.1 q)) (fun q => hk _ _ _ _ _ hrs (h.2.2 q))
    · exact h.elim
  · rename_i off hi
    rw [hi] at hj
    split at h
    · exact am_s_if_ne hr hi h.1 (of_decide_eq_true hj) (fun q => hk _ _ _ _ _ am_from_in (h.2.2 q)) (fun q => hk _ _ _ _ _ hrs (h.2.1 q))
    · exact h.elim
  · rename_i off hi
    rw [hi] at hj
    split at h
    · exact am_s_if_lt hr hi h.1 (of_decide_eq_true hj) (fun q => hk _ _ _ _ _ am_from_in (h.2.1 q)) (fun q => hk _ _ _ _ _ hrs (h.2.2 q))
    · exact h.elim
  · rename_i off hi
    rw [hi] at hj
    split at h
    · exact am_s_if_ge hr hi h.1 (of_decide_eq_true hj) (fun q => hk _ _ _ _ _ am_from_in (h.2.2 q)) (fun q => hk _ _ _ _ _ hrs (h.2.1 q))
    · exact h.elim
  · rename_i off hi
    rw [hi] at hj
    split at h
    · exact am_s_if_gt hr hi h.1 (of_decide_eq_true hj) (fun q => hk _ _ _ _ _ am_from_in (h.2.1 q)) (fun q => hk _ _ _ _ _ hrs (h.2.2 q))
    · exact h.elim
  · rename_i off hi
    rw [hi] at hj
    split at h
    · exact am_s_if_le hr hi h.1 (of_decide_eq_true hj) (fun q => hk _ _ _ _ _ am_from_in (h.2.2 q)) (fun q => hk _ _ _ _ _ hrs (h.2.1 q))
    · exact h.elim
  · rename_i off hi
    rw [hi] at hj
    exact am_s_goto hr hi (of_decide_eq_true hj) (hk _ _ _ _ _ am_from_in h)
  · rename_i df lo hi2 offs hi
    rw [hi] at hj
    simp only [Bool.and_eq_true, List.all_eq_true, decide_eq_true_eq] at hj
    split at h
    · exact am_s_switch hr hi h.1 hj (fun q => hk _ _ _ _ _ am_from_in (h.2.1 q)) (fun j off hjo hx => hk _ _ _ _ _ am_from_in (am_sw_in _ _ _ h.2.2 j off hjo hx))
    · exact h.elim
  · rename_i x hi
    split at h
    · split at h
      · rename_i q st' ci fs hs
        cases hb : Nat.beq ci r.2.2.2.1 with
        | false => rw [hb] at h; exact h.elim
        | true =>
          rw [hb] at h
          simp only [cond_true] at h
          split at h
          · rename_i f hf
            exact am_s_getfield hr hi hs (Nat.eq_of_beq_eq_true hb) hf (hk _ _ _ _ _ hrs h)
          · exact h.elim
      · exact h.elim
    · exact h.elim
  · rename_i x hi
    split at h
    · split at h
      · rename_i v q st' ci fs hs
        cases hb : Nat.beq ci r.2.2.2.1 with
        | false => rw [hb] at h; exact h.elim
        | true =>
          rw [hb] at h
          simp only [cond_true] at h
          split at h
          · rename_i y hf
            exact am_s_putI hr hi hs (Nat.eq_of_beq_eq_true hb) hf (hk _ _ _ _ _ hrs h)
          · rename_i y hf
            exact am_s_putZ hr hi hs (Nat.eq_of_beq_eq_true hb) hf h.1 (hk _ _ _ _ _ hrs h.2)
          · rename_i y hf
            exact am_s_putJ hr hi hs (Nat.eq_of_beq_eq_true hb) hf (hk _ _ _ _ _ hrs h)
          · exact h.elim
      · exact h.elim
    · exact h.elim
  · rename_i hi
    split at h
    · split at h
      · rename_i hs
        exact am_s_iaload hr hi hs h.1 (hk _ _ _ _ _ hrs h.2)
      · exact h.elim
    · exact h.elim
  · rename_i hi
    split at h
    · split at h
      · rename_i hs
        exact am_s_baload hr hi hs h.1 (hk _ _ _ _ _ hrs h.2)
      · exact h.elim
    · exact h.elim
  · rename_i hi
    split at h
    · split at h
      · rename_i hs
        exact am_s_aaload hr hi hs h.1 (hk _ _ _ _ _ hrs h.2)
      · exact h.elim
    · exact h.elim
  · rename_i hi
    split at h
    · split at h
      · rename_i hs
        exact am_s_iastore hr hi hs h.1 (hk _ _ _ _ _ hrs h.2)
      · exact h.elim
    · exact h.elim
  · rename_i hi
    split at h
    · split at h
      · rename_i hs
        exact am_s_bastore hr hi hs h.1 (hk _ _ _ _ _ hrs h.2)
      · exact h.elim
    · exact h.elim
  · rename_i hi
    split at h
    · split at h
      · rename_i hs
        exact am_s_alen hr hi hs (hk _ _ _ _ _ hrs h)
      · exact h.elim
    · exact h.elim
  · rename_i x hi
    cases hb : Nat.ble 900 r.2.2.2.1 with
    | true => rw [hb] at h; exact h
    | false =>
      rw [hb] at h
      simp only [cond_false] at h
      have hlt : ¬ 900 ≤ r.2.2.2.1 := fun z => by rw [Nat.ble_eq_true_of_le z] at hb; cases hb
      split at h
      · rename_i as q st' ht
        split at h
        · rename_i ci fs hs
          cases hb2 : (Nat.beq ci r.2.2.2.2.2.toNat && Nat.ble (am_cat st') 8) with
          | false => rw [hb2] at h; exact h.elim
          | true =>
            rw [hb2] at h
            simp only [cond_true] at h
            simp only [Bool.and_eq_true] at hb2
            obtain ⟨h1, h2⟩ := am_take_eq _ _ _ _ _ ht
            simp only [List.reverse_nil, List.nil_append] at h1
            rw [h1]
            exact am_s_virt hr hi hlt hs (Nat.eq_of_beq_eq_true hb2.1) (by simpa using h2) (Nat.le_of_ble_eq_true hb2.2) h (fun v M' hv => hk _ _ _ _ _ hrs hv)
        · exact h.elim
      · exact h.elim
  · rename_i x hi
    cases hb : Nat.ble 900 r.2.2.2.1 with
    | true =>
      rw [hb] at h
      simp only [cond_true] at h
      exact am_s_jdk hr hi (Nat.le_of_ble_eq_true hb) h (fun st M hv => hk _ _ _ _ _ hrs hv)
    | false =>
      rw [hb] at h
      simp only [cond_false] at h
      have hlt : ¬ 900 ≤ r.2.2.2.1 := fun z => by rw [Nat.ble_eq_true_of_le z] at hb; cases hb
      split at h
      · rename_i as st' ht
        cases hb2 : Nat.ble (am_cat st') 8 with
        | false => rw [hb2] at h; exact h.elim
        | true =>
          rw [hb2] at h
          simp only [cond_true] at h
          obtain ⟨h1, h2⟩ := am_take_eq _ _ _ _ _ ht
          simp only [List.reverse_nil, List.nil_append] at h1
          rw [h1]
          exact am_s_stat hr hi hlt (by simpa using h2) (Nat.le_of_ble_eq_true hb2) h (fun v M' hv => hk _ _ _ _ _ hrs hv)
      · exact h.elim
  · rename_i hi
    split at h
    · split at h
      · rename_i ht
        exact am_s_ireturn hr hi (Or.inl ht) h
      · rename_i ht
        exact am_s_ireturn hr hi (Or.inr ⟨ht, h.1⟩) h.2
      · exact h.elim
    · exact h.elim
  · rename_i hi
    split at h
    · split at h
      · rename_i ht
        exact am_s_areturn hr hi ht h
      · exact h.elim
    · exact h.elim
  · rename_i hi
    split at h
    · split at h
      · rename_i ht
        exact am_s_return hr hi ht h
      · exact h.elim
    · exact h.elim
  ·
    exact h
theorem am_vc_ok {Γ : Am_G} {d n : Nat} {stops : List Nat} {K : Option Am_V → Am_M → Prop} (hn : n < 163) : ∀ (f : Nat) (rs : List Am_Row) (pc : Nat) (ls : Am_L) (st : List Am_V) (M : Am_M), (∀ x ∈ rs, x ∈ am_rows n) → am_vc Γ d n stops K f rs pc ls st M → am_At Γ d n pc ls st M K := by
  intro f
  induction f with
  | zero => intro rs pc ls st M _ h; exact h
  | succ f ih =>
    intro rs pc ls st M hrs h
    cases rs with
    | nil => exact h.elim
    | cons r rs =>
      have h : (bif Nat.beq r.1 pc then am_step Γ d n K (fun rs pc ls st M => bif am_mem pc stops then am_At Γ d n pc ls st M K else am_vc Γ d n stops K f rs pc ls st M) r rs ls st M else False) := h
      cases hb : Nat.beq r.1 pc with
      | false => rw [hb] at h; exact h.elim
      | true =>
        rw [hb] at h
        simp only [cond_true] at h
        rw [← Nat.eq_of_beq_eq_true hb]
        refine am_step_ok hn (hrs r List.mem_cons_self) (fun x hx => hrs x (List.mem_cons_of_mem _ hx)) (fun rs' pc' ls' st' M' hrs' h' => ?_) h
        cases hm : am_mem pc' stops with
        | true => rw [hm] at h'; exact h'
        | false => rw [hm] at h'; exact ih rs' pc' ls' st' M' hrs' h'
/-- from a place in a method on: f rows, no further than the stops -/
theorem am_go {Γ : Am_G} {d n pc : Nat} {K : Option Am_V → Am_M → Prop} {ls : Am_L} {st : List Am_V} {M : Am_M} (f : Nat) (stops : List Nat) (hn : n < 163) (h : am_vc Γ d n stops K f (am_from (am_rows n) pc) pc ls st M) : am_At Γ d n pc ls st M K := am_vc_ok hn f _ pc ls st M am_from_in h
theorem am_pad_len : ∀ (l : Am_L) (n : Nat), (am_pad l n).length = n
  | [], n => by simp [am_pad]
  | a :: l, n + 1 => by simp [am_pad, am_pad_len l n]
  | _ :: _, 0 => rfl
theorem am_pad_nth : ∀ (l : Am_L) (n i : Nat) (v : Am_V), am_nth (am_pad l n) i = some (some v) → am_nth l i = some (some v)
  | [], n, i, v, h => by
    rw [am_nth_eq] at h
    simp only [am_pad, List.getElem?_replicate] at h
    split at h <;> cases h
  | a :: l, n + 1, 0, v, h => h
  | a :: l, n + 1, i + 1, v, h => am_pad_nth l n i v h
  | _ :: _, 0, i, v, h => by simp [am_pad, am_nth] at h
theorem am_ent0_in {ρ : Nat → Nat → Nat} : ∀ (as : List Am_V) (o i : Nat) (v : Am_V), am_nth (am_ent0 as) i = some (some v) → v ∈ as ∧ (o + i, am_c ρ v) ∈ lv_args o (as.map (am_c ρ))
  | [], o, i, v, h => by simp [am_ent0, am_nth] at h
  | .inl x :: as, o, 0, v, h => by
    cases h
    exact ⟨List.mem_cons_self, List.mem_cons_self⟩
  | .inl x :: as, o, i + 1, v, h => by
    obtain ⟨h1, h2⟩ := am_ent0_in (ρ := ρ) as (o + 1) i v h
    refine ⟨List.mem_cons_of_mem _ h1, List.mem_cons_of_mem _ ?_⟩
    show (o + (i + 1), am_c ρ v) ∈ lv_args (o + 1) (as.map (am_c ρ))
    rw [show o + (i + 1) = o + 1 + i by omega]
    exact h2
  | .inr (.inr x) :: as, o, 0, v, h => by
    cases h
    exact ⟨List.mem_cons_self, List.mem_cons_self⟩
  | .inr (.inr x) :: as, o, i + 1, v, h => by
    obtain ⟨h1, h2⟩ := am_ent0_in (ρ := ρ) as (o + 1) i v h
    refine ⟨List.mem_cons_of_mem _ h1, List.mem_cons_of_mem _ ?_⟩
    show (o + (i + 1), am_c ρ v) ∈ lv_args (o + 1) (as.map (am_c ρ))
    rw [show o + (i + 1) = o + 1 + i by omega]
    exact h2
  | .inr (.inl x) :: as, o, 0, v, h => by
    cases h
    exact ⟨List.mem_cons_self, List.mem_cons_self⟩
  | .inr (.inl x) :: as, o, 1, v, h => by cases h
  | .inr (.inl x) :: as, o, i + 2, v, h => by
    obtain ⟨h1, h2⟩ := am_ent0_in (ρ := ρ) as (o + 2) i v h
    refine ⟨List.mem_cons_of_mem _ h1, List.mem_cons_of_mem _ ?_⟩
    show (o + (i + 2), am_c ρ v) ∈ lv_args (o + 2) (as.map (am_c ρ))
    rw [show o + (i + 2) = o + 2 + i by omega]
    exact h2
theorem am_sl_len {ρ : Nat → Nat → Nat} : ∀ as : List Am_V, (lg_sl (as.map (am_c ρ))).length = (am_ent0 as).length
  | [] => rfl
  | .inl x :: as => by
    have := am_sl_len (ρ := ρ) as
    simp only [lg_sl, List.map_cons, List.flatMap_cons, List.length_append, am_ent0, List.length_cons] at this ⊢
    rw [this]
    simp [am_c, Value.category, Nat.add_comm]
  | .inr (.inl x) :: as => by
    have := am_sl_len (ρ := ρ) as
    simp only [lg_sl, List.map_cons, List.flatMap_cons, List.length_append, am_ent0, List.length_cons] at this ⊢
    rw [this]
    simp [am_c, Value.category, Nat.add_comm]
    omega
  | .inr (.inr x) :: as => by
    have := am_sl_len (ρ := ρ) as
    simp only [lg_sl, List.map_cons, List.flatMap_cons, List.length_append, am_ent0, List.length_cons] at this ⊢
    rw [this]
    simp [am_c, Value.category, Nat.add_comm]
/-- a contract, out of the walk of the body -/
theorem am_ev_of {Γ : Am_G} {d n : Nat} {as : List Am_V} {M : Am_M} {K : Option Am_V → Am_M → Prop} (hn : n < 163) (hlen : (am_ent0 as).length ≤ (am_mi n).2.2.1) (h : am_At Γ d n 0 (am_entry as (am_mi n).2.2.1) [] M K) : am_Ev Γ d n as M K := by
  intro l
  have ho := am_mi_all n hn
  refine Met.ofW (cc := (am_mi n).2.1) (maxL := (am_mi n).2.2.1) (ret := (am_mi n).2.2.2.1) ho.2.2.1.1 rfl ?_
  intro p e s m args below meth c s₁ B hml hv
  obtain ⟨rfl, hok, hP, hF⟩ := hv
  have hl := lv_entry (as.map (am_c Γ.2.2.1)) (n := (am_mi n).2.2.1) (by rw [am_sl_len]; exact hlen)
  rw [lg_entry_eq]
  have hown : s.vm.findClass (am_mi n).1.cls = some m.cls := findClass_of_methodNamed B.named
  refine h p l e s m _ below meth c s.heap [] _ ⟨B.exec, B.bytes, B.returns, hml, by rw [ho.2.2.1.2.2.2.1]; exact hown, atoms_spec (ws := am_ws n) B.pre, B.notSynchronized, hF, ho⟩ (fun v hv => absurd hv List.not_mem_nil) ⟨hl.1, hl.2.1, am_pad_len _ _, fun i v hi => ?_⟩ hP va_S.rf
  obtain ⟨h1, h2⟩ := am_ent0_in (ρ := Γ.2.2.1) as 0 i v (am_pad_nth _ _ _ _ hi)
  rw [Nat.zero_add] at h2
  exact ⟨hok v h1, hl.2.2 _ h2⟩
/-- a call, by a contract -/
theorem am_by {Γ : Am_G} {d d' n : Nat} {as : List Am_V} {M : Am_M} {K' k : Option Am_V → Am_M → Prop} (h : am_Ev Γ d' n as M K') (hd : d' + 1 ≤ d) (hk : ∀ r M', K' r M' → k r M') : am_callk Γ d n as M k := ⟨d', K', hd, h, hk⟩
