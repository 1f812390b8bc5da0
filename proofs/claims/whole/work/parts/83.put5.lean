/-! pairs: put -/
theorem c_seekOrder {Γ : Am_G} {M : Am_M} {n mt pu : Nat} {set : Int} (hR : RelN M n mt) (hp : M.1 0 0 7 = pu) : am_Ev Γ 23 n_Foresight_seekOrder [.inr (.inr (0, 34)), .inr (.inr (0, 0)), .inl set] M (fun r M' => am_same fF M M' ∧ ((r = some (.inl 1) ∧ ∃ l : List Nat, l.length = mt - pu ∧ goodP set n (cV M 0) (cmL (M.1 0 6) pu (mt - pu)) l ∧ (∀ l' : List Nat, l'.length = mt - pu → goodP set n (cV M 0) (cmL (M.1 0 6) pu (mt - pu)) l' → cdH mt l ≤ cdH mt l') ∧ ∀ i (m : Nat), l[i]? = some m → M'.1 0 36 (pu + i) = m) ∨ (r = some (.inl 0) ∧ ∀ l' : List Nat, l'.length = mt - pu → ¬ goodP set n (cV M 0) (cmL (M.1 0 6) pu (mt - pu)) l'))) := by
  have b1 := hR.1.1
  have b2 := hR.1.2.1
  have hpm : pu ≤ mt := by have := hR.pr; have := hR.p7; omega
  have hob : ∀ k, k < mt → 0 ≤ M.1 0 6 k ∧ M.1 0 6 k < mt := fun k hk => (hR.2.1.2.2.2.1 k hk).2
  refine am_ev_of (by decide) (am_le rfl) (am_go 60 [] (by decide) ?_)
  refine am_by (c_startFrom (d := 10) (e := 0) (by decide)) (by omega) ?_
  rintro r M1 ⟨rfl, hC⟩
  have hv := evC_view (n := n) (mt := mt) hC b1.2.2 b2.2.2 (by omega)
  have hH1 := evC_H hC hR.H
  have o1 : ∀ k, k < mt → M1.1 3 6 k = M.1 0 6 k := fun k hk => hC.2.2.2.1 k (by omega)
  have hN : nodeP M1 (cV M 0) n mt pu 0 [] := by
    refine ⟨veq_wf hv.symm hR.V, hC.2.1.2.1.trans hp, fun m hm => ?_, fun i hi => o1 i (by omega), fun i m hi => absurd hi (by simp), ?_⟩
    · obtain ⟨k, hk, he⟩ := hR.perm6 m hm
      exact ⟨k, hk, (o1 k hk).trans he⟩
    · obtain ⟨q1, q2, q3, q4⟩ := hv
      exact ⟨q1, q2, fun m hm => ⟨(q3 m hm).1, rfl⟩, q4⟩
  have hcall := c_seekFrom (Γ := Γ) (d := 10) (V0 := cV M 0) (set := set) (n := n) (mt := mt) (pu := pu) (cm := cmL (M.1 0 6) pu (mt - pu)) hpm b2.2.2 (cmL_len _ _ _) (cm_nodup hR.perm6 hob hpm) (fun m => cm_iff hR.perm6 hob hpm m) (mt - pu) 0 [] M1 (by omega) rfl hH1 hN List.nodup_nil (fun m hm => absurd hm List.not_mem_nil) trivial
  refine am_by hcall (by omega) ?_
  rintro r M2 ⟨hs, hr⟩
  have hs2 : am_same fF M M2 := (evC_fF hC).tr (hs.wk (fun e p hp => hp.elim Or.inl (fun hp => Or.inr (by omega))))
  rcases hr with ⟨rfl, l, l1, l2, l3, l4⟩ | ⟨rfl, l1⟩
  · exact ⟨Or.inr rfl, hs2, Or.inl ⟨rfl, l, l1, l2, l3, l4⟩⟩
  · exact ⟨Or.inl rfl, hs2, Or.inr ⟨rfl, l1⟩⟩
theorem P_put {Γ : Am_G} {M : Am_M} {set i : Int} (h : Rel M) (hset : am_R set) (hi : am_R i) : Pair Γ 24 n_R_put n_M_put [.inl set, .inl i] M := by
  obtain ⟨n, mt, hR⟩ := id h
  obtain ⟨pu, hp, hp2, hpm⟩ := hR.p
  have a1 := hR.2.1.1
  have b2 := hR.1.2.1
  have hob : ∀ k, k < mt → 0 ≤ M.1 0 6 k ∧ M.1 0 6 k < mt := fun k hk => (hR.2.1.2.2.2.1 k hk).2
  have subC : am_and set (am_xor (comeL (M.1 0 6) (mt - pu) pu 0) (-1)) = 0 ↔ ∀ b, b < 32 → bt set b = true → b ∈ cmL (M.1 0 6) pu (mt - pu) := by
    rw [sub_zero]
    have hcb : ∀ b, b < 32 → (bt (comeL (M.1 0 6) (mt - pu) pu 0) b = true ↔ b ∈ cmL (M.1 0 6) pu (mt - pu)) := fun b hb => by
      rw [comeL_bt (mt - pu) pu 0 (fun j a c => by have := hob j (by omega); omega) b hb, bt_0, cmL_mem]
      constructor
      · rintro (h | ⟨j, a, c, h⟩)
        · exact absurd h Bool.false_ne_true
        · exact ⟨j, a, c, by rw [h]; rfl⟩
      · rintro ⟨j, a, c, h⟩
        refine Or.inr ⟨j, a, c, ?_⟩
        have := hob j (by omega)
        omega
    exact ⟨fun h b hb hs => (hcb b hb).mp (h b hb hs), fun h b hb hs => (hcb b hb).mpr (h b hb hs)⟩
  have neg : (∀ b, b < 32 → bt set b = true → b ∈ cmL (M.1 0 6) pu (mt - pu)) → 0 ≤ set := fun hs => by
    rcases Int.lt_or_le set 0 with q | q
    · have h31 := hs 31 (by omega) (bt_neg hset q)
      have := (cm_iff hR.perm6 hob hpm 31).mp h31
      omega
    · exact q
  -- the reference, from what the class left
  have ref : ∀ (M1 : Am_M) (v : Int), am_same fF M M1 → ((¬ (0 ≤ i ∧ 0 ≤ set ∧ ∀ b, b < 32 → bt set b = true → b ∈ cmL (M.1 0 6) pu (mt - pu)) ∧ v = -3) ∨ ((0 ≤ i ∧ 0 ≤ set ∧ ∀ b, b < 32 → bt set b = true → b ∈ cmL (M.1 0 6) pu (mt - pu)) ∧ ∀ v', putO M n mt pu set i v' → v' = v)) → Ans Γ 24 n_M_put [.inl set, .inl i] (some (.inl v)) M1 := by
    intro M1 v hs hv
    have hR1 := hR.ff hs
    have e6 : M1.1 0 6 = M.1 0 6 := by funext k; exact hs.2 0 6 k (by unfold fF vS; omega)
    have e7 : M1.1 0 0 7 = pu := (hs.2 0 0 7 (by unfold fF vS; omega)).trans hp
    refine ⟨v, rfl, am_mono (c_M_put (d := 18) hset hi hR1 e7) (fun r M2 hz => ?_)⟩
    obtain ⟨hF, hz⟩ := hz
    refine ⟨?_, n, mt, hR1.rf2 hF⟩
    unfold putO at hz
    rw [e6, cV_ff hs] at hz
    rcases hv with ⟨v1, rfl⟩ | ⟨v1, v2⟩
    · rcases hz with ⟨z1, rfl⟩ | ⟨z1, -⟩
      · rfl
      · exact absurd z1 v1
    · rcases hz with ⟨z1, rfl⟩ | ⟨z1, v', rfl, z2⟩
      · exact absurd v1 z1
      · rw [v2 v' z2]
  refine am_ev_of (by decide) (am_le rfl) (am_go 60 [] (by decide) ?_)
  refine am_by (c_setToCome (d := 10) (e := 0) hp a1.1 hpm b2.2.2) (by omega) ?_
  rintro r M0 ⟨rfl, rfl⟩
  refine And.intro (am_R_and _ _) (And.intro (fun h1 => ?_) (fun h1 => ?_))
  rotate_left
  · exact ref M0 _ am_same.rf (Or.inl ⟨fun z => h1 (subC.mpr z.2.2), rfl⟩)
  have hsub := subC.mp h1
  refine And.intro hi (And.intro (fun h2 => ?_) (fun h2 => ?_))
  · exact ref M0 _ am_same.rf (Or.inl ⟨by omega, rfl⟩)
  have hall : 0 ≤ i ∧ 0 ≤ set ∧ ∀ b, b < 32 → bt set b = true → b ∈ cmL (M0.1 0 6) pu (mt - pu) := ⟨by omega, neg hsub, hsub⟩
  refine am_by (c_toCome (d := 10) 0) (by omega) ?_
  rintro r M1 ⟨rfl, rfl⟩
  refine And.intro ⟨hi, ⟨by omega, by omega⟩⟩ (And.intro (fun h3 => ?_) (fun h3 => ?_))
  rotate_left
  · have h3 : ¬ i < M1.1 0 0 6 - M1.1 0 0 7 := h3
    refine ref M1 _ am_same.rf (Or.inr ⟨hall, fun v' hv' => ?_⟩)
    rcases hv' with ⟨f, f1, f2, f3, rfl⟩ | ⟨-, rfl⟩
    · rw [if_neg (by omega)]
    · rfl
  have h3 : i < M1.1 0 0 6 - M1.1 0 0 7 := h3
  refine am_by (c_seekOrder (set := set) hR hp) (by omega) ?_
  rintro r M2 ⟨hs, hr⟩
  rcases hr with ⟨rfl, l, l1, l2, l3, l4⟩ | ⟨rfl, l1⟩
  rotate_left
  · refine And.intro ⟨(by first | omega | (dsimp only [am_own]; omega)), (by first | omega | (dsimp only [am_own]; omega))⟩ (And.intro (fun _ => ?_) (fun h => absurd rfl h))
    refine ref M2 _ hs (Or.inr ⟨hall, fun v' hv' => ?_⟩)
    rcases hv' with ⟨f, f1, f2, f3, rfl⟩ | ⟨-, rfl⟩
    · exact absurd f2 (l1 _ (dgH_len mt _ f))
    · rfl
  refine And.intro ⟨(by first | omega | (dsimp only [am_own]; omega)), (by first | omega | (dsimp only [am_own]; omega))⟩ (And.intro (fun h => absurd h (by decide)) (fun _ => ?_))
  have e6 : M2.1 0 0 6 = mt := (hs.2 0 0 6 (by unfold fF vS; omega)).trans a1.1
  have hmt : 0 < mt := by omega
  have ei : (M2.1 0 0 6 - (M1.1 0 0 6 - M1.1 0 0 7) + i).toNat = pu + i.toNat := by omega
  refine And.intro (show 0 ≤ M2.1 0 0 6 - (M1.1 0 0 6 - M1.1 0 0 7) + i ∧ M2.1 0 0 6 - (M1.1 0 0 6 - M1.1 0 0 7) + i < 5 from ⟨by omega, by omega⟩) ?_
  refine ref M2 _ hs (Or.inr ⟨hall, fun v' hv' => ?_⟩)
  show v' = M2.1 0 36 (M2.1 0 0 6 - (M1.1 0 0 6 - M1.1 0 0 7) + i).toNat
  rw [ei]
  have hlb : ∀ m, m ∈ l → m < mt := fun m hm => ((cm_iff hR.perm6 hob hpm m).mp ((l2.1 m).mp hm)).1
  have hcl := cdH_lt l hlb
  rw [l1] at hcl
  have hdl := dgH_cdH hmt l hlb
  rw [l1] at hdl
  rcases hv' with ⟨f, f1, f2, f3, rfl⟩ | ⟨hno, rfl⟩
  · have q1 : cdH mt l ≤ f := by
      have := l3 _ (dgH_len mt (mt - pu) f) f2
      rw [cdH_dgH mt hmt (mt - pu) f f1] at this
      exact this
    have q2 : f = cdH mt l := by
      rcases Nat.lt_or_ge (cdH mt l) f with q | q
      · exact absurd (by rw [hdl]; exact l2) (f3 _ q)
      · omega
    have hdf : dgH mt (mt - pu) f = l := by rw [q2]; exact hdl
    rw [if_pos (by omega)]
    have hat := dgH_at mt hmt (mt - pu) f i.toNat f1 (by omega)
    rw [hdf] at hat
    have h4 := l4 i.toNat _ hat
    rw [h4]
    unfold dgP
    rw [show mt - 1 - (pu + i.toNat) = mt - pu - 1 - i.toNat by omega]
  · exact absurd (by rw [hdl]; exact l2) (hno _ hcl)
