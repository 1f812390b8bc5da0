/-! orders: the reference's search, and the pair -/
def bG (M M1 : Am_M) : Prop := M1.2 = M.2 ∧ (∀ e p k, p ≠ 41 → p ≠ 47 → p ≠ 48 → ¬ (52 ≤ p ∧ p ≤ 54) → M1.1 e p k = M.1 e p k) ∧ (∀ k, k ≠ 24 → k ≠ 25 → k ≠ 26 → M1.1 0 41 k = M.1 0 41 k) ∧ (∀ k, k < 92 → M1.1 0 47 k = M.1 0 47 k) ∧ (∀ k, k < 92 → M1.1 0 48 k = M.1 0 47 k)
theorem bG.rs {M M1 : Am_M} (h : bG M M1) : rsame M M1 := ⟨h.2.2.1, fun p k a b => h.2.1 0 p k (by omega) (by omega) (by omega) (by omega), h.2.2.2.1⟩
theorem bG.rF {M M1 : Am_M} (h : bG M M1) : rF M M1 := ⟨h.1, h.2.1, h.2.2.1, h.2.2.2.1⟩
theorem bG_of {M M1 : Am_M} (h : cpO M 47 0 48 0 M1) : bG M M1 := ⟨h.1.1, fun e p k a b c d => h.1.2 e p k (by omega), fun k _ _ _ => h.1.2 0 41 k (by omega), fun k _ => h.1.2 0 47 k (by omega), fun k hk => by have := h.2.1 k hk; rw [Nat.zero_add] at this; exact this⟩
/-- something in now, then back -/
theorem bG.back {M M1 M2 M3 : Am_M} (h : bG M M1) (hp : psame M1 M2) (hB : cpO M2 48 0 47 0 M3) : bG M M3 := by
  have k48 : ∀ k, k < 92 → M2.1 0 48 k = M.1 0 47 k := fun k hk => (hp.2.1 0 48 k (by omega) (by omega) (by omega)).trans (h.2.2.2.2 k hk)
  refine ⟨hB.1.1.trans (hp.1.trans h.1), fun e p k a b c d => ?_, fun k a b c => ?_, fun k hk => ?_, fun k hk => ?_⟩
  · rw [hB.1.2 e p k (by omega), hp.2.1 e p k a b d]; exact h.2.1 e p k a b c d
  · rw [hB.1.2 0 41 k (by omega), hp.2.2 k a b c]; exact h.2.2.1 k a b c
  · have := hB.2.1 k hk
    rw [Nat.zero_add] at this
    rw [this]; exact k48 k hk
  · rw [hB.1.2 0 48 k (by omega)]; exact k48 k hk
theorem loL.ps {M M' : Am_M} {mt pu code : Nat} (h : loL M mt pu code M') : psame M M' := ⟨h.1.1, fun e p k a b c => h.1.2 e p k (by omega), fun k _ _ _ => h.1.2 0 41 k (by omega)⟩
theorem mem_dgH {mt pu code b : Nat} (hpm : pu ≤ mt) (hc : code < mt ^ (mt - pu)) : b ∈ dgH mt (mt - pu) code ↔ ∃ p, pu ≤ p ∧ p < mt ∧ dgP mt code p = b := by
  constructor
  · intro h
    obtain ⟨j, hj⟩ := List.getElem?_of_mem h
    have hjl := (List.getElem?_eq_some_iff.mp hj).1
    rw [dgH_len] at hjl
    rw [dgH_at mt (by omega) (mt - pu) code j hc hjl] at hj
    refine ⟨pu + j, by omega, by omega, ?_⟩
    unfold dgP
    rw [show mt - 1 - (pu + j) = mt - pu - 1 - j by omega]
    exact Option.some.inj hj
  · rintro ⟨p, a1, a2, a3⟩
    have := dgH_at mt (by omega) (mt - pu) code (p - pu) hc (by omega)
    rw [show mt - pu - 1 - (p - pu) = mt - 1 - p by omega] at this
    unfold dgP at a3
    rw [a3] at this
    exact List.mem_of_getElem? this
theorem cmL_dgH {o : Nat → Int} {mt pu code : Nat} (hpm : pu ≤ mt) (hc : code < mt ^ (mt - pu)) (ho : ∀ p, pu ≤ p → p < mt → o p = dgP mt code p) : cmL o pu (mt - pu) = dgH mt (mt - pu) code := by
  apply List.ext_getElem?
  intro j
  rcases Nat.lt_or_ge j (mt - pu) with q | q
  · rw [cmL_at o (mt - pu) pu j q, dgH_at mt (by omega) (mt - pu) code j hc q, ho (pu + j) (by omega) (by omega)]
    unfold dgP
    rw [show mt - 1 - (pu + j) = mt - pu - 1 - j by omega]
    rfl
  · rw [List.getElem?_eq_none (by rw [cmL_len]; exact q), List.getElem?_eq_none (by rw [dgH_len]; exact q)]
theorem pow5 : ∀ mt, mt ≤ 5 → ∀ k, k ≤ mt → mt ^ k < 3126 := by decide
/-- what the reference finds -/
def putO (M : Am_M) (n mt pu : Nat) (set i v : Int) : Prop := (∃ f, f < mt ^ (mt - pu) ∧ goodP set n (cV M 0) (cmL (M.1 0 6) pu (mt - pu)) (dgH mt (mt - pu) f) ∧ (∀ c, c < f → ¬ goodP set n (cV M 0) (cmL (M.1 0 6) pu (mt - pu)) (dgH mt (mt - pu) c)) ∧ v = if i < ((mt - pu : Nat) : Int) then (dgP mt f (pu + i.toNat) : Int) else -1) ∨ ((∀ c, c < mt ^ (mt - pu) → ¬ goodP set n (cV M 0) (cmL (M.1 0 6) pu (mt - pu)) (dgH mt (mt - pu) c)) ∧ v = -1)
theorem c_M_put {Γ : Am_G} {d : Nat} {M : Am_M} {n mt pu : Nat} {set i : Int} (hset : am_R set) (hi : am_R i) (hR : RelN M n mt) (hp : M.1 0 0 7 = pu) : am_Ev Γ (d + 6) n_M_put [.inr (.inr (0, 41)), .inl set, .inl i] M (fun r M' => rF M M' ∧ ((¬ (0 ≤ i ∧ 0 ≤ set ∧ ∀ b, b < 32 → bt set b = true → b ∈ cmL (M.1 0 6) pu (mt - pu)) ∧ r = some (.inl (-3))) ∨ ((0 ≤ i ∧ 0 ≤ set ∧ ∀ b, b < 32 → bt set b = true → b ∈ cmL (M.1 0 6) pu (mt - pu)) ∧ ∃ v, r = some (.inl v) ∧ putO M n mt pu set i v))) := by
  have hM := hR.wM
  obtain ⟨⟨n1, n2, n3, n4⟩, n5, n6, n7, n8, n9, n10, n11⟩ := id hM
  have hp7 : M.1 0 47 0 = pu := hR.p7.trans hp
  have hpm : pu ≤ mt := by have := hR.pr; omega
  have hob : ∀ k, k < mt → 0 ≤ M.1 0 6 k ∧ M.1 0 6 k < mt := fun k hk => (hR.2.1.2.2.2.1 k hk).2
  have hpow := pow5 mt n4 (mt - pu) (by omega)
  have subI : am_and set (am_xor (comeL (oM M) (mt - pu) pu 0) (-1)) = 0 ↔ ∀ b, b < 32 → bt set b = true → b ∈ cmL (M.1 0 6) pu (mt - pu) := by
    rw [sub_zero]
    have hcb : ∀ b, b < 32 → (bt (comeL (oM M) (mt - pu) pu 0) b = true ↔ b ∈ cmL (M.1 0 6) pu (mt - pu)) := fun b hb => by
      rw [comeL_bt (mt - pu) pu 0 (fun j a c => by have := n9 j (by omega); unfold oM; omega) b hb, bt_0, cmL_mem]
      constructor
      · rintro (h | ⟨j, a, c, h⟩)
        · exact absurd h Bool.false_ne_true
        · refine ⟨j, a, c, ?_⟩
          rw [hR.ord j (by omega)] at h
          rw [h]; rfl
      · rintro ⟨j, a, c, h⟩
        refine Or.inr ⟨j, a, c, ?_⟩
        rw [hR.ord j (by omega)]
        have := hob j (by omega)
        omega
    exact ⟨fun h b hb hs => (hcb b hb).mp (h b hb hs), fun h b hb hs => (hcb b hb).mpr (h b hb hs)⟩
  have out : ¬ (0 ≤ i ∧ 0 ≤ set ∧ ∀ b, b < 32 → bt set b = true → b ∈ cmL (M.1 0 6) pu (mt - pu)) → rF M M ∧ ((¬ (0 ≤ i ∧ 0 ≤ set ∧ ∀ b, b < 32 → bt set b = true → b ∈ cmL (M.1 0 6) pu (mt - pu)) ∧ some (Sum.inl (-3) : Am_V) = some (.inl (-3))) ∨ ((0 ≤ i ∧ 0 ≤ set ∧ ∀ b, b < 32 → bt set b = true → b ∈ cmL (M.1 0 6) pu (mt - pu)) ∧ ∃ v, some (Sum.inl (-3) : Am_V) = some (.inl v) ∧ putO M n mt pu set i v)) := fun q => ⟨rF.rf, Or.inl ⟨q, rfl⟩⟩
  refine am_ev_of (by decide) (am_le rfl) (am_go 90 [36] (by decide) ?_)
  refine And.intro hi (And.intro (fun h => out (by omega)) (fun h0 => ?_))
  refine And.intro hset (And.intro (fun h => out (by omega)) (fun h1 => ?_))
  refine am_by (c_M_comeSet (d := d) hM hp7 hpm) (by omega) ?_
  rintro r M1 ⟨rfl, rfl⟩
  refine And.intro (am_R_and _ _) (And.intro (fun h2 => ?_) (fun h2 => out (fun q => h2 (subI.mpr q.2.2))))
  have hsub := subI.mp h2
  have hall : 0 ≤ i ∧ 0 ≤ set ∧ ∀ b, b < 32 → bt set b = true → b ∈ cmL (M1.1 0 6) pu (mt - pu) := ⟨by omega, by omega, hsub⟩
  refine am_by (c_M_putAside (d := d + 3)) (by omega) ?_
  rintro r M2 ⟨rfl, hA⟩
  have hB2 := bG_of hA
  -- a code laid
  have lay : ∀ (code : Nat) (M3 : Am_M), code < mt ^ (mt - pu) → bG M1 M3 → am_Ev Γ (d + 4 + 1) n_M_layOrder [.inr (.inr (0, 41)), .inl (code : Int)] M3 (fun r M' => loL M3 mt pu code M' ∧ ((r = some (.inl 1) ∧ ∀ b, b ∈ dgH mt (mt - pu) code ↔ b ∈ cmL (M1.1 0 6) pu (mt - pu)) ∨ (r = some (.inl 0) ∧ ¬ ∀ b, b ∈ dgH mt (mt - pu) code ↔ b ∈ cmL (M1.1 0 6) pu (mt - pu)))) := by
    intro code M3 hc hb
    have hM3 := hM.rs hb.rs
    have ho : ∀ k, k < mt → M3.1 0 48 (1 + k) = M1.1 0 6 k := fun k hk => (hb.2.2.2.2 _ (by omega)).trans (hR.ord k hk)
    refine am_mono (c_M_layOrder (d := d + 4) (o := M1.1 0 6) hM3 hpm ((hb.2.2.2.2 0 (by omega)).trans hp7) ho hob hc (by omega)) (fun r M' hr => ⟨hr.1, ?_⟩)
    have eq : (∀ b : Nat, (∃ p, pu ≤ p ∧ p < mt ∧ dgP mt code p = b) ↔ ∃ p, pu ≤ p ∧ p < mt ∧ M1.1 0 6 p = b) ↔ ∀ b, b ∈ dgH mt (mt - pu) code ↔ b ∈ cmL (M1.1 0 6) pu (mt - pu) := by
      have e2 : ∀ b, (∃ p, pu ≤ p ∧ p < mt ∧ M1.1 0 6 p = (b : Nat)) ↔ b ∈ cmL (M1.1 0 6) pu (mt - pu) := fun b => by
        rw [cmL_mem]
        exact ⟨fun ⟨p, a1, a2, a3⟩ => ⟨p, a1, by omega, by rw [a3]; rfl⟩, fun ⟨p, a1, a2, a3⟩ => ⟨p, a1, by omega, by have := hob p (by omega); omega⟩⟩
      exact ⟨fun h b => (mem_dgH hpm hc).trans ((h b).trans (e2 b)), fun h b => (mem_dgH hpm hc).symm.trans ((h b).trans (e2 b).symm)⟩
    rcases hr.2 with ⟨q1, q2⟩ | ⟨q1, q2⟩
    · exact Or.inl ⟨q1, eq.mp q2⟩
    · exact Or.inr ⟨q1, fun z => q2 (eq.mpr z)⟩
  -- what is carried by it
  have carr : ∀ (code : Nat) (M3 M4 : Am_M), code < mt ^ (mt - pu) → bG M1 M3 → loL M3 mt pu code M4 → (∀ b, b ∈ dgH mt (mt - pu) code ↔ b ∈ cmL (M1.1 0 6) pu (mt - pu)) → wfM M4 n mt ∧ M4.1 0 47 0 = pu ∧ (am_and set (am_xor (carL n (mt - (M4.1 0 47 0).toNat) 0 (rV M4)) (-1)) = 0 ↔ okL set n (dgH mt (mt - pu) code) (cV M1 0)) := by
    intro code M3 M4 hc hb hL hsets
    have e70 : M4.1 0 47 0 = pu := (hL.2.2 0 (by omega)).trans ((hb.2.2.2.1 0 (by omega)).trans hp7)
    have dl : ∀ p, pu ≤ p → p < mt → oM M4 p = dgP mt code p := hL.2.1
    have f : ∀ k, k ≠ 24 → k ≠ 25 → k ≠ 26 → M4.1 0 41 k = M1.1 0 41 k := fun k a b c => (hL.1.2 0 41 k (by omega)).trans (hb.2.2.1 k a b c)
    have g : ∀ p k, 42 ≤ p → p ≤ 46 → M4.1 0 p k = M1.1 0 p k := fun p k a b => (hL.1.2 0 p k (by omega)).trans (hb.2.1 0 p k (by omega) (by omega) (by omega) (by omega))
    have g7 : ∀ k, k < 92 → (k < 1 + pu ∨ 1 + mt ≤ k) → M4.1 0 47 k = M1.1 0 47 k := fun k a b => (hL.2.2 k b).trans (hb.2.2.2.1 k a)
    have hM4 : wfM M4 n mt := by
      refine ⟨⟨by rw [f 0 (by omega) (by omega) (by omega)]; exact n1, n2, by rw [f 2 (by omega) (by omega) (by omega)]; exact n3, n4⟩, by rw [f 5 (by omega) (by omega) (by omega)]; exact n5, fun j hj => ?_, fun m hm => ?_, fun j m hj hm => ?_, fun k hk => ?_, by rw [f 30 (by omega) (by omega) (by omega)]; exact n10, by rw [f 31 (by omega) (by omega) (by omega)]; exact n11⟩
      · rw [g 42 _ (by omega) (by omega), g 42 _ (by omega) (by omega), g 42 _ (by omega) (by omega), g 42 _ (by omega) (by omega), g7 _ (by omega) (by omega)]
        exact n6 j hj
      · rw [g 43 _ (by omega) (by omega)]; exact n7 m hm
      · rw [g 44 _ (by omega) (by omega), g7 _ (by omega) (by omega)]; exact n8 j m hj hm
      · rcases Nat.lt_or_ge k pu with q | q
        · rw [g7 _ (by omega) (by omega)]; exact n9 k hk
        · rw [hL.2.1 k q hk]
          have := dgP_lt (mt := mt) (code := code) (p := k) (by omega)
          omega
    refine ⟨hM4, e70, ?_⟩
    have hwV := rV_wf hM4 (by omega)
    have hv : veq n mt (rV M4) (swO (cV M1 0) (oM M4)) := by
      obtain ⟨q1, q2, q3, q4⟩ := hR.vq
      refine ⟨fun k hk => ?_, fun j hj => ?_, fun m hm => ⟨(g 43 m (by omega) (by omega)).trans (q3 m hm).1, rfl⟩, fun j m hj hm => ⟨(g 44 _ (by omega) (by omega)).trans (q4 j m hj hm).1, (g7 _ (by omega) (by omega)).trans (q4 j m hj hm).2⟩⟩
      · have := q1 k hk
        rcases (show k = 0 ∨ k = 1 ∨ k = 2 ∨ k = 3 by omega) with rfl | rfl | rfl | rfl
        · exact (f 0 (by omega) (by omega) (by omega)).trans this
        · exact (f 2 (by omega) (by omega) (by omega)).trans this
        · exact (f 5 (by omega) (by omega) (by omega)).trans this
        · exact (g7 0 (by omega) (by omega)).trans this
      · obtain ⟨z1, z2, z3, z4, z5⟩ := q2 j hj
        refine ⟨?_, ?_, ?_, (g 42 _ (by omega) (by omega)).trans z4, (g7 _ (by omega) (by omega)).trans z5⟩
        · refine Eq.trans ?_ z1
          show mkd M4 j = mkd M1 j
          unfold mkd
          rw [f 30 (by omega) (by omega) (by omega), g 42 _ (by omega) (by omega)]
        · refine Eq.trans ?_ z2
          show (if M4.1 0 41 31 = 1 then 99 else M4.1 0 42 (j * 4 + 1)) = if M1.1 0 41 31 = 1 then 99 else M1.1 0 42 (j * 4 + 1)
          rw [f 31 (by omega) (by omega) (by omega), g 42 _ (by omega) (by omega)]
        · refine Eq.trans ?_ z3
          show (if M4.1 0 41 31 = 1 then 0 else M4.1 0 42 (j * 4 + 2)) = if M1.1 0 41 31 = 1 then 0 else M1.1 0 42 (j * 4 + 2)
          rw [f 31 (by omega) (by omega) (by omega), g 42 _ (by omega) (by omega)]
    have elist : cmL (rV M4 7) pu (mt - pu) = dgH mt (mt - pu) code := cmL_dgH hpm hc dl
    have hlen : (dgH mt (mt - pu) code).length = (cmL (M1.1 0 6) pu (mt - pu)).length := by rw [dgH_len, cmL_len]
    have hnd : (dgH mt (mt - pu) code).Nodup := (pig (cm_nodup hR.perm6 hob hpm) hlen (fun b hb2 => (hsets b).mpr hb2)).1
    have hsm : ∀ b, b ∈ dgH mt (mt - pu) code → b < mt := fun b hb2 => by
      obtain ⟨p, a1, a2, a3⟩ := (mem_dgH hpm hc).mp hb2
      have := dgP_lt (mt := mt) (code := code) (p := p) (by omega)
      omega
    rw [e70, show ((pu : Int)).toNat = pu from rfl, sub_zero]
    have hbt := carL_bt (n := n) (mt := mt) (mt - pu) 0 (rV M4) pu hwV (show M4.1 0 47 0 = pu from e70) (by omega)
    rw [elist] at hbt
    rw [← okL_congr (dgH mt (mt - pu) code) (rV M4) (cV M1 0) (oM M4) hv hsm, ← carB_ok _ _ hnd]
    constructor
    · intro h b hb2 hs
      have hb32 : b < 32 := by have := hsm b hb2; omega
      rcases (hbt b hb32).mp (h b hb32 hs) with q | q
      · rw [bt_0] at q; exact absurd q Bool.false_ne_true
      · exact q
    · intro h b hb32 hs
      exact (hbt b hb32).mpr (Or.inr (h b ((hsets b).mpr (hsub b hb32 hs)) hs))
  have fin : ∀ (cs : Int) (found : Int) (z5 z6 : Option Am_V) (M3 : Am_M), bG M1 M3 → ((∃ f : Nat, found = f ∧ f < mt ^ (mt - pu) ∧ goodP set n (cV M1 0) (cmL (M1.1 0 6) pu (mt - pu)) (dgH mt (mt - pu) f) ∧ (∀ c, c < f → ¬ goodP set n (cV M1 0) (cmL (M1.1 0 6) pu (mt - pu)) (dgH mt (mt - pu) c))) ∨ (found = -1 ∧ ∀ c, c < mt ^ (mt - pu) → ¬ goodP set n (cV M1 0) (cmL (M1.1 0 6) pu (mt - pu)) (dgH mt (mt - pu) c))) → am_At Γ (d + 6) n_M_put 114 [some (.inr (.inr (0, 41))), some (.inl set), some (.inl i), some (.inl cs), some (.inl found), z5, z6] [] M3 (fun r M' => rF M1 M' ∧ ((¬ (0 ≤ i ∧ 0 ≤ set ∧ ∀ b, b < 32 → bt set b = true → b ∈ cmL (M1.1 0 6) pu (mt - pu)) ∧ r = some (.inl (-3))) ∨ ((0 ≤ i ∧ 0 ≤ set ∧ ∀ b, b < 32 → bt set b = true → b ∈ cmL (M1.1 0 6) pu (mt - pu)) ∧ ∃ v, r = some (.inl v) ∧ putO M1 n mt pu set i v))) := by
    intro cs found z5 z6 M3 hb hf
    have e2 : M3.1 0 41 2 = mt := (hb.2.2.1 2 (by omega) (by omega) (by omega)).trans n3
    have e70 : M3.1 0 47 0 = pu := (hb.2.2.2.1 0 (by omega)).trans hp7
    have tail : ∀ (v : Int) (z6 : Option Am_V) (M4 : Am_M), psame M3 M4 → putO M1 n mt pu set i v → am_At Γ (d + 6) n_M_put 172 [some (.inr (.inr (0, 41))), some (.inl set), some (.inl i), some (.inl cs), some (.inl found), some (.inl v), z6] [] M4 (fun r M' => rF M1 M' ∧ ((¬ (0 ≤ i ∧ 0 ≤ set ∧ ∀ b, b < 32 → bt set b = true → b ∈ cmL (M1.1 0 6) pu (mt - pu)) ∧ r = some (.inl (-3))) ∨ ((0 ≤ i ∧ 0 ≤ set ∧ ∀ b, b < 32 → bt set b = true → b ∈ cmL (M1.1 0 6) pu (mt - pu)) ∧ ∃ v, r = some (.inl v) ∧ putO M1 n mt pu set i v))) := by
      intro v z6 M4 hps hv
      refine am_go 60 [] (by decide) ?_
      refine am_by (c_M_putBack (d := d + 3)) (by omega) ?_
      rintro r M5 ⟨rfl, hB⟩
      exact ⟨(hb.back hps hB).rF, Or.inr ⟨hall, v, rfl, hv⟩⟩
    have hfR : am_R found := by
      rcases hf with ⟨f, rfl, f1, -⟩ | ⟨rfl, -⟩
      · exact ⟨by omega, by omega⟩
      · exact ⟨by omega, by omega⟩
    refine am_go 60 [172] (by decide) ?_
    refine And.intro ⟨hfR, ⟨(by first | omega | (dsimp only [am_own]; omega)), (by first | omega | (dsimp only [am_own]; omega))⟩⟩ (And.intro (fun h3 => ?_) (fun h3 => ?_))
    · have h3 : found = -1 := h3
      rcases hf with ⟨f, f0, f1, f2⟩ | ⟨f0, f1⟩
      · omega
      · exact tail (-1) _ M3 psame.rf (Or.inr ⟨f1, rfl⟩)
    have h3 : ¬ found = -1 := h3
    obtain ⟨f, rfl, f1, f2, f3⟩ : ∃ f : Nat, found = f ∧ f < mt ^ (mt - pu) ∧ goodP set n (cV M1 0) (cmL (M1.1 0 6) pu (mt - pu)) (dgH mt (mt - pu) f) ∧ (∀ c, c < f → ¬ goodP set n (cV M1 0) (cmL (M1.1 0 6) pu (mt - pu)) (dgH mt (mt - pu) c)) := by
      rcases hf with hf | ⟨f0, -⟩
      · exact hf
      · exact absurd f0 h3
    refine And.intro ⟨(by first | omega | (dsimp only [am_own]; omega)), (by first | omega | (dsimp only [am_own]; omega))⟩ ?_
    refine And.intro ⟨hi, (show am_R (M3.1 0 41 2 - M3.1 0 47 0) from ⟨by omega, by omega⟩)⟩ (And.intro (fun h4 => ?_) (fun h4 => ?_))
    rotate_left
    · have h4 : ¬ i < M3.1 0 41 2 - M3.1 0 47 0 := h4
      exact tail (-1) _ M3 psame.rf (Or.inl ⟨f, f1, f2, f3, by rw [if_neg (by omega)]⟩)
    have h4 : i < M3.1 0 41 2 - M3.1 0 47 0 := h4
    refine am_by (lay f M3 f1 hb) (by omega) ?_
    rintro r M4 ⟨hL, hr⟩
    rcases hr with ⟨rfl, hr⟩ | ⟨rfl, hr⟩
    · refine And.intro ⟨(by first | omega | (dsimp only [am_own]; omega)), (by first | omega | (dsimp only [am_own]; omega))⟩ (And.intro (fun h => absurd h (by decide)) (fun _ => ?_))
      have e74 : M4.1 0 47 0 = pu := (hL.2.2 0 (by omega)).trans e70
      refine And.intro ⟨(by first | omega | (dsimp only [am_own]; omega)), (by first | omega | (dsimp only [am_own]; omega))⟩ ?_
      refine And.intro (show 0 ≤ 1 + M4.1 0 47 0 + i ∧ 1 + M4.1 0 47 0 + i < 92 from ⟨by omega, by omega⟩) ?_
      refine tail _ _ M4 hL.ps (Or.inl ⟨f, f1, f2, f3, ?_⟩)
      rw [if_pos (by omega)]
      show M4.1 0 47 (1 + M4.1 0 47 0 + i).toNat = _
      rw [show (1 + M4.1 0 47 0 + i).toNat = 1 + (pu + i.toNat) by omega]
      exact hL.2.1 (pu + i.toNat) (by omega) (by omega)
    · exact absurd f2.1 hr
  have main : ∀ (k code : Nat) (z6 : Option Am_V) (M3 : Am_M), code + k = mt ^ (mt - pu) → bG M1 M3 → (∀ c, c < code → ¬ goodP set n (cV M1 0) (cmL (M1.1 0 6) pu (mt - pu)) (dgH mt (mt - pu) c)) → am_At Γ (d + 6) n_M_put 64 [some (.inr (.inr (0, 41))), some (.inl set), some (.inl i), some (.inl ((mt ^ (mt - pu) : Nat) : Int)), some (.inl (-1)), some (.inl (code : Int)), z6] [] M3 (fun r M' => rF M1 M' ∧ ((¬ (0 ≤ i ∧ 0 ≤ set ∧ ∀ b, b < 32 → bt set b = true → b ∈ cmL (M1.1 0 6) pu (mt - pu)) ∧ r = some (.inl (-3))) ∨ ((0 ≤ i ∧ 0 ≤ set ∧ ∀ b, b < 32 → bt set b = true → b ∈ cmL (M1.1 0 6) pu (mt - pu)) ∧ ∃ v, r = some (.inl v) ∧ putO M1 n mt pu set i v))) := by
    intro k
    induction k with
    | zero =>
      intro code z6 M3 hk hb hno
      refine am_go 60 [64, 114] (by decide) ?_
      refine And.intro ⟨⟨(by first | omega | (dsimp only [am_own]; omega)), (by first | omega | (dsimp only [am_own]; omega))⟩, ⟨(by first | omega | (dsimp only [am_own]; omega)), (by first | omega | (dsimp only [am_own]; omega))⟩⟩ (And.intro (fun h3 => ?_) (fun h3 => ?_))
      · exfalso
        have h3 : (code : Int) < ((mt ^ (mt - pu) : Nat) : Int) := h3
        omega
      · exact fin _ (-1) _ _ M3 hb (Or.inr ⟨rfl, fun c hc => hno c (by omega)⟩)
    | succ k ih =>
      intro code z6 M3 hk hb hno
      have hcl : code < mt ^ (mt - pu) := by omega
      have again : ∀ (M4 : Am_M), psame M3 M4 → ¬ goodP set n (cV M1 0) (cmL (M1.1 0 6) pu (mt - pu)) (dgH mt (mt - pu) code) → am_At Γ (d + 6) n_M_put 104 [some (.inr (.inr (0, 41))), some (.inl set), some (.inl i), some (.inl ((mt ^ (mt - pu) : Nat) : Int)), some (.inl (-1)), some (.inl (code : Int)), z6] [] M4 (fun r M' => rF M1 M' ∧ ((¬ (0 ≤ i ∧ 0 ≤ set ∧ ∀ b, b < 32 → bt set b = true → b ∈ cmL (M1.1 0 6) pu (mt - pu)) ∧ r = some (.inl (-3))) ∨ ((0 ≤ i ∧ 0 ≤ set ∧ ∀ b, b < 32 → bt set b = true → b ∈ cmL (M1.1 0 6) pu (mt - pu)) ∧ ∃ v, r = some (.inl v) ∧ putO M1 n mt pu set i v))) := by
        intro M4 hps hng
        refine am_go 60 [64] (by decide) ?_
        refine am_by (c_M_putBack (d := d + 3)) (by omega) ?_
        rintro r M5 ⟨rfl, hB⟩
        refine ih (code + 1) z6 M5 (by omega) (hb.back hps hB) (fun c hc => ?_)
        by_cases q : c = code
        · rw [q]; exact hng
        · exact hno c (by omega)
      refine am_go 60 [64, 104, 114] (by decide) ?_
      refine And.intro ⟨⟨(by first | omega | (dsimp only [am_own]; omega)), (by first | omega | (dsimp only [am_own]; omega))⟩, ⟨(by first | omega | (dsimp only [am_own]; omega)), (by first | omega | (dsimp only [am_own]; omega))⟩⟩ (And.intro (fun h3 => ?_) (fun h3 => ?_))
      rotate_left
      · exfalso
        have h3 : ¬ (code : Int) < ((mt ^ (mt - pu) : Nat) : Int) := h3
        omega
      refine And.intro ⟨⟨(by first | omega | (dsimp only [am_own]; omega)), (by first | omega | (dsimp only [am_own]; omega))⟩, ⟨(by first | omega | (dsimp only [am_own]; omega)), (by first | omega | (dsimp only [am_own]; omega))⟩⟩ (And.intro (fun _ => ?_) (fun h => absurd rfl h))
      refine am_by (lay code M3 hcl hb) (by omega) ?_
      rintro r M4 ⟨hL, hr⟩
      rcases hr with ⟨rfl, hr⟩ | ⟨rfl, hr⟩
      rotate_left
      · refine And.intro ⟨(by first | omega | (dsimp only [am_own]; omega)), (by first | omega | (dsimp only [am_own]; omega))⟩ (And.intro (fun _ => ?_) (fun h => absurd rfl h))
        exact again M4 hL.ps (fun hg => hr hg.1)
      refine And.intro ⟨(by first | omega | (dsimp only [am_own]; omega)), (by first | omega | (dsimp only [am_own]; omega))⟩ (And.intro (fun h => absurd h (by decide)) (fun _ => ?_))
      obtain ⟨hM4, e74, hcar⟩ := carr code M3 M4 hcl hb hL hr
      refine am_by (c_M_putAll (d := d) hM4 (by omega)) (by omega) ?_
      rintro r M5 ⟨rfl, hP⟩
      refine And.intro (am_R_and _ _) (And.intro (fun h4 => ?_) (fun h4 => ?_))
      · have hgood : goodP set n (cV M1 0) (cmL (M1.1 0 6) pu (mt - pu)) (dgH mt (mt - pu) code) := ⟨hr, hcar.mp h4⟩
        refine am_go 60 [64] (by decide) ?_
        refine am_by (c_M_putBack (d := d + 3)) (by omega) ?_
        rintro r M6 ⟨rfl, hB⟩
        have hb6 := hb.back (hL.ps.tr hP) hB
        refine am_go 60 [114] (by decide) ?_
        refine And.intro ⟨⟨(by first | omega | (dsimp only [am_own]; omega)), (by first | omega | (dsimp only [am_own]; omega))⟩, ⟨(by first | omega | (dsimp only [am_own]; omega)), (by first | omega | (dsimp only [am_own]; omega))⟩⟩ (And.intro (fun _ => ?_) (fun _ => ?_))
        · refine And.intro ⟨⟨(by first | omega | (dsimp only [am_own]; omega)), (by first | omega | (dsimp only [am_own]; omega))⟩, ⟨(by first | omega | (dsimp only [am_own]; omega)), (by first | omega | (dsimp only [am_own]; omega))⟩⟩ (And.intro (fun h5 => ?_) (fun _ => ?_))
          · exfalso
            have h5 : (code : Int) = -1 := h5
            omega
          · exact fin _ (code : Int) _ _ M6 hb6 (Or.inl ⟨code, rfl, hcl, hgood, hno⟩)
        · exact fin _ (code : Int) _ _ M6 hb6 (Or.inl ⟨code, rfl, hcl, hgood, hno⟩)
      · exact again M5 (hL.ps.tr hP) (fun hg => h4 (hcar.mpr hg.2))
  have codes : ∀ (k j : Nat), j + k = mt → pu ≤ j → am_At Γ (d + 6) n_M_put 36 [some (.inr (.inr (0, 41))), some (.inl set), some (.inl i), some (.inl ((mt ^ (j - pu) : Nat) : Int)), some (.inl (j : Int)), none, none] [] M2 (fun r M' => rF M1 M' ∧ ((¬ (0 ≤ i ∧ 0 ≤ set ∧ ∀ b, b < 32 → bt set b = true → b ∈ cmL (M1.1 0 6) pu (mt - pu)) ∧ r = some (.inl (-3))) ∨ ((0 ≤ i ∧ 0 ≤ set ∧ ∀ b, b < 32 → bt set b = true → b ∈ cmL (M1.1 0 6) pu (mt - pu)) ∧ ∃ v, r = some (.inl v) ∧ putO M1 n mt pu set i v))) := by
    intro k
    have e2 : M2.1 0 41 2 = mt := (hB2.2.2.1 2 (by omega) (by omega) (by omega)).trans n3
    induction k with
    | zero =>
      intro j hj hpj
      have : j = mt := by omega
      subst this
      refine am_go 60 [36, 64] (by decide) ?_
      refine And.intro ⟨⟨(by first | omega | (dsimp only [am_own]; omega)), (by first | omega | (dsimp only [am_own]; omega))⟩, (show am_R (M2.1 0 41 2) from ⟨(by first | omega | (dsimp only [am_own]; omega)), (by first | omega | (dsimp only [am_own]; omega))⟩)⟩ (And.intro (fun h => ?_) (fun h => ?_))
      · exfalso
        have h : (j : Int) < M2.1 0 41 2 := h
        omega
      · exact main (j ^ (j - pu)) 0 none M2 (by omega) hB2 (fun c hc => absurd hc (Nat.not_lt_zero c))
    | succ k ih =>
      intro j hj hpj
      refine am_go 60 [36, 64] (by decide) ?_
      refine And.intro ⟨⟨(by first | omega | (dsimp only [am_own]; omega)), (by first | omega | (dsimp only [am_own]; omega))⟩, (show am_R (M2.1 0 41 2) from ⟨(by first | omega | (dsimp only [am_own]; omega)), (by first | omega | (dsimp only [am_own]; omega))⟩)⟩ (And.intro (fun h => ?_) (fun h => ?_))
      · have go := ih (j + 1) (by omega) (by omega)
        rw [show (((mt ^ (j + 1 - pu) : Nat)) : Int) = ((mt ^ (j - pu) : Nat) : Int) * M2.1 0 41 2 by rw [e2, show j + 1 - pu = (j - pu) + 1 by omega, Nat.pow_succ]; exact Int.natCast_mul _ _] at go
        exact go
      · exfalso
        have h : ¬ (j : Int) < M2.1 0 41 2 := h
        omega
  refine And.intro ⟨(by first | omega | (dsimp only [am_own]; omega)), (by first | omega | (dsimp only [am_own]; omega))⟩ ?_
  have e72 : M2.1 0 47 0 = pu := (hB2.2.2.2.1 0 (by omega)).trans hp7
  have go := codes (mt - pu) pu (by omega) (Nat.le_refl pu)
  rw [Nat.sub_self, Nat.pow_zero, ← e72] at go
  exact go
