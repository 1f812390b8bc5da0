/-! pairs: best -/
/-- one taken as TOLD -/
def kT (V : Vw) (i : Nat) : Vw := fun c k => if c = 1 ∧ k = i then 3 else V c k
theorem kT_o (V : Vw) (i c k : Nat) (h : c ≠ 1) : kT V i c k = V c k := by
  unfold kT
  rw [if_neg (fun z => h z.1)]
theorem kT_wf {V : Vw} {n mt i : Nat} (h : wfV V n mt) : wfV (kT V i) n mt := by
  obtain ⟨h1, h2, h3, h4, h5⟩ := h
  refine ⟨h1, h2, fun j hj => ?_, h4, h5⟩
  obtain ⟨a, b⟩ := h3 j hj
  refine ⟨?_, b⟩
  unfold kT
  split <;> omega
theorem bestO_congr {V V' : Vw} {n mt i b many f : Nat} {w : Int} (hi : i < n) (hv : veq n mt V V') (hV : wfV V n mt) (hp : V 0 3 + (many : Int) ≤ mt) (h : bestO V n i b many f w) : bestO V' n i b many f w := by
  have e : ∀ x, evX V n i b many x = evX V' n i b many x := fun x => by
    unfold evX
    exact evB_congr hi _ _ _ _ hv hV (by rw [dgH_len]; exact hp)
  unfold bestO at h ⊢
  obtain ⟨h1, h2, h3⟩ := h
  refine ⟨h1, by rw [← e]; exact h2, fun x hx w' he => ?_⟩
  rw [← e] at he
  exact h3 x hx w' he
theorem c_seekBest {Γ : Am_G} {M : Am_M} {n mt pu i b many : Nat} (hR : RelN M n mt) (hp : M.1 0 0 7 = pu) (hi : i < n) (hm1 : 1 ≤ many) (hm3 : many ≤ 3) (hpm : pu + many ≤ mt) (hb : (b : Int) = M.1 9 3 i + 1) : am_Ev Γ 23 n_Foresight_seekBest [.inr (.inr (0, 34)), .inr (.inr (0, 0)), .inl (i : Int), .inl (many : Int)] M (fun r M' => r = none ∧ am_same fF M M' ∧ ∃ f w, bestO (kT (cV M 0) i) n i b many f w ∧ M'.1 0 34 6 = w ∧ ∀ k (s : Nat), (dgH b many f)[k]? = some s → M'.1 0 38 k = s) := by
  have b1 := hR.1.1
  have b2 := hR.1.2.1
  obtain ⟨a1, a2, a3, a4, a5, a6, a7, a8⟩ := hR.2.1
  have harm := (hR.1.2.2.2.1 i hi).2.2.1
  have hV := hR.V
  have e2i : M.1 0 3 i = M.1 9 3 i := (a2 i hi).2.1
  have hb1 : 0 < b := by omega
  have hb31 : b ≤ 31 := by omega
  refine am_ev_of (by decide) (am_le rfl) (am_go 60 [] (by decide) ?_)
  refine am_by (c_startFrom (d := 10) (e := 0) (by decide)) (by omega) ?_
  rintro r M1 ⟨rfl, hC⟩
  refine And.intro ⟨(by first | omega | (dsimp only [am_own]; omega)), (by first | omega | (dsimp only [am_own]; omega))⟩ ?_
  refine And.intro (Or.inl rfl) ?_
  have ei : ((i : Int)).toNat = i := rfl
  have hv := evC_view (n := n) (mt := mt) hC b1.2.2 b2.2.2 (by omega)
  have hH1 := evC_H hC hR.H
  obtain ⟨M2, hM2⟩ : ∃ M2, M2 = am_set (am_set M1 3 2 i 3) 0 34 12 0 := ⟨_, rfl⟩
  have g : ∀ e p k, ¬ (e = 3 ∧ p = 2 ∧ k = i) → ¬ (e = 0 ∧ p = 34 ∧ k = 12) → M2.1 e p k = M1.1 e p k := fun e p k x y => by
    rw [hM2]
    unfold am_set
    dsimp only
    rw [if_neg (by omega), if_neg (by omega)]
  have e3 : M2.1 3 2 i = 3 := by
    rw [hM2, set_p (by decide)]
    exact set_eq
  have e12 : M2.1 0 34 12 = 0 := by rw [hM2]; exact set_eq
  have hH2 : wfH M2 mt := by
    obtain ⟨q1, q2, q3⟩ := hH1
    refine ⟨by rw [g 0 18 4 (by omega) (by omega)]; exact q1, fun k hk => by rw [g 0 20 k (by omega) (by omega)]; exact q2 k hk, fun k hk => by rw [g 0 19 k (by omega) (by omega)]; exact q3 k hk⟩
  have hv2 : veq n mt (cV M2 3) (kT (cV M 0) i) := by
    obtain ⟨q1, q2, q3, q4⟩ := hv
    refine ⟨fun k hk => ?_, fun j hj => ?_, fun m hm => ?_, fun j m hj hm => ?_⟩
    · have := q1 k hk
      rcases (show k = 0 ∨ k = 1 ∨ k = 2 ∨ k = 3 by omega) with rfl | rfl | rfl | rfl
      · exact (g 3 1 4 (by omega) (by omega)).trans this
      · exact (g 3 0 6 (by omega) (by omega)).trans this
      · exact (g 0 18 4 (by omega) (by omega)).trans this
      · exact (g 3 0 7 (by omega) (by omega)).trans this
    · obtain ⟨x1, x2, x3, x4, x5⟩ := q2 j hj
      refine ⟨?_, (g 3 3 j (by omega) (by omega)).trans x2, (g 3 4 j (by omega) (by omega)).trans x3, (g 3 5 j (by omega) (by omega)).trans x4, (g 3 7 j (by omega) (by omega)).trans x5⟩
      show M2.1 3 2 j = kT (cV M 0) i 1 j
      unfold kT
      by_cases q : j = i
      · rw [if_pos ⟨rfl, q⟩, q]; exact e3
      · rw [if_neg (fun z => q z.2)]; exact (g 3 2 j (by omega) (by omega)).trans x1
    · obtain ⟨x1, x2⟩ := q3 m hm
      exact ⟨(g 0 19 m (by omega) (by omega)).trans x1, (g 3 6 m (by omega) (by omega)).trans x2⟩
    · obtain ⟨x1, x2⟩ := q4 j m hj hm
      exact ⟨(g 0 20 _ (by omega) (by omega)).trans x1, (g 3 8 _ (by omega) (by omega)).trans x2⟩
  have hW0 : wfV (kT (cV M 0) i) n mt := kT_wf hV
  have hN : nodeB M2 (kT (cV M 0) i) n mt pu i 0 [] := ⟨veq_wf hv2.symm hW0, (g 3 0 7 (by omega) (by omega)).trans (hC.2.1.2.1.trans hp), hv2, fun k s hk => by simp at hk⟩
  have hcall := c_seekBestFrom (Γ := Γ) (d := 10) (V0 := kT (cV M 0) i) (n := n) (mt := mt) (pu := pu) (i := i) (b := b) (many := many) hi hW0 hp hpm hm3 (by unfold kT; rw [if_pos ⟨rfl, rfl⟩]) (by rw [kT_o _ _ _ _ (by omega)]; show (b : Int) = M.1 0 3 i + 1; omega) hb31 hb1 (by rw [kT_o _ _ _ _ (by omega), kT_o _ _ _ _ (by omega)]; show M.1 0 7 i ≤ M.1 0 3 i; have := a6 i hi; omega) (permO_inj hR.perm6 (fun k hk => (a4 k hk).2)) (many - 1) 0 [] 0 M2 (by omega) rfl (fun m hm => absurd hm List.not_mem_nil) rfl hH2 hN (by
    have e0 : cdH b [] * b ^ (many - 1 + 1) = 0 := Nat.zero_mul _
    rw [e0]
    exact Or.inl ⟨e12, fun x hx => absurd hx (Nat.not_lt_zero x)⟩)
  rw [hM2] at hcall
  refine am_by hcall (by omega) ?_
  rintro r M3 ⟨rfl, hs, -, hB⟩
  rw [← hM2] at hs
  have e1 : (cdH b [] + 1) * b ^ (many - 1 + 1) = b ^ many := by
    rw [show many - 1 + 1 = many by omega]
    show (0 + 1) * b ^ many = b ^ many
    omega
  rw [e1] at hB
  refine ⟨rfl, ?_, ?_⟩
  · refine (evC_fF hC).tr (am_same.tr (M' := M2) ?_ (hs.wk (fun e p hp => ?_)))
    · rw [hM2]
      exact (am_same.rf.set (Or.inr (Or.inl ⟨by omega, by omega, by omega⟩))).set (Or.inr (Or.inr ⟨by omega, by omega⟩))
    · unfold gF at hp
      unfold fF
      rcases hp with hp | hp | hp
      · exact Or.inl hp
      · exact Or.inr (Or.inl ⟨by omega, by omega, by omega⟩)
      · exact Or.inr (Or.inr ⟨by omega, by omega⟩)
  · rcases hB with ⟨-, hno⟩ | ⟨-, f, f1, f2, f3, f4, f5⟩
    · exact absurd (hno 0 (Nat.pow_pos hb1)) (ev_zeros (mt := mt) hi many _ _ hW0 (by show M.1 0 0 7 + _ ≤ _; omega))
    · refine ⟨f, M3.1 0 34 6, ⟨f1, f2, fun x hx w' he => ?_⟩, rfl, f4⟩
      rw [f3]
      exact f5 x hx w' he
theorem P_best {Γ : Am_G} {M : Am_M} {x y z : Int} (h : Rel M) (hx : am_R x) (hy : am_R y) (hz : am_R z) : Pair Γ 24 n_R_best n_M_best [.inl x, .inl y, .inl z] M := by
  obtain ⟨n, mt, hR⟩ := id h
  obtain ⟨pu, hp, hp2, hpm⟩ := hR.p
  have b1 := hR.1.1
  have b2 := hR.1.2.1
  obtain ⟨a1, a2, a3, a4, a5, a6, a7, a8⟩ := hR.2.1
  -- the reference, as far as its answer is refused
  have hM := hR.wM
  refine am_ev_of (by decide) (am_le rfl) (am_go 60 [] (by decide) ?_)
  refine am_by (c_isPerson (d := 10) x hx ⟨by omega, by omega⟩) (by omega) ?_
  rintro r M0 ⟨rfl, rfl⟩
  rw [b1.1]
  by_cases qx : 0 ≤ x ∧ x < n
  rotate_left
  · rw [if_neg qx]
    refine And.intro ⟨(by first | omega | (dsimp only [am_own]; omega)), (by first | omega | (dsimp only [am_own]; omega))⟩ (And.intro (fun _ => ?_) (fun h => absurd rfl h))
    refine ⟨_, rfl, ?_⟩
    refine am_ev_of (by decide) (am_le rfl) (am_go 60 [] (by decide) ?_)
    refine am_by (c_M_isPerson (d := 10) x hx (by omega)) (by omega) ?_
    rintro r M2 ⟨rfl, rfl⟩
    rw [b1.2.1, if_neg qx]
    refine And.intro ⟨(by first | omega | (dsimp only [am_own]; omega)), (by first | omega | (dsimp only [am_own]; omega))⟩ (And.intro (fun _ => ?_) (fun h => absurd rfl h))
    exact ⟨rfl, h⟩
  rw [if_pos qx]
  refine And.intro ⟨(by first | omega | (dsimp only [am_own]; omega)), (by first | omega | (dsimp only [am_own]; omega))⟩ (And.intro (fun h => absurd h (by decide)) (fun _ => ?_))
  have outs : ∀ v : Int, ¬ ((1 ≤ y ∧ y ≤ 3) ∧ -1 ≤ z) → Ans Γ 24 n_M_best [.inl x, .inl y, .inl z] (some (.inl (-3))) M0 := fun v q => by
    refine ⟨_, rfl, ?_⟩
    refine am_ev_of (by decide) (am_le rfl) (am_go 60 [] (by decide) ?_)
    refine am_by (c_M_isPerson (d := 10) x hx (by omega)) (by omega) ?_
    rintro r M2 ⟨rfl, rfl⟩
    rw [b1.2.1, if_pos qx]
    refine And.intro ⟨(by first | omega | (dsimp only [am_own]; omega)), (by first | omega | (dsimp only [am_own]; omega))⟩ (And.intro (fun h => absurd h (by decide)) (fun _ => ?_))
    refine am_by (c_M_in (d := 10) y 1 3 hy ⟨(by first | omega | (dsimp only [am_own]; omega)), (by first | omega | (dsimp only [am_own]; omega))⟩ ⟨(by first | omega | (dsimp only [am_own]; omega)), (by first | omega | (dsimp only [am_own]; omega))⟩) (by omega) ?_
    rintro r M3 ⟨rfl, rfl⟩
    by_cases qy : 1 ≤ y ∧ y ≤ 3
    · rw [if_pos qy]
      refine And.intro ⟨(by first | omega | (dsimp only [am_own]; omega)), (by first | omega | (dsimp only [am_own]; omega))⟩ (And.intro (fun h => absurd h (by decide)) (fun _ => ?_))
      refine And.intro ⟨hz, ⟨(by first | omega | (dsimp only [am_own]; omega)), (by first | omega | (dsimp only [am_own]; omega))⟩⟩ (And.intro (fun _ => ⟨rfl, h⟩) (fun h2 => ?_))
      exfalso
      omega
    · rw [if_neg qy]
      refine And.intro ⟨(by first | omega | (dsimp only [am_own]; omega)), (by first | omega | (dsimp only [am_own]; omega))⟩ (And.intro (fun _ => ?_) (fun h => absurd rfl h))
      exact ⟨rfl, h⟩
  refine And.intro ⟨hy, ⟨(by first | omega | (dsimp only [am_own]; omega)), (by first | omega | (dsimp only [am_own]; omega))⟩⟩ (And.intro (fun h1 => outs 0 (by omega)) (fun h1 => ?_))
  refine And.intro ⟨hy, ⟨(by first | omega | (dsimp only [am_own]; omega)), (by first | omega | (dsimp only [am_own]; omega))⟩⟩ (And.intro (fun h2 => outs 0 (by omega)) (fun h2 => ?_))
  refine And.intro ⟨hz, ⟨(by first | omega | (dsimp only [am_own]; omega)), (by first | omega | (dsimp only [am_own]; omega))⟩⟩ (And.intro (fun h3 => outs 0 (by omega)) (fun h3 => ?_))
  have h1 : ¬ y < 1 := h1
  have h2 : ¬ 3 < y := h2
  have h3 : ¬ z < -1 := h3
  refine am_by (c_toCome (d := 10) 0) (by omega) ?_
  rintro r M1 ⟨rfl, rfl⟩
  have et : M1.1 0 0 6 - M1.1 0 0 7 = ((mt - pu : Nat) : Int) := by omega
  rw [et]
  refine And.intro ⟨⟨hy, ⟨by omega, by omega⟩⟩, by omega, am_le rfl⟩ ?_
  obtain ⟨many, hmany⟩ : ∃ many : Nat, (if ((mt - pu : Nat) : Int) < y then ((mt - pu : Nat) : Int) else y) = (many : Int) := ⟨(if ((mt - pu : Nat) : Int) < y then ((mt - pu : Nat) : Int) else y).toNat, by split <;> omega⟩
  rw [hmany]
  have hmb : many ≤ 3 ∧ pu + many ≤ mt ∧ (many = 0 ↔ pu = mt) := by split at hmany <;> omega
  have hml : (if y < ((mt - pu : Nat) : Int) then y else ((mt - pu : Nat) : Int)) = (many : Int) := by split at hmany <;> split <;> omega
  -- the reference comes to its own number
  have step : ∀ (M2 : Am_M), wfM M2 n mt → M2.1 0 47 0 = pu → (many = 0 → Rel M2) → (many ≤ z → Rel M2) → ∀ v : Int, (many = 0 → v = -4) → (many ≠ 0 → (many : Int) ≤ z → v = -1) → (many ≠ 0 → z < many → am_At Γ 24 n_M_best 69 [some (.inr (.inr (0, 41))), some (.inl x), some (.inl y), some (.inl z), some (.inl (many : Int))] [] M2 (fun r' M2 => r' = some (.inl v) ∧ Rel M2)) → am_Ev Γ 24 n_M_best [.inr (.inr (0, 41)), .inl x, .inl y, .inl z] M2 (fun r' M2 => r' = some (.inl v) ∧ Rel M2) := by
    intro M2 hM2 hp3 hr0 hr1 v hv0 hv1 hgo
    obtain ⟨⟨n1, n2, n3, n4⟩, -⟩ := id hM2
    refine am_ev_of (by decide) (am_le rfl) (am_go 60 [69] (by decide) ?_)
    refine am_by (c_M_isPerson (d := 10) x hx (by omega)) (by omega) ?_
    rintro r M3 ⟨rfl, rfl⟩
    rw [n1, if_pos qx]
    refine And.intro ⟨(by first | omega | (dsimp only [am_own]; omega)), (by first | omega | (dsimp only [am_own]; omega))⟩ (And.intro (fun h => absurd h (by decide)) (fun _ => ?_))
    refine am_by (c_M_in (d := 10) y 1 3 hy ⟨(by first | omega | (dsimp only [am_own]; omega)), (by first | omega | (dsimp only [am_own]; omega))⟩ ⟨(by first | omega | (dsimp only [am_own]; omega)), (by first | omega | (dsimp only [am_own]; omega))⟩) (by omega) ?_
    rintro r M4 ⟨rfl, rfl⟩
    rw [if_pos (show 1 ≤ y ∧ y ≤ 3 by omega)]
    refine And.intro ⟨(by first | omega | (dsimp only [am_own]; omega)), (by first | omega | (dsimp only [am_own]; omega))⟩ (And.intro (fun h => absurd h (by decide)) (fun _ => ?_))
    refine And.intro ⟨hz, ⟨(by first | omega | (dsimp only [am_own]; omega)), (by first | omega | (dsimp only [am_own]; omega))⟩⟩ (And.intro (fun h4 => absurd h4 h3) (fun _ => ?_))
    refine And.intro ⟨(by first | omega | (dsimp only [am_own]; omega)), (by first | omega | (dsimp only [am_own]; omega))⟩ ?_
    refine And.intro ⟨(show am_R (M4.1 0 47 0) from ⟨by omega, by omega⟩), (show am_R (M4.1 0 41 2) from ⟨by omega, by omega⟩)⟩ (And.intro (fun h4 => ?_) (fun h4 => ?_))
    · have h4 : M4.1 0 47 0 = M4.1 0 41 2 := h4
      have : many = 0 := by omega
      exact ⟨by rw [hv0 this], hr0 this⟩
    have h4 : ¬ M4.1 0 47 0 = M4.1 0 41 2 := h4
    have hm0 : many ≠ 0 := by omega
    refine And.intro ⟨(by first | omega | (dsimp only [am_own]; omega)), (by first | omega | (dsimp only [am_own]; omega))⟩ ?_
    have el : M4.1 0 41 2 - M4.1 0 47 0 = ((mt - pu : Nat) : Int) := by omega
    have hc := c_M_least (Γ := Γ) (d := 10) (M := M4) y ((mt - pu : Nat) : Int) hy ⟨by omega, by omega⟩
    rw [← el] at hc
    refine am_by hc (by omega) ?_
    rintro r M5 ⟨rfl, rfl⟩
    rw [el, hml]
    refine And.intro ⟨hz, ⟨by omega, by omega⟩⟩ (And.intro (fun h5 => ?_) (fun h5 => ?_))
    · have h5 : z < (many : Int) := h5
      exact hgo hm0 h5
    · have h5 : ¬ z < (many : Int) := h5
      exact ⟨by rw [hv1 hm0 (by omega)], hr1 (by omega)⟩
  refine And.intro ⟨by omega, by omega⟩ (And.intro (fun h4 => ?_) (fun h4 => ?_))
  · have h4 : (many : Int) = 0 := h4
    exact ⟨_, rfl, step M1 hM hp2 (fun _ => h) (fun _ => h) (-4) (fun _ => rfl) (fun q => absurd (by omega) q) (fun q => absurd (by omega) q)⟩
  have h4 : ¬ (many : Int) = 0 := h4
  refine And.intro ⟨hz, ⟨by omega, by omega⟩⟩ (And.intro (fun h5 => ?_) (fun h5 => ?_))
  rotate_left
  · have h5 : ¬ z < (many : Int) := h5
    exact ⟨_, rfl, step M1 hM hp2 (fun _ => h) (fun _ => h) (-1) (fun q => absurd q (by omega)) (fun _ _ => rfl) (fun _ q => absurd q h5)⟩
  have h5 : z < (many : Int) := h5
  obtain ⟨i, rfl⟩ : ∃ i : Nat, x = i := ⟨x.toNat, by omega⟩
  have hi : i < n := by omega
  have harm := (hR.1.2.2.2.1 i hi)
  obtain ⟨b, hb⟩ : ∃ b : Nat, (b : Int) = M1.1 9 3 i + 1 := ⟨(M1.1 9 3 i + 1).toNat, by have := harm.2.2.1; omega⟩
  refine am_by (c_seekBest hR hp hi (by omega) hmb.1 hmb.2.1 hb) (by omega) ?_
  rintro r M2 ⟨rfl, hs, f, w, hO, hw, hsec⟩
  have hR2 := hR.ff hs
  have ev2 : cV M2 0 = cV M1 0 := cV_ff hs
  rw [← ev2] at hO
  have hp7 : M2.1 0 0 7 = pu := (hs.2 0 0 7 (by unfold fF vS; omega)).trans hp
  have hp47 : M2.1 0 47 0 = pu := hR2.p7.trans hp7
  have hm2 : many ≠ 0 := by omega
  have hwb : -27 ≤ w ∧ w ≤ 27 := by
    have := evB_b (mt := mt) hi _ _ _ _ (kT_wf hR2.V) (by rw [dgH_len]; show M2.1 0 0 7 + _ ≤ _; omega) hO.2.1
    rw [dgH_len] at this
    omega
  -- what the reference finds
  have ref : ∀ v : Int, (z = -1 → v = w + 100) → (z ≠ -1 → v = M2.1 0 38 z.toNat) → am_Ev Γ 24 n_M_best [.inr (.inr (0, 41)), .inl (i : Int), .inl y, .inl z] M2 (fun r' M2 => r' = some (.inl v) ∧ Rel M2) := by
    intro v hv1 hv2
    refine step M2 hR2.wM hp47 (fun q => absurd q hm2) (fun q => by omega) v (fun q => absurd q hm2) (fun _ q => by omega) (fun _ _ => ?_)
    refine am_go 60 [] (by decide) ?_
    obtain ⟨M3, hM3⟩ : ∃ M3, M3 = am_set M2 0 41 30 (i : Int) := ⟨_, rfl⟩
    have g : ∀ e p k, ¬ (e = 0 ∧ p = 41 ∧ k = 30) → M3.1 e p k = M2.1 e p k := fun e p k q => by
      rw [hM3]
      unfold am_set
      dsimp only
      rw [if_neg (by omega)]
    have e30 : M3.1 0 41 30 = i := by rw [hM3]; exact set_eq
    have hM3w : wfM M3 n mt := by
      obtain ⟨⟨n1, n2, n3, n4⟩, n5, n6, n7, n8, n9, n10, n11⟩ := hR2.wM
      refine ⟨⟨by rw [g _ _ _ (by omega)]; exact n1, n2, by rw [g _ _ _ (by omega)]; exact n3, n4⟩, by rw [g _ _ _ (by omega)]; exact n5, fun j hj => ?_, fun m hm => by rw [g _ _ _ (by omega)]; exact n7 m hm, fun j m hj hm => by rw [g _ _ _ (by omega), g _ _ _ (by omega)]; exact n8 j m hj hm, fun k hk => by rw [g _ _ _ (by omega)]; exact n9 k hk, by rw [e30]; omega, by rw [g _ _ _ (by omega)]; exact n11⟩
      have := n6 j hj
      simp only [g _ _ _ (show ¬ ((0 : Nat) = 0 ∧ (42 : Nat) = 41 ∧ j * 4 = 30) by omega), g _ _ _ (show ¬ ((0 : Nat) = 0 ∧ (42 : Nat) = 41 ∧ j * 4 + 1 = 30) by omega), g _ _ _ (show ¬ ((0 : Nat) = 0 ∧ (42 : Nat) = 41 ∧ j * 4 + 2 = 30) by omega), g _ _ _ (show ¬ ((0 : Nat) = 0 ∧ (42 : Nat) = 41 ∧ j * 4 + 3 = 30) by omega), g _ _ _ (show ¬ ((0 : Nat) = 0 ∧ (47 : Nat) = 41 ∧ 6 + j = 30) by omega)]
      exact this
    have hvq : veq n mt (rV M3) (kT (cV M2 0) i) := by
      obtain ⟨q1, q2, q3, q4⟩ := hR2.vq
      have hn1 := hR2.2.2.2.2.2
      refine ⟨fun k hk => ?_, fun j hj => ?_, fun m hm => ?_, fun j m hj hm => ?_⟩
      · have := q1 k hk
        rcases (show k = 0 ∨ k = 1 ∨ k = 2 ∨ k = 3 by omega) with rfl | rfl | rfl | rfl
        · exact (g 0 41 0 (by omega)).trans this
        · exact (g 0 41 2 (by omega)).trans this
        · exact (g 0 41 5 (by omega)).trans this
        · exact (g 0 47 0 (by omega)).trans this
      · obtain ⟨x1, x2, x3, x4, x5⟩ := q2 j hj
        refine ⟨?_, ?_, ?_, (g 0 42 _ (by omega)).trans x4, (g 0 47 _ (by omega)).trans x5⟩
        · show mkd M3 j = kT (cV M2 0) i 1 j
          have x1 : mkd M2 j = cV M2 0 1 j := x1
          unfold mkd kT
          unfold mkd at x1
          rw [e30]
          by_cases q : j = i
          · rw [if_pos (by omega), if_pos ⟨rfl, q⟩]
          · rw [if_neg (by omega), if_neg (fun y => q y.2), g 0 42 _ (by omega)]
            rw [if_neg (by omega)] at x1
            exact x1
        · show (if M3.1 0 41 31 = 1 then 99 else M3.1 0 42 (j * 4 + 1)) = cV M2 0 2 j
          rw [g 0 41 31 (by omega), g 0 42 _ (by omega)]
          exact x2
        · show (if M3.1 0 41 31 = 1 then 0 else M3.1 0 42 (j * 4 + 2)) = cV M2 0 3 j
          rw [g 0 41 31 (by omega), g 0 42 _ (by omega)]
          exact x3
      · obtain ⟨x1, x2⟩ := q3 m hm
        exact ⟨(g 0 43 m (by omega)).trans x1, (g 0 47 _ (by omega)).trans x2⟩
      · obtain ⟨x1, x2⟩ := q4 j m hj hm
        exact ⟨(g 0 44 _ (by omega)).trans x1, (g 0 47 _ (by omega)).trans x2⟩
    have hb2 : (b : Int) = M3.1 0 42 (i * 4 + 1) + 1 := by
      rw [g 0 42 _ (by omega), hb, ← (hR2.1.2.2.2.1 i hi).1.2.1, hs.2 9 3 i (by unfold fF vS; omega)]
    have hcall := c_M_tryAll (Γ := Γ) (d := 10) (M := M3) (n := n) (mt := mt) (pu := pu) (i := i) (many := many) (b := b) hM3w hi ((g 0 47 0 (by omega)).trans hp47) hmb.2.1 (by omega) hmb.1 hb2 (by have := harm.2.2.1; omega)
    rw [hM3] at hcall
    refine am_by hcall (by omega) ?_
    rintro r M4 ⟨rfl, hF, f', w', hO', hw', hsec'⟩
    rw [← hM3] at hF hO'
    have hO2 := bestO_congr (mt := mt) hi hvq (veq_wf hvq.symm (kT_wf hR2.V)) (by show M3.1 0 47 0 + _ ≤ _; rw [g 0 47 0 (by omega), hp47]; omega) hO'
    obtain ⟨rfl, rfl⟩ := bestO_uniq hO hO2
    have hR5 : Rel (am_set M4 0 41 30 (-1)) := by
      refine ⟨n, mt, hR2.fr (fun e p k hr => ?_)⟩
      unfold relv at hr
      by_cases q1 : e = 0 ∧ p = 41
      · obtain ⟨rfl, rfl⟩ := q1
        by_cases q2 : k = 30
        · rw [q2, set_eq]
          exact hR2.2.2.2.2.2.1.symm
        · rw [set_k q2, hF.2.2.1 k (by omega) (by omega) (by omega) (by omega)]
          exact g 0 41 k (by omega)
      · have e1 : (am_set M4 0 41 30 (-1)).1 e p k = M4.1 e p k := by
          unfold am_set
          dsimp only
          rw [if_neg (by omega)]
        rw [e1]
        by_cases q2 : e = 0 ∧ p = 47
        · obtain ⟨rfl, rfl⟩ := q2
          rw [hF.2.2.2 k (by omega)]
          exact g 0 47 k (by omega)
        · rw [hF.2.1 e p k (by omega) (by omega) (by omega) (by omega)]
          exact g e p k (by omega)
    refine And.intro ⟨hz, ⟨(by first | omega | (dsimp only [am_own]; omega)), (by first | omega | (dsimp only [am_own]; omega))⟩⟩ (And.intro (fun h6 => ?_) (fun h6 => ?_))
    · have h6 : z = -1 := h6
      refine ⟨?_, hR5⟩
      refine congrArg (fun q => some (Sum.inl q)) ?_
      show (am_set M4 0 41 30 (-1)).1 0 41 34 = v
      rw [set_k (by decide), hw', hv1 h6]
      omega
    · have h6 : ¬ z = -1 := h6
      refine And.intro (show 0 ≤ z ∧ z < 3 from ⟨by omega, by omega⟩) ?_
      refine ⟨?_, hR5⟩
      refine congrArg (fun q => some (Sum.inl q)) ?_
      show (am_set M4 0 41 30 (-1)).1 0 56 z.toNat = v
      have hzl : z.toNat < (dgH b many f).length := by rw [dgH_len]; omega
      have hge : (dgH b many f)[z.toNat]? = some ((dgH b many f)[z.toNat]) := List.getElem?_eq_getElem hzl
      rw [set_p (by decide), hsec' _ _ hge, hv2 h6, hsec _ _ hge]
  refine And.intro ⟨hz, ⟨(by first | omega | (dsimp only [am_own]; omega)), (by first | omega | (dsimp only [am_own]; omega))⟩⟩ (And.intro (fun h6 => ?_) (fun h6 => ?_))
  · have h6 : z = -1 := h6
    exact ⟨_, rfl, ref (M2.1 0 34 6 + 100) (fun _ => by rw [hw]) (fun q => absurd h6 q)⟩
  · have h6 : ¬ z = -1 := h6
    refine And.intro (show 0 ≤ z ∧ z < 3 from ⟨by omega, by omega⟩) ?_
    exact ⟨_, rfl, ref (M2.1 0 38 z.toNat) (fun q => absurd q h6) (fun _ => rfl)⟩
