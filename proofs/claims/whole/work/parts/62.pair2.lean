/-! pairs: turn, bought -/
theorem turnS_congr {n mt i q : Nat} {V V' : Vw} (h : veq n mt V V') (hV : wfV V n mt) (hq : V 0 3 + q < mt) : ∀ (k : Nat) (c : Int), 1 ≤ c → c + k ≤ 10 → turnS V n i q k c = turnS V' n i q k c
  | 0, _, _, _ => rfl
  | k + 1, c, h1, h2 => by
    have hv : veq n mt (tV V i c) (tV V' i c) := by
      obtain ⟨q1, q2, q3, q4⟩ := h
      refine ⟨q1, fun j hj => ?_, q3, q4⟩
      obtain ⟨z1, z2, z3, z4, z5⟩ := q2 j hj
      refine ⟨z1, z2, z3, ?_, z5⟩
      show (if (4 : Nat) = 4 ∧ j = i then c else V 4 j) = (if (4 : Nat) = 4 ∧ j = i then c else V' 4 j)
      rw [z4]
    have hw : wfV (tV V i c) n mt := tV_wf hV (by push_cast at h2; omega)
    have e3 : tV V i c 0 3 = V 0 3 := rfl
    have hit := iterV_congr q _ _ hv hw (by omega)
    rw [turnS, turnS, carV_congr hit (iterV_wf q _ hw (by omega)) (by rw [iterV_03]; omega), turnS_congr h hV hq k (c + 1) (by omega) (by push_cast at h2; omega)]
theorem RelN.oR {M : Am_M} {n mt : Nat} (h : RelN M n mt) : ∀ k, k < mt → am_R (M.1 0 6 k) := fun k hk => by
  have h5 := h.1.2.1.2.2
  have := (h.2.1.2.2.2.1 k hk).2
  exact ⟨by omega, by omega⟩
theorem RelN.perm6 {M : Am_M} {n mt : Nat} (h : RelN M n mt) : permO (M.1 0 6) mt := h.2.1.2.2.2.2.1
theorem P_turn {Γ : Am_G} {M : Am_M} {x y : Int} (h : Rel M) (hx : am_R x) (hy : am_R y) : Pair Γ 24 n_R_turn n_M_turn [.inl x, .inl y] M := by
  obtain ⟨n, mt, hR⟩ := h
  have b1 := hR.1.1
  have b2 := hR.1.2.1
  obtain ⟨pu, hp, hp2, hpm⟩ := hR.p
  have ref : ∀ (v : Int) (M1 : Am_M), am_same fF M M1 → v = (if (0 ≤ x ∧ x < n) ∧ (0 ≤ y ∧ y < mt) then (if posO (M.1 0 6) y mt < pu then -4 else turnS (cV M 0) n x.toNat (posO (M.1 0 6) y mt - pu) 9 1) else -2) → Ans Γ 24 n_M_turn [.inl x, .inl y] (some (.inl v)) M1 := fun v M1 hs hv => by
    have hR1 := hR.ff hs
    have e6 : M1.1 0 6 = M.1 0 6 := by funext k; exact hs.2 0 6 k (by unfold fF vS; omega)
    refine ⟨_, rfl, ?_⟩
    have e7 : M1.1 0 47 0 = pu := by rw [hR1.p7, hs.2 0 0 7 (by unfold fF vS; omega)]; exact hp
    refine am_mono (c_M_turn (d := 18) hx hy hR1.wM e7 hpm hR1.perm) (fun r M2 hr => ⟨?_, n, mt, hR1.rf2 hr.2⟩)
    rw [hr.1, hv, hR1.pos, e6]
    by_cases q : (0 ≤ x ∧ x < n) ∧ (0 ≤ y ∧ y < mt)
    · rw [if_pos q, if_pos q]
      have hQ := posO_lt (hR.perm6 y.toNat (by omega))
      rw [show ((y.toNat : Nat) : Int) = y by omega] at hQ
      by_cases q2 : posO (M.1 0 6) y mt < pu
      · rw [if_pos q2, if_pos q2]
      · rw [if_neg q2, if_neg q2, ← cV_ff hs, turnS_congr hR1.vq (veq_wf hR1.vq.symm hR1.V) (show M1.1 0 47 0 + _ < _ by omega) 9 1 (by omega) (by omega)]
    · rw [if_neg q, if_neg q]
  refine am_ev_of (by decide) (am_le rfl) (am_go 60 [] (by decide) ?_)
  refine am_by (c_isPerson (d := 10) x hx ⟨by omega, by omega⟩) (by omega) ?_
  rintro r M0 ⟨rfl, rfl⟩
  rw [b1.1]
  by_cases qx : 0 ≤ x ∧ x < n
  rotate_left
  · rw [if_neg qx]
    refine And.intro ⟨(by first | omega | (dsimp only [am_own]; omega)), (by first | omega | (dsimp only [am_own]; omega))⟩ (And.intro (fun _ => ?_) (fun h => absurd rfl h))
    exact ref _ _ am_same.rf (by rw [if_neg (fun z => qx z.1)])
  rw [if_pos qx]
  refine And.intro ⟨(by first | omega | (dsimp only [am_own]; omega)), (by first | omega | (dsimp only [am_own]; omega))⟩ (And.intro (fun h => absurd h (by decide)) (fun _ => ?_))
  refine am_by (c_isMatter (d := 10) y hy ⟨by omega, by omega⟩) (by omega) ?_
  rintro r M1 ⟨rfl, rfl⟩
  rw [b2.1]
  by_cases qy : 0 ≤ y ∧ y < mt
  rotate_left
  · rw [if_neg qy]
    refine And.intro ⟨(by first | omega | (dsimp only [am_own]; omega)), (by first | omega | (dsimp only [am_own]; omega))⟩ (And.intro (fun _ => ?_) (fun h => absurd rfl h))
    exact ref _ _ am_same.rf (by rw [if_neg (fun z => qy z.2)])
  rw [if_pos qy]
  refine And.intro ⟨(by first | omega | (dsimp only [am_own]; omega)), (by first | omega | (dsimp only [am_own]; omega))⟩ (And.intro (fun h => absurd h (by decide)) (fun _ => ?_))
  refine am_by (c_wasPut (d := 10) (e := 0) hp (by omega) hy (fun k hk => hR.oR k (by omega))) (by omega) ?_
  rintro r M2 ⟨rfl, rfl⟩
  rw [hasI_pos hpm]
  rw [if_pos ⟨qx, qy⟩] at ref
  have hQ := posO_lt (hR.perm6 y.toNat (by omega))
  rw [show ((y.toNat : Nat) : Int) = y by omega] at hQ
  obtain ⟨-, hQf, hQx⟩ := posO_spec (M2.1 0 6) y mt
  have hQx := hQx hQ
  by_cases qQ : posO (M2.1 0 6) y mt < pu
  · rw [if_pos qQ]
    refine And.intro ⟨(by first | omega | (dsimp only [am_own]; omega)), (by first | omega | (dsimp only [am_own]; omega))⟩ (And.intro (fun h => absurd h (by decide)) (fun _ => ?_))
    exact ref _ _ am_same.rf (by rw [if_pos qQ])
  rw [if_neg qQ]
  refine And.intro ⟨(by first | omega | (dsimp only [am_own]; omega)), (by first | omega | (dsimp only [am_own]; omega))⟩ (And.intro (fun _ => ?_) (fun h => absurd rfl h))
  rw [if_neg qQ] at ref
  generalize posO (M2.1 0 6) y mt = Q at *
  obtain ⟨i, rfl⟩ : ∃ i : Nat, x = i := ⟨x.toNat, by omega⟩
  obtain ⟨m, rfl⟩ : ∃ m : Nat, y = m := ⟨y.toNat, by omega⟩
  refine am_by (c_turning (d := 10) (q := Q - pu) hR.V hR.H (by omega) hp (by omega) (by rw [show pu + (Q - pu) = Q by omega]; exact hQx) (fun k hk => hQf _ (by omega))) (by omega) ?_
  rintro r M3 ⟨rfl, hs⟩
  exact ref _ _ hs rfl
theorem iterV_5 (n m : Nat) : ∀ (k : Nat) (V : Vw), iterV n k V 5 m = V 5 m
  | 0, _ => rfl
  | k + 1, V => iterV_5 n m k (voteV V n)
theorem P_bought {Γ : Am_G} {M : Am_M} {y : Int} (h : Rel M) (hy : am_R y) : Pair Γ 24 n_R_bought n_M_bought [.inl y] M := by
  obtain ⟨n, mt, hR⟩ := h
  have b2 := hR.1.2.1
  obtain ⟨pu, hp, hp2, hpm⟩ := hR.p
  have ref : ∀ (v : Int) (M1 : Am_M), am_same fF M M1 → v = (if 0 ≤ y ∧ y < mt then (if posO (M.1 0 6) y mt < pu then -4 else boughtS (M.1 0 19 y.toNat) (vR (iterV n (posO (M.1 0 6) y mt - pu) (cV M 0)) n y.toNat).2.1 (vR (iterV n (posO (M.1 0 6) y mt - pu) (cV M 0)) n y.toNat).2.2.1 201 0) else -2) → Ans Γ 24 n_M_bought [.inl y] (some (.inl v)) M1 := fun v M1 hs hv => by
    have hR1 := hR.ff hs
    have e6 : M1.1 0 6 = M.1 0 6 := by funext k; exact hs.2 0 6 k (by unfold fF vS; omega)
    refine ⟨_, rfl, ?_⟩
    have e7 : M1.1 0 47 0 = pu := by rw [hR1.p7, hs.2 0 0 7 (by unfold fF vS; omega)]; exact hp
    refine am_mono (c_M_bought (d := 18) hy hR1.wM e7 hpm hR1.perm) (fun r M2 hr => ⟨?_, n, mt, hR1.rf2 hr.2⟩)
    rw [hr.1, hv, hR1.pos, e6]
    by_cases q : 0 ≤ y ∧ y < mt
    · rw [if_pos q, if_pos q]
      have hQ := posO_lt (hR.perm6 y.toNat (by omega))
      rw [show ((y.toNat : Nat) : Int) = y by omega] at hQ
      by_cases q2 : posO (M.1 0 6) y mt < pu
      · rw [if_pos q2, if_pos q2]
      · rw [if_neg q2, if_neg q2, ← cV_ff hs]
        have hm : y.toNat < mt := by omega
        have hit := iterV_congr (posO (M.1 0 6) y mt - pu) _ _ hR1.vq (veq_wf hR1.vq.symm hR1.V) (show M1.1 0 47 0 + _ ≤ _ by omega)
        rw [(vR_congr hit hm).1, ← (hR1.1.2.2.2.2.1 y.toNat hm).1, hs.2 0 19 _ (by unfold fF vS; omega)]
    · rw [if_neg q, if_neg q]
  refine am_ev_of (by decide) (am_le rfl) (am_go 60 [] (by decide) ?_)
  refine am_by (c_isMatter (d := 10) y hy ⟨by omega, by omega⟩) (by omega) ?_
  rintro r M1 ⟨rfl, rfl⟩
  rw [b2.1]
  by_cases qy : 0 ≤ y ∧ y < mt
  rotate_left
  · rw [if_neg qy]
    refine And.intro ⟨(by first | omega | (dsimp only [am_own]; omega)), (by first | omega | (dsimp only [am_own]; omega))⟩ (And.intro (fun _ => ?_) (fun h => absurd rfl h))
    exact ref _ _ am_same.rf (by rw [if_neg qy])
  rw [if_pos qy]
  refine And.intro ⟨(by first | omega | (dsimp only [am_own]; omega)), (by first | omega | (dsimp only [am_own]; omega))⟩ (And.intro (fun h => absurd h (by decide)) (fun _ => ?_))
  refine am_by (c_wasPut (d := 10) (e := 0) hp (by omega) hy (fun k hk => hR.oR k (by omega))) (by omega) ?_
  rintro r M2 ⟨rfl, rfl⟩
  rw [hasI_pos hpm]
  rw [if_pos qy] at ref
  have hQ := posO_lt (hR.perm6 y.toNat (by omega))
  rw [show ((y.toNat : Nat) : Int) = y by omega] at hQ
  obtain ⟨-, hQf, hQx⟩ := posO_spec (M2.1 0 6) y mt
  have hQx := hQx hQ
  by_cases qQ : posO (M2.1 0 6) y mt < pu
  · rw [if_pos qQ]
    refine And.intro ⟨(by first | omega | (dsimp only [am_own]; omega)), (by first | omega | (dsimp only [am_own]; omega))⟩ (And.intro (fun h => absurd h (by decide)) (fun _ => ?_))
    exact ref _ _ am_same.rf (by rw [if_pos qQ])
  rw [if_neg qQ]
  refine And.intro ⟨(by first | omega | (dsimp only [am_own]; omega)), (by first | omega | (dsimp only [am_own]; omega))⟩ (And.intro (fun _ => ?_) (fun h => absurd rfl h))
  rw [if_neg qQ] at ref
  generalize posO (M2.1 0 6) y mt = Q at *
  obtain ⟨m, rfl⟩ : ∃ m : Nat, y = m := ⟨y.toNat, by omega⟩
  refine am_by (c_bought (d := 10) (q := Q - pu) hR.V hR.H hp (by omega) (by rw [show pu + (Q - pu) = Q by omega]; exact hQx) (fun k hk => hQf _ (by omega))) (by omega) ?_
  rintro r M3 ⟨rfl, hs⟩
  exact ref _ _ hs rfl
