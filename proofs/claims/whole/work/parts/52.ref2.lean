/-! the reference: people and matters there, places, all that come -/
theorem c_M_isPerson {Γ : Am_G} {d : Nat} {M : Am_M} (x : Int) (h1 : am_R x) (h2 : 0 ≤ M.1 0 41 0 ∧ M.1 0 41 0 ≤ 9) : am_Ev Γ (d + 2) n_M_isPerson [.inr (.inr (0, 41)), .inl x] M (fun r M' => r = some (.inl (if 0 ≤ x ∧ x < M.1 0 41 0 then 1 else 0)) ∧ M' = M) := by
  refine am_ev_of (by decide) (am_le rfl) (am_go 20 [] (by decide) ?_)
  refine am_by (c_M_in (d := d) x 0 (M.1 0 41 0 - 1) h1 ⟨(by first | omega | (dsimp only [am_own]; omega)), (by first | omega | (dsimp only [am_own]; omega))⟩ ⟨(by first | omega | (dsimp only [am_own]; omega)), (by first | omega | (dsimp only [am_own]; omega))⟩) (by omega) ?_
  rintro r M1 ⟨rfl, rfl⟩
  by_cases q : 0 ≤ x ∧ x < M1.1 0 41 0
  · rw [if_pos q, if_pos (by omega)]
    exact ⟨Or.inr rfl, rfl, rfl⟩
  · rw [if_neg q, if_neg (by omega)]
    exact ⟨Or.inl rfl, rfl, rfl⟩
theorem c_M_isMatter {Γ : Am_G} {d : Nat} {M : Am_M} (x : Int) (h1 : am_R x) (h2 : 0 ≤ M.1 0 41 2 ∧ M.1 0 41 2 ≤ 9) : am_Ev Γ (d + 2) n_M_isMatter [.inr (.inr (0, 41)), .inl x] M (fun r M' => r = some (.inl (if 0 ≤ x ∧ x < M.1 0 41 2 then 1 else 0)) ∧ M' = M) := by
  refine am_ev_of (by decide) (am_le rfl) (am_go 20 [] (by decide) ?_)
  refine am_by (c_M_in (d := d) x 0 (M.1 0 41 2 - 1) h1 ⟨(by first | omega | (dsimp only [am_own]; omega)), (by first | omega | (dsimp only [am_own]; omega))⟩ ⟨(by first | omega | (dsimp only [am_own]; omega)), (by first | omega | (dsimp only [am_own]; omega))⟩) (by omega) ?_
  rintro r M1 ⟨rfl, rfl⟩
  by_cases q : 0 ≤ x ∧ x < M1.1 0 41 2
  · rw [if_pos q, if_pos (by omega)]
    exact ⟨Or.inr rfl, rfl, rfl⟩
  · rw [if_neg q, if_neg (by omega)]
    exact ⟨Or.inl rfl, rfl, rfl⟩
theorem c_M_placeOf {Γ : Am_G} {d : Nat} {M : Am_M} {q : Nat} {x : Int} (hq : q < 5) (hx : M.1 0 47 (1 + q) = x) (hfirst : ∀ k, k < q → M.1 0 47 (1 + k) ≠ x) (ho : ∀ k, k ≤ q → am_R (M.1 0 47 (1 + k))) : am_Ev Γ (d + 1) n_M_placeOf [.inr (.inr (0, 41)), .inl x] M (fun r M' => r = some (.inl (q : Int)) ∧ M' = M) := by
  have hxR : am_R x := hx ▸ ho q (Nat.le_refl q)
  have loop : ∀ (k i : Nat), i + k = q → am_At Γ (d + 1) n_M_placeOf 2 [some (.inr (.inr (0, 41))), some (.inl x), some (.inl (i : Int))] [] M (fun r M' => r = some (.inl (q : Int)) ∧ M' = M) := by
    intro k
    induction k with
    | zero =>
      intro i hi
      have : i = q := by omega
      subst this
      have e : M.1 0 47 (1 + (i : Int)).toNat = x := by rw [show (1 + (i : Int)).toNat = 1 + i by omega]; exact hx
      refine am_go 60 [2] (by decide) ?_
      refine And.intro ⟨(by first | omega | (dsimp only [am_own]; omega)), (by first | omega | (dsimp only [am_own]; omega))⟩ ?_
      refine And.intro ⟨am_Re e hxR, hxR⟩ (And.intro (fun h => ⟨rfl, rfl⟩) (fun h => absurd e h))
    | succ k ih =>
      intro i hi
      have e : M.1 0 47 (1 + (i : Int)).toNat = M.1 0 47 (1 + i) := congrArg _ (by omega)
      refine am_go 60 [2] (by decide) ?_
      refine And.intro ⟨(by first | omega | (dsimp only [am_own]; omega)), (by first | omega | (dsimp only [am_own]; omega))⟩ ?_
      refine And.intro ⟨am_Re e (ho i (by omega)), hxR⟩ (And.intro (fun h => absurd (e.symm.trans h) (hfirst i (by omega))) (fun h => ih (i + 1) (by omega)))
  refine am_ev_of (by decide) (am_le rfl) (am_go 60 [2] (by decide) ?_)
  exact loop q 0 (by omega)
theorem c_M_wasPut {Γ : Am_G} {d : Nat} {M : Am_M} {q : Nat} {x : Int} (hq : q < 5) (hx : M.1 0 47 (1 + q) = x) (hfirst : ∀ k, k < q → M.1 0 47 (1 + k) ≠ x) (ho : ∀ k, k ≤ q → am_R (M.1 0 47 (1 + k))) (hp : am_R (M.1 0 47 0)) : am_Ev Γ (d + 2) n_M_wasPut [.inr (.inr (0, 41)), .inl x] M (fun r M' => r = some (.inl (if (q : Int) < M.1 0 47 0 then 1 else 0)) ∧ M' = M) := by
  refine am_ev_of (by decide) (am_le rfl) (am_go 60 [] (by decide) ?_)
  refine am_by (c_M_placeOf (d := d) hq hx hfirst ho) (by omega) ?_
  rintro r M1 ⟨rfl, rfl⟩
  refine And.intro ⟨(by first | omega | (dsimp only [am_own]; omega)), (by first | omega | (dsimp only [am_own]; omega))⟩ ?_
  refine And.intro ⟨⟨(by first | omega | (dsimp only [am_own]; omega)), (by first | omega | (dsimp only [am_own]; omega))⟩, hp⟩ (And.intro (fun h => ?_) (fun h => ?_))
  · have h : (q : Int) < M1.1 0 47 0 := h
    rw [if_pos h]
    exact ⟨Or.inr rfl, rfl, rfl⟩
  · have h : ¬ (q : Int) < M1.1 0 47 0 := h
    rw [if_neg h]
    exact ⟨Or.inl rfl, rfl, rfl⟩
theorem wfM_ps {M M' : Am_M} {n mt : Nat} (h : wfM M n mt) (hp : psame M M') (hv : wfV (rV M') n mt) : wfM M' n mt := by
  obtain ⟨⟨n1, n2, n3, n4⟩, n5, n6, n7, n8, n9, n10, n11⟩ := h
  have f := hp.2.2
  have g : ∀ p k, 42 ≤ p → p ≤ 44 → M'.1 0 p k = M.1 0 p k := fun p k a b => hp.2.1 0 p k (by omega) (by omega) (by omega)
  obtain ⟨-, -, v3, v4, v5⟩ := hv
  refine ⟨⟨by rw [f 0 (by omega) (by omega) (by omega)]; exact n1, n2, by rw [f 2 (by omega) (by omega) (by omega)]; exact n3, n4⟩, by rw [f 5 (by omega) (by omega) (by omega)]; exact n5, fun i hi => ?_, fun m hm => ?_, fun i m hi hm => ?_, fun k hk => (v4 k hk).2, by rw [f 30 (by omega) (by omega) (by omega)]; exact n10, by rw [f 31 (by omega) (by omega) (by omega)]; exact n11⟩
  · rw [g 42 _ (by omega) (by omega), g 42 _ (by omega) (by omega), g 42 _ (by omega) (by omega), g 42 _ (by omega) (by omega)]
    obtain ⟨a, b, c, d, e⟩ := n6 i hi
    exact ⟨a, b, c, d, (v3 i hi).2.2.2.2⟩
  · rw [g 43 _ (by omega) (by omega)]; exact n7 m hm
  · rw [g 44 _ (by omega) (by omega)]; exact ⟨(n8 i m hi hm).1, (v5 i m hi hm).2⟩
theorem pn_ps {M M2 : Am_M} {m n : Nat} {R : (Nat → Int) × Int × Int × Int × Int} {v : Int} (h : pnI M m n n R M2) : psame M (am_set M2 0 47 0 v) := h.1.setN
theorem c_M_putAll {Γ : Am_G} {d : Nat} {M : Am_M} {n mt : Nat} (hM : wfM M n mt) (hp : 0 ≤ M.1 0 47 0 ∧ M.1 0 47 0 ≤ mt) : am_Ev Γ (d + 5) n_M_putAll [.inr (.inr (0, 41))] M (fun r M' => r = some (.inl (carL n (mt - (M.1 0 47 0).toNat) 0 (rV M))) ∧ psame M M') := by
  have loop : ∀ (k i : Nat) (acc : Int) (z : Option Am_V) (V : Vw) (M1 : Am_M), i + k = mt → V 0 3 = i → wfV V n mt → veq n mt (rV M1) V → wfM M1 n mt → psame M M1 → am_At Γ (d + 5) n_M_putAll 2 [some (.inr (.inr (0, 41))), some (.inl acc), z] [] M1 (fun r M' => r = some (.inl (carL n k acc V)) ∧ psame M M') := by
    intro k
    induction k with
    | zero =>
      intro i acc z V M1 hi h3 hW hv hM1 hs
      have hm2 : M1.1 0 41 2 = mt := hM1.1.2.2.1
      have hp7 : M1.1 0 47 0 = i := (hv.1 3 (by omega)).trans h3
      have h5 := hM1.1.2.2.2
      refine am_go 60 [2] (by decide) ?_
      refine And.intro ⟨(by first | omega | (dsimp only [am_own]; omega)), (by first | omega | (dsimp only [am_own]; omega))⟩ ?_
      refine And.intro ⟨(show am_R (M1.1 0 47 0) from ⟨(by first | omega | (dsimp only [am_own]; omega)), (by first | omega | (dsimp only [am_own]; omega))⟩), (show am_R (M1.1 0 41 2) from ⟨(by first | omega | (dsimp only [am_own]; omega)), (by first | omega | (dsimp only [am_own]; omega))⟩)⟩ (And.intro (fun h => ?_) (fun h => ⟨rfl, hs⟩))
      exfalso
      have h : M1.1 0 47 0 < M1.1 0 41 2 := h
      omega
    | succ k ih =>
      intro i acc z V M1 hi h3 hW hv hM1 hs
      have hm2 : M1.1 0 41 2 = mt := hM1.1.2.2.1
      have hp7 : M1.1 0 47 0 = i := (hv.1 3 (by omega)).trans h3
      have h5 := hM1.1.2.2.2
      have e1 : (1 + M1.1 0 47 0).toNat = 1 + i := by omega
      have hW1 : wfV (rV M1) n mt := veq_wf hv.symm hW
      refine am_go 60 [2] (by decide) ?_
      refine And.intro ⟨(by first | omega | (dsimp only [am_own]; omega)), (by first | omega | (dsimp only [am_own]; omega))⟩ ?_
      refine And.intro ⟨(show am_R (M1.1 0 47 0) from ⟨(by first | omega | (dsimp only [am_own]; omega)), (by first | omega | (dsimp only [am_own]; omega))⟩), (show am_R (M1.1 0 41 2) from ⟨(by first | omega | (dsimp only [am_own]; omega)), (by first | omega | (dsimp only [am_own]; omega))⟩)⟩ (And.intro (fun h => ?_) (fun h => ?_))
      · refine And.intro ⟨(by first | omega | (dsimp only [am_own]; omega)), (by first | omega | (dsimp only [am_own]; omega))⟩ ?_
        refine And.intro (show 0 ≤ 1 + M1.1 0 47 0 ∧ 1 + M1.1 0 47 0 < 92 from ⟨(by first | omega | (dsimp only [am_own]; omega)), (by first | omega | (dsimp only [am_own]; omega))⟩) ?_
        refine am_by (c_putNextV (d := d) hM1 (by omega) (by omega)) (by omega) ?_
        rintro r M2 ⟨rfl, ⟨M3, hI, rfl⟩, hv2⟩
        have ho : M1.1 0 47 (1 + M1.1 0 47 0).toNat = V 7 i := by rw [e1]; exact (hv.2.2.1 i (by omega)).2
        have hc : carV (rV M1) n = carV V n := carV_congr hv hW1 (show M1.1 0 47 0 < mt by omega)
        have hps : psame M1 (am_set M3 0 47 0 (M1.1 0 47 0 + 1)) := pn_ps hI
        have hV2 : wfV (voteV (rV M1) n) n mt := voteV_wf hW1 (show M1.1 0 47 0 < mt by omega)
        have go := fun (a : Int) (z : Option Am_V) => ih (i + 1) a z (voteV V n) (am_set M3 0 47 0 (M1.1 0 47 0 + 1)) (by omega) (by rw [voteV_03, h3]; rfl) (voteV_wf hW (by omega)) (hv2.tr (voteV_congr hv hW1 (show M1.1 0 47 0 < mt by omega))) (wfM_ps hM1 hps (veq_wf hv2.symm hV2)) (hs.tr hps)
        rw [carL, h3, show ((i : Int)).toNat = i from rfl, ← ho, ← hc]
        have c01 := carV_01 (rV M1) n
        refine And.intro ⟨(by first | omega | (dsimp only [am_own]; omega)), (by first | omega | (dsimp only [am_own]; omega))⟩ (And.intro (fun h4 => ?_) (fun h4 => ?_))
        · have h4 : carV (rV M1) n = 0 := h4
          rw [h4, am_shl_0]
          exact go _ _
        · have h4 : ¬ carV (rV M1) n = 0 := h4
          rw [show carV (rV M1) n = 1 by omega]
          exact go _ _
      · exfalso
        have h : ¬ M1.1 0 47 0 < M1.1 0 41 2 := h
        omega
  obtain ⟨pu, hpu⟩ : ∃ pu : Nat, M.1 0 47 0 = pu := ⟨(M.1 0 47 0).toNat, by omega⟩
  refine am_ev_of (by decide) (am_le rfl) (am_go 60 [2] (by decide) ?_)
  have go := loop (mt - pu) pu 0 none (rV M) M (by omega) hpu (rV_wf hM hp) veq.rf hM psame.rf
  rw [show (M.1 0 47 0).toNat = pu by omega]
  exact go
theorem cpO48_rs {M M1 : Am_M} (h : cpO M 47 0 48 0 M1) : rsame M M1 := ⟨fun k _ _ _ => h.1.2 0 41 k (by omega), fun p k a b => h.1.2 0 p k (by omega), fun k _ => h.1.2 0 47 k (by omega)⟩
theorem c_M_carries {Γ : Am_G} {d : Nat} {M : Am_M} {n mt : Nat} (hM : wfM M n mt) (hp : 0 ≤ M.1 0 47 0 ∧ M.1 0 47 0 ≤ mt) : am_Ev Γ (d + 6) n_M_carries [.inr (.inr (0, 41))] M (fun r M' => r = some (.inl (carL n (mt - (M.1 0 47 0).toNat) 0 (rV M))) ∧ rF M M') := by
  refine am_ev_of (by decide) (am_le rfl) (am_go 60 [] (by decide) ?_)
  refine am_by (c_M_putAside (d := d + 3)) (by omega) ?_
  rintro r M1 ⟨rfl, hA⟩
  have hrs := cpO48_rs hA
  have hM1 := hM.rs hrs
  have e0 : M1.1 0 47 0 = M.1 0 47 0 := hrs.2.2 0 (by omega)
  refine am_by (c_M_putAll (d := d) hM1 (by omega)) (by omega) ?_
  rintro r M2 ⟨rfl, hP⟩
  refine am_by (c_M_putBack (d := d + 3)) (by omega) ?_
  rintro r M3 ⟨rfl, hB⟩
  refine ⟨?_, rF_of hA hP.g (fun k _ => hP.2.1 0 48 k (by omega) (by omega) (by omega)) hB⟩
  rw [e0]
  have hv := rV.rs (n := n) (mt := mt) hrs hM.1.2.1 hM.1.2.2.2
  exact congrArg (fun z => some (Sum.inl z)) (carL_congr _ _ _ _ hv (veq_wf hv.symm (rV_wf hM hp)) (show M1.1 0 47 0 + _ ≤ _ by omega))
