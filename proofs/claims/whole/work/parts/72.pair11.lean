/-! pairs: as -/
theorem c_M_as {Γ : Am_G} {d : Nat} {M : Am_M} {n mt : Nat} {x c y : Int} (hx : am_R x) (hc : am_R c) (hy : am_R y) (hM : wfM M n mt) : am_Ev Γ (d + 3) n_M_as [.inr (.inr (0, 41)), .inl x, .inl c, .inl y] M (fun r M' => r = some (.inl (if (0 ≤ x ∧ x < n) ∧ (0 ≤ y ∧ y < mt) then (if 0 ≤ c ∧ c ≤ 4 then (if isK (M.1 0 42 (x.toNat * 4)).toNat c = 1 then mwant M y.toNat x.toNat else -4) else -3) else -2)) ∧ M' = M) := by
  obtain ⟨⟨n1, n2, n3, n4⟩, n5, n6, n7, n8, n9, n10, n11⟩ := id hM
  refine am_ev_of (by decide) (am_le rfl) (am_go 60 [41] (by decide) ?_)
  refine am_by (c_M_isPerson (d := d) x hx (by omega)) (by omega) ?_
  rintro r M1 ⟨rfl, rfl⟩
  rw [n1]
  by_cases qx : 0 ≤ x ∧ x < n
  rotate_left
  · rw [if_neg qx, if_neg (fun z => qx z.1)]
    refine And.intro ⟨(by first | omega | (dsimp only [am_own]; omega)), (by first | omega | (dsimp only [am_own]; omega))⟩ (And.intro (fun _ => ?_) (fun h => absurd rfl h))
    exact ⟨rfl, rfl⟩
  rw [if_pos qx]
  refine And.intro ⟨(by first | omega | (dsimp only [am_own]; omega)), (by first | omega | (dsimp only [am_own]; omega))⟩ (And.intro (fun h => absurd h (by decide)) (fun _ => ?_))
  refine am_by (c_M_isMatter (d := d) y hy (by omega)) (by omega) ?_
  rintro r M2 ⟨rfl, rfl⟩
  rw [n3]
  by_cases qy : 0 ≤ y ∧ y < mt
  rotate_left
  · rw [if_neg qy, if_neg (fun z => qy z.2)]
    refine And.intro ⟨(by first | omega | (dsimp only [am_own]; omega)), (by first | omega | (dsimp only [am_own]; omega))⟩ (And.intro (fun _ => ?_) (fun h => absurd rfl h))
    exact ⟨rfl, rfl⟩
  rw [if_pos qy, if_pos ⟨qx, qy⟩]
  refine And.intro ⟨(by first | omega | (dsimp only [am_own]; omega)), (by first | omega | (dsimp only [am_own]; omega))⟩ (And.intro (fun h => absurd h (by decide)) (fun _ => ?_))
  refine am_by (c_M_in (d := d) c 0 4 hc ⟨(by first | omega | (dsimp only [am_own]; omega)), (by first | omega | (dsimp only [am_own]; omega))⟩ ⟨(by first | omega | (dsimp only [am_own]; omega)), (by first | omega | (dsimp only [am_own]; omega))⟩) (by omega) ?_
  rintro r M3 ⟨rfl, rfl⟩
  by_cases qc : 0 ≤ c ∧ c ≤ 4
  rotate_left
  · rw [if_neg qc, if_neg qc]
    refine And.intro ⟨(by first | omega | (dsimp only [am_own]; omega)), (by first | omega | (dsimp only [am_own]; omega))⟩ (And.intro (fun _ => ?_) (fun h => absurd rfl h))
    exact ⟨rfl, rfl⟩
  rw [if_pos qc, if_pos qc]
  refine And.intro ⟨(by first | omega | (dsimp only [am_own]; omega)), (by first | omega | (dsimp only [am_own]; omega))⟩ (And.intro (fun h => absurd h (by decide)) (fun _ => ?_))
  obtain ⟨i, rfl⟩ : ∃ i : Nat, x = i := ⟨x.toNat, by omega⟩
  obtain ⟨m, rfl⟩ : ∃ m : Nat, y = m := ⟨y.toNat, by omega⟩
  refine And.intro ⟨(by first | omega | (dsimp only [am_own]; omega)), (by first | omega | (dsimp only [am_own]; omega))⟩ ?_
  obtain ⟨k, hk⟩ : ∃ k : Nat, M3.1 0 42 (i * 4) = k := ⟨(M3.1 0 42 (i * 4)).toNat, by have := (n6 i (by omega)).1; omega⟩
  have hk3 : k ≤ 3 := by have := (n6 i (by omega)).1; omega
  have ek : M3.1 0 42 (4 * (i : Int)).toNat = k := by rw [show (4 * (i : Int)).toNat = i * 4 by omega]; exact hk
  have want : am_At Γ (d + 3) n_M_as 105 [some (.inr (.inr (0, 41))), some (.inl (i : Int)), some (.inl c), some (.inl (m : Int)), some (.inl (k : Int)), some (.inl 1)] [] M3 (fun r M' => r = some (.inl (mwant M3 m i)) ∧ M' = M3) := by
    refine am_go 60 [] (by decide) ?_
    refine am_by (c_M_wantOf (d := d) (m : Int) hM (by omega) (by omega) rfl) (by omega) ?_
    rintro r M4 ⟨rfl, rfl⟩
    exact ⟨rfl, rfl⟩
  have st41 : am_At Γ (d + 3) n_M_as 41 [some (.inr (.inr (0, 41))), some (.inl (i : Int)), some (.inl c), some (.inl (m : Int)), some (.inl (k : Int)), none] [] M3 (fun r M' => r = some (.inl (if isK k c = 1 then mwant M3 m i else -4)) ∧ M' = M3) := by
    have yes : ∀ {z : Option Am_V}, isK k c = 1 → am_At Γ (d + 3) n_M_as 93 [some (.inr (.inr (0, 41))), some (.inl (i : Int)), some (.inl c), some (.inl (m : Int)), some (.inl (k : Int)), z] [] M3 (fun r M' => r = some (.inl (if isK k c = 1 then mwant M3 m i else -4)) ∧ M' = M3) := fun {z} q => by
      rw [if_pos q]
      refine am_go 60 [105] (by decide) ?_
      refine And.intro ⟨(by first | omega | (dsimp only [am_own]; omega)), (by first | omega | (dsimp only [am_own]; omega))⟩ (And.intro (fun h => absurd h (by decide)) (fun _ => ?_))
      exact want
    have no : ∀ {z : Option Am_V}, isK k c = 0 → am_At Γ (d + 3) n_M_as 97 [some (.inr (.inr (0, 41))), some (.inl (i : Int)), some (.inl c), some (.inl (m : Int)), some (.inl (k : Int)), z] [] M3 (fun r M' => r = some (.inl (if isK k c = 1 then mwant M3 m i else -4)) ∧ M' = M3) := fun {z} q => by
      rw [if_neg (by omega)]
      refine am_go 60 [105] (by decide) ?_
      refine And.intro ⟨(by first | omega | (dsimp only [am_own]; omega)), (by first | omega | (dsimp only [am_own]; omega))⟩ (And.intro (fun _ => ?_) (fun h => absurd rfl h))
      exact ⟨rfl, rfl⟩
    refine am_go 60 [93, 97] (by decide) ?_
    refine And.intro ⟨(by first | omega | (dsimp only [am_own]; omega)), (by first | omega | (dsimp only [am_own]; omega))⟩ (And.intro (fun h0 => yes (by unfold isK; rw [if_pos h0])) (fun h0 => ?_))
    have h0 : ¬ c = 0 := h0
    refine And.intro ⟨⟨(by first | omega | (dsimp only [am_own]; omega)), (by first | omega | (dsimp only [am_own]; omega))⟩, ⟨(by first | omega | (dsimp only [am_own]; omega)), (by first | omega | (dsimp only [am_own]; omega))⟩⟩ (And.intro (fun h1 => ?_) (fun h1 => ?_))
    · have h1 : c = 1 := h1
      have e : isK k c = if k < 2 then 1 else 0 := by unfold isK; rw [if_neg h0, if_pos h1]
      refine And.intro ⟨⟨(by first | omega | (dsimp only [am_own]; omega)), (by first | omega | (dsimp only [am_own]; omega))⟩, ⟨(by first | omega | (dsimp only [am_own]; omega)), (by first | omega | (dsimp only [am_own]; omega))⟩⟩ (And.intro (fun h2 => yes (by rw [e, if_pos (by omega)])) (fun h2 => no (by rw [e, if_neg (by omega)])))
    have h1 : ¬ c = 1 := h1
    refine And.intro ⟨⟨(by first | omega | (dsimp only [am_own]; omega)), (by first | omega | (dsimp only [am_own]; omega))⟩, ⟨(by first | omega | (dsimp only [am_own]; omega)), (by first | omega | (dsimp only [am_own]; omega))⟩⟩ (And.intro (fun h2 => ?_) (fun h2 => ?_))
    · have h2 : c = 2 := h2
      have e : isK k c = if k = 1 then 1 else 0 := by unfold isK; rw [if_neg h0, if_neg h1, if_pos h2]
      refine And.intro ⟨⟨(by first | omega | (dsimp only [am_own]; omega)), (by first | omega | (dsimp only [am_own]; omega))⟩, ⟨(by first | omega | (dsimp only [am_own]; omega)), (by first | omega | (dsimp only [am_own]; omega))⟩⟩ (And.intro (fun h3 => yes (by rw [e, if_pos (by omega)])) (fun h3 => no (by rw [e, if_neg (by omega)])))
    have h2 : ¬ c = 2 := h2
    refine And.intro ⟨⟨(by first | omega | (dsimp only [am_own]; omega)), (by first | omega | (dsimp only [am_own]; omega))⟩, ⟨(by first | omega | (dsimp only [am_own]; omega)), (by first | omega | (dsimp only [am_own]; omega))⟩⟩ (And.intro (fun h3 => ?_) (fun h3 => ?_))
    · have h3 : c = 3 := h3
      have e : isK k c = if k = 2 then 1 else 0 := by unfold isK; rw [if_neg h0, if_neg h1, if_neg h2, if_pos h3]
      refine And.intro ⟨⟨(by first | omega | (dsimp only [am_own]; omega)), (by first | omega | (dsimp only [am_own]; omega))⟩, ⟨(by first | omega | (dsimp only [am_own]; omega)), (by first | omega | (dsimp only [am_own]; omega))⟩⟩ (And.intro (fun h4 => yes (by rw [e, if_pos (by omega)])) (fun h4 => no (by rw [e, if_neg (by omega)])))
    have h3 : ¬ c = 3 := h3
    have e : isK k c = if k = 3 then 1 else 0 := by unfold isK; rw [if_neg h0, if_neg h1, if_neg h2, if_neg h3, if_pos (by omega)]
    refine And.intro ⟨⟨(by first | omega | (dsimp only [am_own]; omega)), (by first | omega | (dsimp only [am_own]; omega))⟩, ⟨(by first | omega | (dsimp only [am_own]; omega)), (by first | omega | (dsimp only [am_own]; omega))⟩⟩ (And.intro (fun h4 => yes (by rw [e, if_pos (by omega)])) (fun h4 => no (by rw [e, if_neg (by omega)])))
  rw [show (((i : Int)).toNat * 4) = i * 4 from rfl, hk, show ((k : Int)).toNat = k from rfl, show ((i : Int)).toNat = i from rfl, show ((m : Int)).toNat = m from rfl]
  rw [← ek] at st41
  exact st41
theorem P_as {Γ : Am_G} {M : Am_M} {x c y : Int} (h : Rel M) (hx : am_R x) (hc : am_R c) (hy : am_R y) : Pair Γ 24 n_R_as n_M_as [.inl x, .inl c, .inl y] M := by
  obtain ⟨n, mt, hR⟩ := id h
  have b1 := hR.1.1
  have b2 := hR.1.2.1
  have ref := fun (v : Int) e => Ans.ro (v := v) h (c_M_as (Γ := Γ) (d := 21) hx hc hy hR.wM) e
  refine am_ev_of (by decide) (am_le rfl) (am_go 60 [51] (by decide) ?_)
  refine am_by (c_isPerson (d := 10) x hx ⟨by omega, by omega⟩) (by omega) ?_
  rintro r M0 ⟨rfl, rfl⟩
  rw [b1.1]
  by_cases qx : 0 ≤ x ∧ x < n
  rotate_left
  · rw [if_neg qx]
    refine And.intro ⟨(by first | omega | (dsimp only [am_own]; omega)), (by first | omega | (dsimp only [am_own]; omega))⟩ (And.intro (fun _ => ?_) (fun h => absurd rfl h))
    exact ref _ (by rw [if_neg (fun z => qx z.1)])
  rw [if_pos qx]
  refine And.intro ⟨(by first | omega | (dsimp only [am_own]; omega)), (by first | omega | (dsimp only [am_own]; omega))⟩ (And.intro (fun h => absurd h (by decide)) (fun _ => ?_))
  refine am_by (c_isMatter (d := 10) y hy ⟨by omega, by omega⟩) (by omega) ?_
  rintro r M1 ⟨rfl, rfl⟩
  rw [b2.1]
  by_cases qy : 0 ≤ y ∧ y < mt
  rotate_left
  · rw [if_neg qy]
    refine And.intro ⟨(by first | omega | (dsimp only [am_own]; omega)), (by first | omega | (dsimp only [am_own]; omega))⟩ (And.intro (fun _ => ?_) (fun h => absurd rfl h))
    exact ref _ (by rw [if_neg (fun z => qy z.2)])
  rw [if_pos qy]
  refine And.intro ⟨(by first | omega | (dsimp only [am_own]; omega)), (by first | omega | (dsimp only [am_own]; omega))⟩ (And.intro (fun h => absurd h (by decide)) (fun _ => ?_))
  rw [if_pos ⟨qx, qy⟩] at ref
  refine And.intro hc (And.intro (fun h => ref _ (by rw [if_neg (by omega)])) (fun h0 => ?_))
  refine And.intro ⟨hc, ⟨(by first | omega | (dsimp only [am_own]; omega)), (by first | omega | (dsimp only [am_own]; omega))⟩⟩ (And.intro (fun h => ref _ (by rw [if_neg (by omega)])) (fun h1 => ?_))
  rw [if_pos (by omega)] at ref
  obtain ⟨i, rfl⟩ : ∃ i : Nat, x = i := ⟨x.toNat, by omega⟩
  obtain ⟨m, rfl⟩ : ∃ m : Nat, y = m := ⟨y.toNat, by omega⟩
  obtain ⟨⟨p1, -⟩, p2, -⟩ := hR.1.2.2.2.1 i (by omega)
  obtain ⟨k, hk⟩ : ∃ k : Nat, M1.1 9 2 i = k := ⟨(M1.1 9 2 i).toNat, by omega⟩
  rw [show ((i : Int)).toNat * 4 = i * 4 from rfl, ← p1, hk, show ((k : Int)).toNat = k from rfl, show ((i : Int)).toNat = i from rfl, show ((m : Int)).toNat = m from rfl] at ref
  refine And.intro ⟨(by first | omega | (dsimp only [am_own]; omega)), (by first | omega | (dsimp only [am_own]; omega))⟩ ?_
  have hv := c_voterOf (Γ := Γ) (d := 10) (M := M1) (k := k) (by omega)
  rw [← hk] at hv
  refine am_by hv (by omega) ?_
  rintro r M2 ⟨rfl, rfl⟩
  refine am_as (d := 22) (by omega) hc (am_le rfl) ?_
  refine am_go 60 [] (by decide) ?_
  have i01 : isK k c = 0 ∨ isK k c = 1 := by
    unfold isK
    split
    · exact Or.inr rfl
    all_goals (repeat' split) <;> first | exact Or.inl rfl | exact Or.inr rfl
  refine And.intro ⟨(by first | omega | (dsimp only [am_own]; omega)), (by first | omega | (dsimp only [am_own]; omega))⟩ (And.intro (fun h2 => ?_) (fun h2 => ?_))
  · have h2 : isK k c = 0 := h2
    exact ref _ (by rw [if_neg (by omega)])
  have h2 : ¬ isK k c = 0 := h2
  rw [if_pos (by omega)] at ref
  refine am_by (c_wantedN (d := 10) (e := 0) (i := i) (m := m) (y := (m : Int)) (wfE_of hR.V) hR.H (by omega) (by omega) rfl) (by omega) ?_
  rintro r M3 ⟨rfl, rfl⟩
  refine ref _ ?_
  have hq := hR.vq
  have e1 : wV (rV M3) m i = wV (cV M3 0) m i := by
    unfold wV
    rw [hq.1 2 (by omega), (hq.2.2.2 i m (by omega) (by omega)).1, (hq.2.2.2 i m (by omega) (by omega)).2, (hq.2.1 i (by omega)).1, (hq.2.1 i (by omega)).2.2.2.2]
  exact e1.symm
