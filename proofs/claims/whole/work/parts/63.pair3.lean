/-! pairs: what is only read -/
theorem Ans.ro {Γ : Am_G} {M : Am_M} {nM : Nat} {as : List Am_V} {v w : Int} (hR : Rel M) (h : am_Ev Γ 24 nM (.inr (.inr (0, 41)) :: as) M (fun r M' => r = some (.inl w) ∧ M' = M)) (e : v = w) : Ans Γ 24 nM as (some (.inl v)) M := by
  subst e
  exact ⟨v, rfl, am_mono h (fun r M' hr => ⟨hr.1, by rw [hr.2]; exact hR⟩)⟩
theorem c_M_person {Γ : Am_G} {d : Nat} {M : Am_M} {n mt : Nat} {x w : Int} (hx : am_R x) (hw : am_R w) (hM : wfM M n mt) : am_Ev Γ (d + 3) n_M_person [.inr (.inr (0, 41)), .inl x, .inl w] M (fun r M' => r = some (.inl (if 0 ≤ x ∧ x < n then (if 0 ≤ w ∧ w ≤ 3 then M.1 0 42 (4 * x + w).toNat else if w = 4 then M.1 0 47 (6 + x).toNat else -3) else -2)) ∧ M' = M) := by
  obtain ⟨n1, n2, n3, n4⟩ := hM.1
  refine am_ev_of (by decide) (am_le rfl) (am_go 60 [] (by decide) ?_)
  refine am_by (c_M_isPerson (d := d) x hx (by omega)) (by omega) ?_
  rintro r M1 ⟨rfl, rfl⟩
  rw [n1]
  by_cases qx : 0 ≤ x ∧ x < n
  rotate_left
  · rw [if_neg qx, if_neg qx]
    refine And.intro ⟨(by first | omega | (dsimp only [am_own]; omega)), (by first | omega | (dsimp only [am_own]; omega))⟩ (And.intro (fun _ => ?_) (fun h => absurd rfl h))
    exact ⟨rfl, rfl⟩
  rw [if_pos qx, if_pos qx]
  refine And.intro ⟨(by first | omega | (dsimp only [am_own]; omega)), (by first | omega | (dsimp only [am_own]; omega))⟩ (And.intro (fun h => absurd h (by decide)) (fun _ => ?_))
  refine am_by (c_M_in (d := d) w 0 3 hw ⟨(by first | omega | (dsimp only [am_own]; omega)), (by first | omega | (dsimp only [am_own]; omega))⟩ ⟨(by first | omega | (dsimp only [am_own]; omega)), (by first | omega | (dsimp only [am_own]; omega))⟩) (by omega) ?_
  rintro r M2 ⟨rfl, rfl⟩
  by_cases qw : 0 ≤ w ∧ w ≤ 3
  · rw [if_pos qw, if_pos qw]
    refine And.intro ⟨(by first | omega | (dsimp only [am_own]; omega)), (by first | omega | (dsimp only [am_own]; omega))⟩ (And.intro (fun h => absurd h (by decide)) (fun _ => ?_))
    exact And.intro ⟨(by first | omega | (dsimp only [am_own]; omega)), (by first | omega | (dsimp only [am_own]; omega))⟩ ⟨rfl, rfl⟩
  rw [if_neg qw, if_neg qw]
  refine And.intro ⟨(by first | omega | (dsimp only [am_own]; omega)), (by first | omega | (dsimp only [am_own]; omega))⟩ (And.intro (fun _ => ?_) (fun h => absurd rfl h))
  refine And.intro ⟨hw, ⟨(by first | omega | (dsimp only [am_own]; omega)), (by first | omega | (dsimp only [am_own]; omega))⟩⟩ (And.intro (fun h => ?_) (fun h => ?_))
  · rw [if_pos h]
    exact And.intro ⟨(by first | omega | (dsimp only [am_own]; omega)), (by first | omega | (dsimp only [am_own]; omega))⟩ ⟨rfl, rfl⟩
  · rw [if_neg h]
    exact ⟨rfl, rfl⟩
theorem P_person {Γ : Am_G} {M : Am_M} {x w : Int} (h : Rel M) (hx : am_R x) (hw : am_R w) : Pair Γ 24 n_R_person n_M_person [.inl x, .inl w] M := by
  obtain ⟨n, mt, hR⟩ := id h
  have b1 := hR.1.1
  have ref := fun (v : Int) e => Ans.ro (v := v) h (c_M_person (Γ := Γ) (d := 21) hx hw hR.wM) e
  refine am_ev_of (by decide) (am_le rfl) (am_go 60 [] (by decide) ?_)
  refine am_by (c_isPerson (d := 10) x hx ⟨by omega, by omega⟩) (by omega) ?_
  rintro r M0 ⟨rfl, rfl⟩
  rw [b1.1]
  by_cases qx : 0 ≤ x ∧ x < n
  rotate_left
  · rw [if_neg qx]
    refine And.intro ⟨(by first | omega | (dsimp only [am_own]; omega)), (by first | omega | (dsimp only [am_own]; omega))⟩ (And.intro (fun _ => ?_) (fun h => absurd rfl h))
    exact ref _ (by rw [if_neg qx])
  rw [if_pos qx]
  rw [if_pos qx] at ref
  refine And.intro ⟨(by first | omega | (dsimp only [am_own]; omega)), (by first | omega | (dsimp only [am_own]; omega))⟩ (And.intro (fun h => absurd h (by decide)) (fun _ => ?_))
  obtain ⟨i, rfl⟩ : ∃ i : Nat, x = i := ⟨x.toNat, by omega⟩
  obtain ⟨⟨p1, p2, p3, p4⟩, -⟩ := hR.1.2.2.2.1 i (by omega)
  have p5 := (hR.2.1.2.2.2.2.2.1 i (by omega)).1
  refine And.intro ⟨hw, rfl⟩ (And.intro (fun hz => ?_) (And.intro (fun hz => ?_) (And.intro (fun hz => ?_) (And.intro (fun hz => ?_) (And.intro (fun hz => ?_) (And.intro (fun hz => ?_) trivial))))))
  · exact ref _ (by rw [if_neg (by omega), if_neg (by omega)])
  · have hz : w = 0 := hz
    exact And.intro ⟨(by first | omega | (dsimp only [am_own]; omega)), (by first | omega | (dsimp only [am_own]; omega))⟩ (ref _ (by rw [if_pos (by omega), hz, show (4 * (i : Int) + 0).toNat = i * 4 by omega]; exact p1))
  · have hz : w = 1 := hz
    exact And.intro ⟨(by first | omega | (dsimp only [am_own]; omega)), (by first | omega | (dsimp only [am_own]; omega))⟩ (ref _ (by rw [if_pos (by omega), hz, show (4 * (i : Int) + 1).toNat = i * 4 + 1 by omega]; exact p2))
  · have hz : w = 2 := hz
    exact And.intro ⟨(by first | omega | (dsimp only [am_own]; omega)), (by first | omega | (dsimp only [am_own]; omega))⟩ (ref _ (by rw [if_pos (by omega), hz, show (4 * (i : Int) + 2).toNat = i * 4 + 2 by omega]; exact p3))
  · have hz : w = 3 := hz
    exact And.intro ⟨(by first | omega | (dsimp only [am_own]; omega)), (by first | omega | (dsimp only [am_own]; omega))⟩ (ref _ (by rw [if_pos (by omega), hz, show (4 * (i : Int) + 3).toNat = i * 4 + 3 by omega]; exact p4))
  · have hz : w = 4 := hz
    exact And.intro ⟨(by first | omega | (dsimp only [am_own]; omega)), (by first | omega | (dsimp only [am_own]; omega))⟩ (ref _ (by rw [if_neg (by omega), if_pos hz, show (6 + (i : Int)).toNat = 6 + i by omega]; exact p5))
theorem c_M_worth {Γ : Am_G} {d : Nat} {M : Am_M} {n mt : Nat} {x y : Int} (hx : am_R x) (hy : am_R y) (hM : wfM M n mt) : am_Ev Γ (d + 3) n_M_worth [.inr (.inr (0, 41)), .inl x, .inl y] M (fun r M' => r = some (.inl (if (0 ≤ x ∧ x < n) ∧ (0 ≤ y ∧ y < mt) then M.1 0 44 (5 * x + y).toNat + 100 else -2)) ∧ M' = M) := by
  obtain ⟨n1, n2, n3, n4⟩ := hM.1
  refine am_ev_of (by decide) (am_le rfl) (am_go 60 [] (by decide) ?_)
  refine am_by (c_M_isPerson (d := d) x hx (by omega)) (by omega) ?_
  rintro r M1 ⟨rfl, rfl⟩
  rw [n1]
  by_cases qx : 0 ≤ x ∧ x < n
  rotate_left
  · rw [if_neg qx, if_neg (fun z => qx z.1)]
    refine And.intro ⟨(by first | omega | (dsimp only [am_own]; omega)), (by first | omega | (dsimp only [am_own]; omega))⟩ (And.intro (fun _ => ?_) (fun h => absurd rfl h))
    exact ⟨rfl, rfl⟩
  rw [if_pos qx]
  refine And.intro ⟨(by first | omega | (dsimp only [am_own]; omega)), (by first | omega | (dsimp only [am_own]; omega))⟩ (And.intro (fun h => absurd h (by decide)) (fun _ => ?_))
  refine am_by (c_M_isMatter (d := d) y hy (by omega)) (by omega) ?_
  rintro r M2 ⟨rfl, rfl⟩
  rw [n3]
  by_cases qy : 0 ≤ y ∧ y < mt
  rotate_left
  · rw [if_neg qy, if_neg (fun z => qy z.2)]
    refine And.intro ⟨(by first | omega | (dsimp only [am_own]; omega)), (by first | omega | (dsimp only [am_own]; omega))⟩ (And.intro (fun _ => ?_) (fun h => absurd rfl h))
    exact ⟨rfl, rfl⟩
  rw [if_pos qy, if_pos ⟨qx, qy⟩]
  refine And.intro ⟨(by first | omega | (dsimp only [am_own]; omega)), (by first | omega | (dsimp only [am_own]; omega))⟩ (And.intro (fun h => absurd h (by decide)) (fun _ => ?_))
  exact And.intro ⟨(by first | omega | (dsimp only [am_own]; omega)), (by first | omega | (dsimp only [am_own]; omega))⟩ ⟨rfl, rfl⟩
theorem P_worth {Γ : Am_G} {M : Am_M} {x y : Int} (h : Rel M) (hx : am_R x) (hy : am_R y) : Pair Γ 24 n_R_worth n_M_worth [.inl x, .inl y] M := by
  obtain ⟨n, mt, hR⟩ := id h
  have b1 := hR.1.1
  have b2 := hR.1.2.1
  have ref := fun (v : Int) e => Ans.ro (v := v) h (c_M_worth (Γ := Γ) (d := 21) hx hy hR.wM) e
  refine am_ev_of (by decide) (am_le rfl) (am_go 60 [] (by decide) ?_)
  refine am_by (c_isPerson (d := 10) x hx ⟨by omega, by omega⟩) (by omega) ?_
  rintro r M0 ⟨rfl, rfl⟩
  rw [b1.1]
  by_cases qx : 0 ≤ x ∧ x < n
  rotate_left
  · rw [if_neg qx]
    refine And.intro ⟨(by first | omega | (dsimp only [am_own]; omega)), (by first | omega | (dsimp only [am_own]; omega))⟩ (And.intro (fun _ => ?_) (fun h => absurd rfl h))
    exact ref _ (by rw [if_neg (fun z => qx z.1)])
  rw [if_pos qx]
  refine And.intro ⟨(by first | omega | (dsimp only [am_own]; omega)), (by first | omega | (dsimp only [am_own]; omega))⟩ (And.intro (fun h => absurd h (by decide)) (fun _ => ?_))
  refine am_by (c_isMatter (d := 10) y hy ⟨by omega, by omega⟩) (by omega) ?_
  rintro r M1 ⟨rfl, rfl⟩
  rw [b2.1]
  by_cases qy : 0 ≤ y ∧ y < mt
  rotate_left
  · rw [if_neg qy]
    refine And.intro ⟨(by first | omega | (dsimp only [am_own]; omega)), (by first | omega | (dsimp only [am_own]; omega))⟩ (And.intro (fun _ => ?_) (fun h => absurd rfl h))
    exact ref _ (by rw [if_neg (fun z => qy z.2)])
  rw [if_pos qy]
  refine And.intro ⟨(by first | omega | (dsimp only [am_own]; omega)), (by first | omega | (dsimp only [am_own]; omega))⟩ (And.intro (fun h => absurd h (by decide)) (fun _ => ?_))
  rw [if_pos ⟨qx, qy⟩] at ref
  obtain ⟨i, rfl⟩ : ∃ i : Nat, x = i := ⟨x.toNat, by omega⟩
  obtain ⟨m, rfl⟩ : ∃ m : Nat, y = m := ⟨y.toNat, by omega⟩
  refine am_by (c_worthTo (d := 10) (i : Int) (m : Int) (by omega)) (by omega) ?_
  rintro r M2 ⟨rfl, rfl⟩
  exact ref _ (by rw [show ((i : Int) * 5 + (m : Int)).toNat = i * 5 + m by omega, show (5 * (i : Int) + (m : Int)).toNat = i * 5 + m by omega, hR.1.2.2.2.2.2.1 i m (by omega) (by omega)])
theorem c_M_order {Γ : Am_G} {d : Nat} {M : Am_M} {n mt : Nat} {x : Int} (hx : am_R x) (hM : wfM M n mt) : am_Ev Γ (d + 1) n_M_order [.inr (.inr (0, 41)), .inl x] M (fun r M' => r = some (.inl (if x < 0 then -3 else if x < mt then M.1 0 47 (1 + x).toNat else -1)) ∧ M' = M) := by
  obtain ⟨n1, n2, n3, n4⟩ := hM.1
  refine am_ev_of (by decide) (am_le rfl) (am_go 60 [] (by decide) ?_)
  refine And.intro hx (And.intro (fun h => ?_) (fun h => ?_))
  · rw [if_pos h]; exact ⟨rfl, rfl⟩
  · rw [if_neg h]
    refine And.intro ⟨hx, (show am_R (M.1 0 41 2) from ⟨(by first | omega | (dsimp only [am_own]; omega)), (by first | omega | (dsimp only [am_own]; omega))⟩)⟩ (And.intro (fun h2 => ?_) (fun h2 => ?_))
    · have h2 : x < M.1 0 41 2 := h2
      rw [if_pos (by omega)]
      exact And.intro ⟨(by first | omega | (dsimp only [am_own]; omega)), (by first | omega | (dsimp only [am_own]; omega))⟩ ⟨rfl, rfl⟩
    · have h2 : ¬ x < M.1 0 41 2 := h2
      rw [if_neg (by omega)]
      exact ⟨rfl, rfl⟩
theorem P_order {Γ : Am_G} {M : Am_M} {x : Int} (h : Rel M) (hx : am_R x) : Pair Γ 24 n_R_order n_M_order [.inl x] M := by
  obtain ⟨n, mt, hR⟩ := id h
  have a1 := hR.2.1.1
  have b2 := hR.1.2.1
  have ref := fun (v : Int) e => Ans.ro (v := v) h (c_M_order (Γ := Γ) (d := 23) hx hR.wM) e
  refine am_ev_of (by decide) (am_le rfl) (am_go 60 [] (by decide) ?_)
  refine And.intro hx (And.intro (fun h => ?_) (fun h => ?_))
  · exact ref _ (by rw [if_pos h])
  · rw [if_neg h] at ref
    refine And.intro ⟨hx, (show am_R (M.1 0 0 6) from ⟨by omega, by omega⟩)⟩ (And.intro (fun h2 => ?_) (fun h2 => ?_))
    · have h2 : x < M.1 0 0 6 := h2
      obtain ⟨i, rfl⟩ : ∃ i : Nat, x = i := ⟨x.toNat, by omega⟩
      exact And.intro ⟨(by first | omega | (dsimp only [am_own]; omega)), (by first | omega | (dsimp only [am_own]; omega))⟩ (ref _ (by rw [if_pos (by omega), show (1 + (i : Int)).toNat = 1 + i by omega]; exact (hR.2.1.2.2.2.1 i (by omega)).1))
    · have h2 : ¬ x < M.1 0 0 6 := h2
      exact ref _ (by rw [if_neg (by omega)])
theorem c_M_count {Γ : Am_G} {d : Nat} {M : Am_M} {x : Int} (hx : am_R x) : am_Ev Γ (d + 1) n_M_count [.inr (.inr (0, 41)), .inl x] M (fun r M' => r = some (.inl (if x = 0 then M.1 0 41 0 else if x = 1 then M.1 0 41 2 else if x = 2 then M.1 0 41 5 else if x = 3 then M.1 0 47 0 else if x = 4 then M.1 0 41 22 else if x = 5 then M.1 0 41 6 else -3)) ∧ M' = M) := by
  refine am_ev_of (by decide) (am_le rfl) (am_go 60 [] (by decide) ?_)
  refine And.intro ⟨hx, rfl⟩ (And.intro (fun hz => ?_) (And.intro (fun hz => ?_) (And.intro (fun hz => ?_) (And.intro (fun hz => ?_) (And.intro (fun hz => ?_) (And.intro (fun hz => ?_) (And.intro (fun hz => ?_) trivial)))))))
  · rw [if_neg (by omega), if_neg (by omega), if_neg (by omega), if_neg (by omega), if_neg (by omega), if_neg (by omega)]; exact ⟨rfl, rfl⟩
  · have hz : x = 0 := hz
    rw [if_pos hz]; exact ⟨rfl, rfl⟩
  · have hz : x = 1 := hz
    rw [if_neg (by omega), if_pos hz]; exact ⟨rfl, rfl⟩
  · have hz : x = 2 := hz
    rw [if_neg (by omega), if_neg (by omega), if_pos hz]; exact ⟨rfl, rfl⟩
  · have hz : x = 3 := hz
    rw [if_neg (by omega), if_neg (by omega), if_neg (by omega), if_pos hz]; exact And.intro ⟨(by first | omega | (dsimp only [am_own]; omega)), (by first | omega | (dsimp only [am_own]; omega))⟩ ⟨rfl, rfl⟩
  · have hz : x = 4 := hz
    rw [if_neg (by omega), if_neg (by omega), if_neg (by omega), if_neg (by omega), if_pos hz]; exact ⟨rfl, rfl⟩
  · have hz : x = 5 := hz
    rw [if_neg (by omega), if_neg (by omega), if_neg (by omega), if_neg (by omega), if_neg (by omega), if_pos hz]; exact ⟨rfl, rfl⟩
theorem P_count {Γ : Am_G} {M : Am_M} {x : Int} (h : Rel M) (hx : am_R x) : Pair Γ 24 n_R_count n_M_count [.inl x] M := by
  obtain ⟨n, mt, hR⟩ := id h
  have ref := fun (v : Int) e => Ans.ro (v := v) h (c_M_count (Γ := Γ) (d := 23) hx) e
  refine am_ev_of (by decide) (am_le rfl) (am_go 60 [] (by decide) ?_)
  refine And.intro ⟨hx, rfl⟩ (And.intro (fun hz => ?_) (And.intro (fun hz => ?_) (And.intro (fun hz => ?_) (And.intro (fun hz => ?_) (And.intro (fun hz => ?_) (And.intro (fun hz => ?_) (And.intro (fun hz => ?_) trivial)))))))
  · exact ref _ (by rw [if_neg (by omega), if_neg (by omega), if_neg (by omega), if_neg (by omega), if_neg (by omega), if_neg (by omega)])
  · have hz : x = 0 := hz
    exact ref _ (by rw [if_pos hz]; exact hR.1.1.1.trans hR.1.1.2.1.symm)
  · have hz : x = 1 := hz
    exact ref _ (by rw [if_neg (by omega), if_pos hz]; exact hR.1.2.1.1.trans hR.1.2.1.2.1.symm)
  · have hz : x = 2 := hz
    exact ref _ (by rw [if_neg (by omega), if_neg (by omega), if_pos hz]; exact hR.1.2.2.1.1)
  · have hz : x = 3 := hz
    exact ref _ (by rw [if_neg (by omega), if_neg (by omega), if_neg (by omega), if_pos hz]; exact hR.p7.symm)
  · have hz : x = 4 := hz
    exact ref _ (by rw [if_neg (by omega), if_neg (by omega), if_neg (by omega), if_neg (by omega), if_pos hz]; exact hR.2.2.2.1.1.1)
  · have hz : x = 5 := hz
    exact ref _ (by rw [if_neg (by omega), if_neg (by omega), if_neg (by omega), if_neg (by omega), if_neg (by omega), if_pos hz]; exact hR.2.2.2.2.1.1.1)
