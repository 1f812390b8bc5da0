/-! pairs: result, held, arms, judge -/
theorem c_M_wasPutR {Γ : Am_G} {d : Nat} {M : Am_M} {n mt pu m : Nat} (hR : RelN M n mt) (hp : M.1 0 0 7 = pu) (hm : m < mt) : am_Ev Γ (d + 2) n_M_wasPut [.inr (.inr (0, 41)), .inl (m : Int)] M (fun r M' => r = some (.inl (if posO (M.1 0 6) m mt < pu then 1 else 0)) ∧ M' = M) := by
  have hQ := posO_lt (hR.perm m hm)
  obtain ⟨-, hQf, hQx⟩ := posO_spec (oM M) (m : Int) mt
  have b2 := hR.1.2.1
  have h7 := hR.p7
  have hpm := hR.pr
  have n9 := hR.wM.2.2.2.2.2.1
  refine am_mono (c_M_wasPut (d := d) (q := posO (oM M) (m : Int) mt) (by omega) (hQx hQ) hQf (fun k hk => by have := n9 k (by omega); exact ⟨by omega, by omega⟩) ⟨by omega, by omega⟩) (fun r M' hr => ⟨?_, hr.2⟩)
  rw [hr.1, hR.pos, h7, hp]
  by_cases q : posO (M.1 0 6) m mt < pu
  · rw [if_pos q, if_pos (by omega)]
  · rw [if_neg q, if_neg (by omega)]
theorem c_wasPutR {Γ : Am_G} {d : Nat} {M : Am_M} {n mt pu m : Nat} (hR : RelN M n mt) (hp : M.1 0 0 7 = pu) (hm : m < mt) : am_Ev Γ (d + 1) n_Evening_wasPut [.inr (.inr (0, 0)), .inl (m : Int)] M (fun r M' => r = some (.inl (if posO (M.1 0 6) m mt < pu then 1 else 0)) ∧ M' = M) := by
  have b2 := hR.1.2.1
  have h7 := hR.p7
  have hpm := hR.pr
  refine am_mono (c_wasPut (d := d) (e := 0) hp (by omega) ⟨by omega, by omega⟩ (fun k hk => hR.oR k (by omega))) (fun r M' hr => ⟨?_, hr.2⟩)
  rw [hr.1, hasI_pos (show pu ≤ mt by omega)]
theorem RelN.put {M : Am_M} {n mt pu m : Nat} (hR : RelN M n mt) (hp : M.1 0 0 7 = pu) (hm : m < mt) (h : posO (M.1 0 6) m mt < pu) : (∀ w, w < 4 → M.1 0 10 (m * 4 + w) = M.1 0 47 (42 + (m * 4 + w))) ∧ (∀ i, i < n → M.1 0 9 (i * 5 + m) = M.1 0 47 (62 + (i * 5 + m))) := by
  obtain ⟨-, hQf, hQx⟩ := posO_spec (M.1 0 6) (m : Int) mt
  exact hR.2.1.2.2.2.2.2.2.2 (posO (M.1 0 6) m mt) m (by omega) (hQx (posO_lt (hR.perm6 m hm)))
theorem c_M_result {Γ : Am_G} {d : Nat} {M : Am_M} {n mt pu : Nat} {x w : Int} (hx : am_R x) (hw : am_R w) (hR : RelN M n mt) (hp : M.1 0 0 7 = pu) : am_Ev Γ (d + 3) n_M_result [.inr (.inr (0, 41)), .inl x, .inl w] M (fun r M' => r = some (.inl (if 0 ≤ x ∧ x < mt then (if 0 ≤ w ∧ w ≤ 3 then (if posO (M.1 0 6) x mt < pu then M.1 0 47 (42 + 4 * x + w).toNat else -4) else -3) else -2)) ∧ M' = M) := by
  obtain ⟨n1, n2, n3, n4⟩ := hR.wM.1
  refine am_ev_of (by decide) (am_le rfl) (am_go 60 [] (by decide) ?_)
  refine am_by (c_M_isMatter (d := d) x hx (by omega)) (by omega) ?_
  rintro r M1 ⟨rfl, rfl⟩
  rw [n3]
  by_cases qx : 0 ≤ x ∧ x < mt
  rotate_left
  · rw [if_neg qx, if_neg qx]
    refine And.intro ⟨(by first | omega | (dsimp only [am_own]; omega)), (by first | omega | (dsimp only [am_own]; omega))⟩ (And.intro (fun _ => ?_) (fun h => absurd rfl h))
    exact ⟨rfl, rfl⟩
  rw [if_pos qx, if_pos qx]
  refine And.intro ⟨(by first | omega | (dsimp only [am_own]; omega)), (by first | omega | (dsimp only [am_own]; omega))⟩ (And.intro (fun h => absurd h (by decide)) (fun _ => ?_))
  refine am_by (c_M_in (d := d) w 0 3 hw ⟨(by first | omega | (dsimp only [am_own]; omega)), (by first | omega | (dsimp only [am_own]; omega))⟩ ⟨(by first | omega | (dsimp only [am_own]; omega)), (by first | omega | (dsimp only [am_own]; omega))⟩) (by omega) ?_
  rintro r M2 ⟨rfl, rfl⟩
  by_cases qw : 0 ≤ w ∧ w ≤ 3
  rotate_left
  · rw [if_neg qw, if_neg qw]
    refine And.intro ⟨(by first | omega | (dsimp only [am_own]; omega)), (by first | omega | (dsimp only [am_own]; omega))⟩ (And.intro (fun _ => ?_) (fun h => absurd rfl h))
    exact ⟨rfl, rfl⟩
  rw [if_pos qw, if_pos qw]
  refine And.intro ⟨(by first | omega | (dsimp only [am_own]; omega)), (by first | omega | (dsimp only [am_own]; omega))⟩ (And.intro (fun h => absurd h (by decide)) (fun _ => ?_))
  obtain ⟨m, rfl⟩ : ∃ m : Nat, x = m := ⟨x.toNat, by omega⟩
  refine am_by (c_M_wasPutR (d := d) hR hp (by omega)) (by omega) ?_
  rintro r M3 ⟨rfl, rfl⟩
  by_cases qQ : posO (M3.1 0 6) m mt < pu
  · rw [if_pos qQ, if_pos qQ]
    refine And.intro ⟨(by first | omega | (dsimp only [am_own]; omega)), (by first | omega | (dsimp only [am_own]; omega))⟩ (And.intro (fun h => absurd h (by decide)) (fun _ => ?_))
    exact And.intro ⟨(by first | omega | (dsimp only [am_own]; omega)), (by first | omega | (dsimp only [am_own]; omega))⟩ ⟨rfl, rfl⟩
  · rw [if_neg qQ, if_neg qQ]
    refine And.intro ⟨(by first | omega | (dsimp only [am_own]; omega)), (by first | omega | (dsimp only [am_own]; omega))⟩ (And.intro (fun _ => ?_) (fun h => absurd rfl h))
    exact ⟨rfl, rfl⟩
theorem P_result {Γ : Am_G} {M : Am_M} {x w : Int} (h : Rel M) (hx : am_R x) (hw : am_R w) : Pair Γ 24 n_R_result n_M_result [.inl x, .inl w] M := by
  obtain ⟨n, mt, hR⟩ := id h
  have b2 := hR.1.2.1
  obtain ⟨pu, hp, hp2, hpm⟩ := hR.p
  have ref := fun (v : Int) e => Ans.ro (v := v) h (c_M_result (Γ := Γ) (d := 21) hx hw hR hp) e
  refine am_ev_of (by decide) (am_le rfl) (am_go 60 [] (by decide) ?_)
  refine am_by (c_isMatter (d := 10) x hx ⟨by omega, by omega⟩) (by omega) ?_
  rintro r M1 ⟨rfl, rfl⟩
  rw [b2.1]
  by_cases qx : 0 ≤ x ∧ x < mt
  rotate_left
  · rw [if_neg qx]
    refine And.intro ⟨(by first | omega | (dsimp only [am_own]; omega)), (by first | omega | (dsimp only [am_own]; omega))⟩ (And.intro (fun _ => ?_) (fun h => absurd rfl h))
    exact ref _ (by rw [if_neg qx])
  rw [if_pos qx]
  rw [if_pos qx] at ref
  refine And.intro ⟨(by first | omega | (dsimp only [am_own]; omega)), (by first | omega | (dsimp only [am_own]; omega))⟩ (And.intro (fun h => absurd h (by decide)) (fun _ => ?_))
  refine And.intro hw (And.intro (fun h => ref _ (by rw [if_neg (by omega)])) (fun h => ?_))
  refine And.intro ⟨hw, ⟨(by first | omega | (dsimp only [am_own]; omega)), (by first | omega | (dsimp only [am_own]; omega))⟩⟩ (And.intro (fun h2 => ?_) (fun h2 => ref _ (by rw [if_neg (by omega)])))
  rw [if_pos (by omega)] at ref
  obtain ⟨m, rfl⟩ : ∃ m : Nat, x = m := ⟨x.toNat, by omega⟩
  refine am_by (c_wasPutR (d := 10) hR hp (by omega)) (by omega) ?_
  rintro r M3 ⟨rfl, rfl⟩
  by_cases qQ : posO (M3.1 0 6) m mt < pu
  · rw [if_pos qQ]
    rw [if_pos qQ] at ref
    refine And.intro ⟨(by first | omega | (dsimp only [am_own]; omega)), (by first | omega | (dsimp only [am_own]; omega))⟩ (And.intro (fun h => absurd h (by decide)) (fun _ => ?_))
    refine am_by (c_resultOf (d := 10) 0 (m : Int) w (by omega)) (by omega) ?_
    rintro r M4 ⟨rfl, rfl⟩
    obtain ⟨w', rfl⟩ : ∃ w' : Nat, w = w' := ⟨w.toNat, by omega⟩
    exact ref _ (by rw [show ((m : Int) * 4 + (w' : Int)).toNat = m * 4 + w' by omega, show (42 + 4 * (m : Int) + (w' : Int)).toNat = 42 + (m * 4 + w') by omega]; exact (hR.put hp (by omega) qQ).1 w' (by omega))
  · rw [if_neg qQ]
    rw [if_neg qQ] at ref
    refine And.intro ⟨(by first | omega | (dsimp only [am_own]; omega)), (by first | omega | (dsimp only [am_own]; omega))⟩ (And.intro (fun _ => ?_) (fun h => absurd rfl h))
    exact ref _ rfl
theorem c_M_held {Γ : Am_G} {d : Nat} {M : Am_M} {n mt pu : Nat} {x y : Int} (hx : am_R x) (hy : am_R y) (hR : RelN M n mt) (hp : M.1 0 0 7 = pu) : am_Ev Γ (d + 3) n_M_held [.inr (.inr (0, 41)), .inl x, .inl y] M (fun r M' => r = some (.inl (if (0 ≤ x ∧ x < n) ∧ (0 ≤ y ∧ y < mt) then (if posO (M.1 0 6) y mt < pu then M.1 0 47 (62 + 5 * x + y).toNat else -4) else -2)) ∧ M' = M) := by
  obtain ⟨n1, n2, n3, n4⟩ := hR.wM.1
  refine am_ev_of (by decide) (am_le rfl) (am_go 60 [] (by decide) ?_)
  refine am_by (c_M_isPerson (d := d) x hx (by omega)) (by omega) ?_
  rintro r M1 ⟨rfl, rfl⟩
  rw [n1]
  by_cases qx : 0 ≤ x ∧ x < n
  rotate_left
  · rw [if_neg qx, if_neg (fun z => qx z.1)]
    refine And.intro ⟨(by first | omega | (dsimp only [am_own]; omega)), (by first | omega | (dsimp only [am_own]; omega))⟩ (And.intro (fun _ => ?_) (fun h => absurd rfl h))
    exact ⟨rfl, rfl⟩
  rw [if_pos qx]
  refine And.intro ⟨(by first | omega | (dsimp only [am_own]; omega)), (by first | omega | (dsimp only [am_own]; omega))⟩ (And.intro (fun h => absurd h (by decide)) (fun _ => ?_))
  refine am_by (c_M_isMatter (d := d) y hy (by omega)) (by omega) ?_
  rintro r M2 ⟨rfl, rfl⟩
  rw [n3]
  by_cases qy : 0 ≤ y ∧ y < mt
  rotate_left
  · rw [if_neg qy, if_neg (fun z => qy z.2)]
    refine And.intro ⟨(by first | omega | (dsimp only [am_own]; omega)), (by first | omega | (dsimp only [am_own]; omega))⟩ (And.intro (fun _ => ?_) (fun h => absurd rfl h))
    exact ⟨rfl, rfl⟩
  rw [if_pos qy, if_pos ⟨qx, qy⟩]
  refine And.intro ⟨(by first | omega | (dsimp only [am_own]; omega)), (by first | omega | (dsimp only [am_own]; omega))⟩ (And.intro (fun h => absurd h (by decide)) (fun _ => ?_))
  obtain ⟨m, rfl⟩ : ∃ m : Nat, y = m := ⟨y.toNat, by omega⟩
  refine am_by (c_M_wasPutR (d := d) hR hp (by omega)) (by omega) ?_
  rintro r M3 ⟨rfl, rfl⟩
  by_cases qQ : posO (M3.1 0 6) m mt < pu
  · rw [if_pos qQ, if_pos qQ]
    refine And.intro ⟨(by first | omega | (dsimp only [am_own]; omega)), (by first | omega | (dsimp only [am_own]; omega))⟩ (And.intro (fun h => absurd h (by decide)) (fun _ => ?_))
    exact And.intro ⟨(by first | omega | (dsimp only [am_own]; omega)), (by first | omega | (dsimp only [am_own]; omega))⟩ ⟨rfl, rfl⟩
  · rw [if_neg qQ, if_neg qQ]
    refine And.intro ⟨(by first | omega | (dsimp only [am_own]; omega)), (by first | omega | (dsimp only [am_own]; omega))⟩ (And.intro (fun _ => ?_) (fun h => absurd rfl h))
    exact ⟨rfl, rfl⟩
theorem P_held {Γ : Am_G} {M : Am_M} {x y : Int} (h : Rel M) (hx : am_R x) (hy : am_R y) : Pair Γ 24 n_R_held n_M_held [.inl x, .inl y] M := by
  obtain ⟨n, mt, hR⟩ := id h
  have b1 := hR.1.1
  have b2 := hR.1.2.1
  obtain ⟨pu, hp, hp2, hpm⟩ := hR.p
  have ref := fun (v : Int) e => Ans.ro (v := v) h (c_M_held (Γ := Γ) (d := 21) hx hy hR hp) e
  refine am_ev_of (by decide) (am_le rfl) (am_go 60 [] (by decide) ?_)
  refine am_by (c_isPerson (d := 10) x hx ⟨by omega, by omega⟩) (by omega) ?_
  rintro r M0 ⟨rfl, rfl⟩
  rw [b1.1]
  by_cases qx : 0 ≤ x ∧ x < n
  rotate_left
  · rw [if_neg qx]
    refine And.intro ⟨(by first | omega | (dsimp only [am_own]; omega)), (by first | omega | (dsimp only [am_own]; omega))⟩ (And.intro (fun _ => ?_) (fun h => absurd rfl h))
    exact ref _ (by rw [if_neg (fun z => qx z.1)])
  rw [if_pos qx]
  refine And.intro ⟨(by first | omega | (dsimp only [am_own]; omega)), (by first | omega | (dsimp only [am_own]; omega))⟩ (And.intro (fun h => absurd h (by decide)) (fun _ => ?_))
  refine am_by (c_isMatter (d := 10) y hy ⟨by omega, by omega⟩) (by omega) ?_
  rintro r M1 ⟨rfl, rfl⟩
  rw [b2.1]
  by_cases qy : 0 ≤ y ∧ y < mt
  rotate_left
  · rw [if_neg qy]
    refine And.intro ⟨(by first | omega | (dsimp only [am_own]; omega)), (by first | omega | (dsimp only [am_own]; omega))⟩ (And.intro (fun _ => ?_) (fun h => absurd rfl h))
    exact ref _ (by rw [if_neg (fun z => qy z.2)])
  rw [if_pos qy]
  refine And.intro ⟨(by first | omega | (dsimp only [am_own]; omega)), (by first | omega | (dsimp only [am_own]; omega))⟩ (And.intro (fun h => absurd h (by decide)) (fun _ => ?_))
  rw [if_pos ⟨qx, qy⟩] at ref
  obtain ⟨i, rfl⟩ : ∃ i : Nat, x = i := ⟨x.toNat, by omega⟩
  obtain ⟨m, rfl⟩ : ∃ m : Nat, y = m := ⟨y.toNat, by omega⟩
  refine am_by (c_wasPutR (d := 10) hR hp (by omega)) (by omega) ?_
  rintro r M3 ⟨rfl, rfl⟩
  by_cases qQ : posO (M3.1 0 6) m mt < pu
  · rw [if_pos qQ]
    rw [if_pos qQ] at ref
    refine And.intro ⟨(by first | omega | (dsimp only [am_own]; omega)), (by first | omega | (dsimp only [am_own]; omega))⟩ (And.intro (fun h => absurd h (by decide)) (fun _ => ?_))
    refine am_by (c_place (d := 10) (i : Int) (m : Int)) (by omega) ?_
    rintro r M4 ⟨rfl, rfl⟩
    refine And.intro ⟨(by first | omega | (dsimp only [am_own]; omega)), (by first | omega | (dsimp only [am_own]; omega))⟩ ?_
    exact ref _ (by rw [show (62 + 5 * (i : Int) + (m : Int)).toNat = 62 + (i * 5 + m) by omega]; exact (congrArg (M4.1 0 9) (show ((i : Int) * 5 + (m : Int)).toNat = i * 5 + m by omega)).trans ((hR.put hp (by omega) qQ).2 i (by omega)))
  · rw [if_neg qQ]
    rw [if_neg qQ] at ref
    refine And.intro ⟨(by first | omega | (dsimp only [am_own]; omega)), (by first | omega | (dsimp only [am_own]; omega))⟩ (And.intro (fun _ => ?_) (fun h => absurd rfl h))
    exact ref _ rfl
/-- the worths by which one holds s seconds -/
def armsL (hold left s : Int) : Nat → Nat → Int → Int
  | 0, _, acc => acc
  | k + 1, v, acc => armsL hold left s k (v + 1) (if (if hold * v < left then hold * v else left) = s then am_or acc (am_shl 1 v) else acc)
theorem am_or_0 {x : Int} (h : am_R x) : am_or x 0 = x := by
  unfold am_or
  rw [am_ofInt0, Int32.or_zero, am_toInt h]
theorem c_M_arms {Γ : Am_G} {d : Nat} {M : Am_M} {n mt : Nat} {x s : Int} (hx : am_R x) (hs : am_R s) (hM : wfM M n mt) : am_Ev Γ (d + 3) n_M_arms [.inr (.inr (0, 41)), .inl x, .inl s] M (fun r M' => r = some (.inl (if 0 ≤ x ∧ x < n then (if 0 ≤ s ∧ s ≤ 30 then armsL (M.1 0 41 5) (M.1 0 47 (6 + x).toNat) s 10 0 0 else -3) else -2)) ∧ M' = M) := by
  obtain ⟨⟨n1, n2, n3, n4⟩, n5, n6, n7, n8, n9, n10, n11⟩ := id hM
  refine am_ev_of (by decide) (am_le rfl) (am_go 60 [29] (by decide) ?_)
  refine am_by (c_M_isPerson (d := d) x hx (by omega)) (by omega) ?_
  rintro r M1 ⟨rfl, rfl⟩
  rw [n1]
  by_cases qx : 0 ≤ x ∧ x < n
  rotate_left
  · rw [if_neg qx, if_neg qx]
    refine And.intro ⟨(by first | omega | (dsimp only [am_own]; omega)), (by first | omega | (dsimp only [am_own]; omega))⟩ (And.intro (fun _ => ?_) (fun h => absurd rfl h))
    exact ⟨rfl, rfl⟩
  rw [if_pos qx, if_pos qx]
  refine And.intro ⟨(by first | omega | (dsimp only [am_own]; omega)), (by first | omega | (dsimp only [am_own]; omega))⟩ (And.intro (fun h => absurd h (by decide)) (fun _ => ?_))
  refine am_by (c_M_in (d := d) s 0 30 hs ⟨(by first | omega | (dsimp only [am_own]; omega)), (by first | omega | (dsimp only [am_own]; omega))⟩ ⟨(by first | omega | (dsimp only [am_own]; omega)), (by first | omega | (dsimp only [am_own]; omega))⟩) (by omega) ?_
  rintro r M2 ⟨rfl, rfl⟩
  by_cases qw : 0 ≤ s ∧ s ≤ 30
  rotate_left
  · rw [if_neg qw, if_neg qw]
    refine And.intro ⟨(by first | omega | (dsimp only [am_own]; omega)), (by first | omega | (dsimp only [am_own]; omega))⟩ (And.intro (fun _ => ?_) (fun h => absurd rfl h))
    exact ⟨rfl, rfl⟩
  rw [if_pos qw, if_pos qw]
  refine And.intro ⟨(by first | omega | (dsimp only [am_own]; omega)), (by first | omega | (dsimp only [am_own]; omega))⟩ (And.intro (fun h => absurd h (by decide)) (fun _ => ?_))
  have hl : 0 ≤ M2.1 0 47 (6 + x).toNat ∧ M2.1 0 47 (6 + x).toNat ≤ 99 := by
    have := (n6 x.toNat (by omega)).2.2.2.2
    rw [show (6 + x).toNat = 6 + x.toNat by omega]
    exact this
  have loop : ∀ (k v : Nat) (acc : Int), v + k = 10 → am_R acc → am_At Γ (d + 3) n_M_arms 29 [some (.inr (.inr (0, 41))), some (.inl x), some (.inl s), some (.inl acc), some (.inl (v : Int))] [] M2 (fun r M' => r = some (.inl (armsL (M2.1 0 41 5) (M2.1 0 47 (6 + x).toNat) s k v acc)) ∧ M' = M2) := by
    intro k
    induction k with
    | zero =>
      intro v acc hv ha
      refine am_go 60 [29] (by decide) ?_
      refine And.intro ⟨⟨(by first | omega | (dsimp only [am_own]; omega)), (by first | omega | (dsimp only [am_own]; omega))⟩, ⟨(by first | omega | (dsimp only [am_own]; omega)), (by first | omega | (dsimp only [am_own]; omega))⟩⟩ (And.intro (fun h => ?_) (fun h => ⟨rfl, rfl⟩))
      exfalso; omega
    | succ k ih =>
      intro v acc hv ha
      have hb := mul_b (a := M2.1 0 41 5) (b := (v : Int)) (A := 9) (B := 10) (by omega) (by omega)
      refine am_go 60 [29] (by decide) ?_
      refine And.intro ⟨⟨(by first | omega | (dsimp only [am_own]; omega)), (by first | omega | (dsimp only [am_own]; omega))⟩, ⟨(by first | omega | (dsimp only [am_own]; omega)), (by first | omega | (dsimp only [am_own]; omega))⟩⟩ (And.intro (fun h => ?_) (fun h => ?_))
      rotate_left
      · exfalso; omega
      refine And.intro ⟨(by first | omega | (dsimp only [am_own]; omega)), (by first | omega | (dsimp only [am_own]; omega))⟩ ?_
      refine am_by (c_M_least (d := d) (M2.1 0 41 5 * (v : Int)) (M2.1 0 47 (6 + x).toNat) ⟨by omega, by omega⟩ ⟨by omega, by omega⟩) (by omega) ?_
      rintro r M3 ⟨rfl, rfl⟩
      rw [armsL]
      generalize hz : (if M3.1 0 41 5 * (v : Int) < M3.1 0 47 (6 + x).toNat then M3.1 0 41 5 * (v : Int) else M3.1 0 47 (6 + x).toNat) = z
      have hzR : am_R z := by rw [← hz]; split <;> exact ⟨by omega, by omega⟩
      refine And.intro ⟨hzR, hs⟩ (And.intro (fun h2 => ?_) (fun h2 => ?_))
      · rw [if_pos h2]
        exact ih (v + 1) _ (by omega) (am_R_or _ _)
      · rw [if_neg h2]
        have := ih (v + 1) (am_or acc 0) (by omega) (am_R_or _ _)
        have e2 : armsL (M3.1 0 41 5) (M3.1 0 47 (6 + x).toNat) s k (v + 1) (am_or acc 0) = armsL (M3.1 0 41 5) (M3.1 0 47 (6 + x).toNat) s k (v + 1) acc := by rw [am_or_0 ha]
        rw [e2] at this
        exact this
  exact loop 10 0 0 (by omega) am_R0
theorem P_arms {Γ : Am_G} {M : Am_M} {x s : Int} (h : Rel M) (hx : am_R x) (hs : am_R s) : Pair Γ 24 n_R_arms n_M_arms [.inl x, .inl s] M := by
  obtain ⟨n, mt, hR⟩ := id h
  have b1 := hR.1.1
  have b3 := hR.1.2.2.1
  have ref := fun (v : Int) e => Ans.ro (v := v) h (c_M_arms (Γ := Γ) (d := 21) hx hs hR.wM) e
  refine am_ev_of (by decide) (am_le rfl) (am_go 60 [29] (by decide) ?_)
  refine am_by (c_isPerson (d := 10) x hx ⟨by omega, by omega⟩) (by omega) ?_
  rintro r M0 ⟨rfl, rfl⟩
  rw [b1.1]
  by_cases qx : 0 ≤ x ∧ x < n
  rotate_left
  · rw [if_neg qx]
    refine And.intro ⟨(by first | omega | (dsimp only [am_own]; omega)), (by first | omega | (dsimp only [am_own]; omega))⟩ (And.intro (fun _ => ?_) (fun h => absurd rfl h))
    exact ref _ (by rw [if_neg qx])
  rw [if_pos qx]
  rw [if_pos qx] at ref
  refine And.intro ⟨(by first | omega | (dsimp only [am_own]; omega)), (by first | omega | (dsimp only [am_own]; omega))⟩ (And.intro (fun h => absurd h (by decide)) (fun _ => ?_))
  refine And.intro hs (And.intro (fun h => ref _ (by rw [if_neg (by omega)])) (fun h => ?_))
  refine And.intro ⟨hs, ⟨(by first | omega | (dsimp only [am_own]; omega)), (by first | omega | (dsimp only [am_own]; omega))⟩⟩ (And.intro (fun h2 => ref _ (by rw [if_neg (by omega)])) (fun h2 => ?_))
  rw [if_pos (by omega)] at ref
  obtain ⟨i, rfl⟩ : ∃ i : Nat, x = i := ⟨x.toNat, by omega⟩
  obtain ⟨l1, l2, l3⟩ := hR.2.1.2.2.2.2.2.1 i (by omega)
  have l4 := (hR.1.2.2.2.1 i (by omega)).2.2.1
  rw [show (6 + (i : Int)).toNat = 6 + i by omega, ← l1, ← b3.1] at ref
  have loop : ∀ (k v : Nat) (acc : Int), v + k = 10 → (∀ z, z = armsL (M0.1 0 18 4) (M0.1 0 7 i) s k v acc → Ans Γ 24 n_M_arms [.inl (i : Int), .inl s] (some (.inl z)) M0) → am_At Γ 24 n_R_arms 29 [some (.inr (.inr (0, 11))), some (.inl (i : Int)), some (.inl s), some (.inl acc), some (.inl (v : Int))] [] M0 (Ans Γ 24 n_M_arms [.inl (i : Int), .inl s]) := by
    intro k
    induction k with
    | zero =>
      intro v acc hv hz
      refine am_go 60 [29] (by decide) ?_
      refine And.intro ⟨⟨(by first | omega | (dsimp only [am_own]; omega)), (by first | omega | (dsimp only [am_own]; omega))⟩, ⟨(by first | omega | (dsimp only [am_own]; omega)), (by first | omega | (dsimp only [am_own]; omega))⟩⟩ (And.intro (fun h => hz _ rfl) (fun h => ?_))
      exfalso; omega
    | succ k ih =>
      intro v acc hv hz
      have hb := mul_b (a := M0.1 0 18 4) (b := (v : Int)) (A := 9) (B := 10) (by omega) (by omega)
      have e : (if M0.1 0 18 4 * (v : Int) < M0.1 0 7 i then M0.1 0 18 4 * (v : Int) else M0.1 0 7 i) = (if M0.1 0 7 i < M0.1 0 18 4 * (v : Int) then M0.1 0 7 i else M0.1 0 18 4 * (v : Int)) := min_comm
      refine am_go 60 [29] (by decide) ?_
      refine And.intro ⟨⟨(by first | omega | (dsimp only [am_own]; omega)), (by first | omega | (dsimp only [am_own]; omega))⟩, ⟨(by first | omega | (dsimp only [am_own]; omega)), (by first | omega | (dsimp only [am_own]; omega))⟩⟩ (And.intro (fun h => ?_) (fun h => ?_))
      · exfalso; omega
      refine And.intro ⟨(by first | omega | (dsimp only [am_own]; omega)), (by first | omega | (dsimp only [am_own]; omega))⟩ ?_
      refine And.intro ⟨⟨⟨(by first | omega | (dsimp only [am_own]; omega)), (by first | omega | (dsimp only [am_own]; omega))⟩, (show am_R (M0.1 0 7 i) from ⟨(by first | omega | (dsimp only [am_own]; omega)), (by first | omega | (dsimp only [am_own]; omega))⟩)⟩, by omega, am_le rfl⟩ ?_
      rw [armsL, e] at hz
      generalize hzz : (if M0.1 0 7 i < M0.1 0 18 4 * (v : Int) then M0.1 0 7 i else M0.1 0 18 4 * (v : Int)) = z at hz
      have hzR : am_R z := by rw [← hzz]; split <;> exact ⟨by omega, by omega⟩
      refine And.intro ⟨am_Re hzz hzR, hs⟩ (And.intro (fun h2 => ?_) (fun h2 => ?_))
      · have h2 : (if M0.1 0 7 i < M0.1 0 18 4 * (v : Int) then M0.1 0 7 i else M0.1 0 18 4 * (v : Int)) = s := h2
        rw [if_pos (hzz.symm.trans h2)] at hz
        exact ih (v + 1) _ (by omega) hz
      · have h2 : ¬ (if M0.1 0 7 i < M0.1 0 18 4 * (v : Int) then M0.1 0 7 i else M0.1 0 18 4 * (v : Int)) = s := h2
        rw [if_neg (fun q => h2 (hzz.trans q))] at hz
        exact ih (v + 1) _ (by omega) hz
  exact loop 10 0 0 (by omega) ref
