/-! the reference: in, least, isCarried, wantOf -/
theorem c_M_in {Γ : Am_G} {d : Nat} {M : Am_M} (x y z : Int) (h1 : am_R x) (h2 : am_R y) (h3 : am_R z) : am_Ev Γ (d + 1) n_M_in [.inl x, .inl y, .inl z] M (fun r M' => r = some (.inl (if y ≤ x ∧ x ≤ z then 1 else 0)) ∧ M' = M) := by
  refine am_ev_of (by decide) (am_le rfl) (am_go 20 [] (by decide) ?_)
  refine And.intro ⟨h1, h2⟩ (And.intro (fun h => ?_) (fun h => ?_))
  · rw [if_neg (by omega)]
    exact ⟨Or.inl rfl, rfl, rfl⟩
  · refine And.intro ⟨h1, h3⟩ (And.intro (fun h4 => ?_) (fun h4 => ?_))
    · rw [if_neg (by omega)]
      exact ⟨Or.inl rfl, rfl, rfl⟩
    · rw [if_pos (by omega)]
      exact ⟨Or.inr rfl, rfl, rfl⟩
theorem c_M_least {Γ : Am_G} {d : Nat} {M : Am_M} (x y : Int) (h1 : am_R x) (h2 : am_R y) : am_Ev Γ (d + 1) n_M_least [.inl x, .inl y] M (fun r M' => r = some (.inl (if x < y then x else y)) ∧ M' = M) := by
  refine am_ev_of (by decide) (am_le rfl) (am_go 20 [] (by decide) ?_)
  refine And.intro ⟨h1, h2⟩ (And.intro (fun h => ?_) (fun h => ?_))
  · rw [if_pos h]; exact ⟨rfl, rfl⟩
  · rw [if_neg h]; exact ⟨rfl, rfl⟩
theorem c_M_isCarried {Γ : Am_G} {d : Nat} {M : Am_M} {m : Nat} (x y z : Int) (hx : x = m) (hm : m < 5) (h1 : am_R (10 * y)) (h2 : am_R (M.1 0 43 m * (y + z))) : am_Ev Γ (d + 1) n_M_isCarried [.inr (.inr (0, 41)), .inl x, .inl y, .inl z] M (fun r M' => r = some (.inl (vt_carI (M.1 0 43 m) y z)) ∧ M' = M) := by
  subst hx
  refine am_ev_of (by decide) (am_le rfl) (am_go 20 [] (by decide) ?_)
  refine And.intro ⟨(by first | omega | (dsimp only [am_own]; omega)), (by first | omega | (dsimp only [am_own]; omega))⟩ ?_
  unfold vt_carI
  refine And.intro ⟨h1, h2⟩ (And.intro (fun h => ?_) (fun h => ?_))
  · have h : M.1 0 43 m * (y + z) < 10 * y := h
    rw [if_pos h]
    exact ⟨Or.inr rfl, rfl, rfl⟩
  · have h : ¬ M.1 0 43 m * (y + z) < 10 * y := h
    rw [if_neg h]
    exact ⟨Or.inl rfl, rfl, rfl⟩
/-- kinds as the reference takes them now -/
def mkd (M : Am_M) (i : Nat) : Int := if (i : Int) = M.1 0 41 30 then 3 else M.1 0 42 (i * 4)
def mwant (M : Am_M) (m i : Nat) : Int := vt_want (M.1 0 41 5) (M.1 0 44 (i * 5 + m)) (M.1 0 47 (6 + i)) (mkd M i) (M.1 0 47 (12 + (i * 5 + m)))
def wfM (M : Am_M) (n mt : Nat) : Prop := (M.1 0 41 0 = n ∧ n ≤ 6 ∧ M.1 0 41 2 = mt ∧ mt ≤ 5) ∧ (1 ≤ M.1 0 41 5 ∧ M.1 0 41 5 ≤ 9) ∧
  (∀ i, i < n → (0 ≤ M.1 0 42 (i * 4) ∧ M.1 0 42 (i * 4) ≤ 3) ∧ (0 ≤ M.1 0 42 (i * 4 + 1) ∧ M.1 0 42 (i * 4 + 1) ≤ 99) ∧ (0 ≤ M.1 0 42 (i * 4 + 2) ∧ M.1 0 42 (i * 4 + 2) ≤ 9) ∧ (1 ≤ M.1 0 42 (i * 4 + 3) ∧ M.1 0 42 (i * 4 + 3) ≤ 9) ∧ (0 ≤ M.1 0 47 (6 + i) ∧ M.1 0 47 (6 + i) ≤ 99)) ∧
  (∀ m, m < mt → 1 ≤ M.1 0 43 m ∧ M.1 0 43 m ≤ 9) ∧ (∀ i m, i < n → m < mt → (-9 ≤ M.1 0 44 (i * 5 + m) ∧ M.1 0 44 (i * 5 + m) ≤ 9) ∧ (0 ≤ M.1 0 47 (12 + (i * 5 + m)) ∧ M.1 0 47 (12 + (i * 5 + m)) ≤ 99)) ∧
  (∀ k, k < mt → 0 ≤ M.1 0 47 (1 + k) ∧ M.1 0 47 (1 + k) < mt) ∧ (-1 ≤ M.1 0 41 30 ∧ M.1 0 41 30 ≤ 9) ∧ (M.1 0 41 31 = 0 ∨ M.1 0 41 31 = 1)
theorem mkd_b {M : Am_M} {n mt i : Nat} (h : wfM M n mt) (hi : i < n) : 0 ≤ mkd M i ∧ mkd M i ≤ 3 := by
  unfold mkd
  have := (h.2.2.1 i hi).1
  split <;> omega
theorem mwant_b {M : Am_M} {n mt m i : Nat} (h : wfM M n mt) (hi : i < n) (hm : m < mt) : 0 ≤ mwant M m i ∧ mwant M m i ≤ M.1 0 47 (6 + i) := vt_want_b h.2.1 (h.2.2.2.2.1 i m hi hm).1 (h.2.2.1 i hi).2.2.2.2 (h.2.2.2.2.1 i m hi hm).2
theorem c_M_wantOf {Γ : Am_G} {d : Nat} {M : Am_M} {n mt i m : Nat} (y : Int) (hM : wfM M n mt) (hi : i < n) (hm : m < mt) (hy : y = m) : am_Ev Γ (d + 2) n_M_wantOf [.inr (.inr (0, 41)), .inl (i : Int), .inl y] M (fun r M' => r = some (.inl (mwant M m i)) ∧ M' = M) := by
  subst hy
  obtain ⟨⟨n1, n2, n3, n4⟩, n5, n6, n7, n8, n9, n10, n11⟩ := id hM
  have hp := n6 i hi
  have hw := n8 i m hi hm
  have e44 : M.1 0 44 (5 * (i : Int) + (m : Int)).toNat = M.1 0 44 (i * 5 + m) := congrArg _ (by omega)
  have e42 : M.1 0 42 (4 * (i : Int)).toNat = M.1 0 42 (i * 4) := congrArg _ (by omega)
  have e6 : M.1 0 47 (6 + (i : Int)).toNat = M.1 0 47 (6 + i) := congrArg _ (by omega)
  have e12 : M.1 0 47 (12 + 5 * (i : Int) + (m : Int)).toNat = M.1 0 47 (12 + (i * 5 + m)) := congrArg _ (by omega)
  have hkd := mkd_b hM hi
  have hb := mul_b (a := M.1 0 41 5) (b := if 0 ≤ M.1 0 44 (i * 5 + m) then M.1 0 44 (i * 5 + m) else 0 - M.1 0 44 (i * 5 + m)) (A := 9) (B := 9) (by omega) (by split <;> omega)
  have st94 : ∀ (z : Option Am_V) (w : Int), M.1 0 44 (i * 5 + m) ≠ 0 → w = (if mkd M i < 2 then M.1 0 41 5 * (if 0 ≤ M.1 0 44 (i * 5 + m) then M.1 0 44 (i * 5 + m) else 0 - M.1 0 44 (i * 5 + m)) else if mkd M i = 2 then M.1 0 47 (6 + i) else M.1 0 47 (12 + (i * 5 + m))) → am_At Γ (d + 2) n_M_wantOf 94 [some (.inr (.inr (0, 41))), some (.inl (i : Int)), some (.inl (m : Int)), some (.inl (M.1 0 44 (i * 5 + m))), some (.inl (mkd M i)), z] [.inl w] M (fun r M' => r = some (.inl (mwant M m i)) ∧ M' = M) := by
    intro z w h0 hwv
    have hwb : 0 ≤ w ∧ w ≤ 99 := by
      rw [hwv]
      by_cases q : mkd M i < 2
      · rw [if_pos q]; omega
      · rw [if_neg q]
        by_cases q2 : mkd M i = 2
        · rw [if_pos q2]; omega
        · rw [if_neg q2]; omega
    refine am_go 20 [] (by decide) ?_
    refine And.intro ⟨(by first | omega | (dsimp only [am_own]; omega)), (by first | omega | (dsimp only [am_own]; omega))⟩ ?_
    have hc := c_M_least (Γ := Γ) (d := d) (M := M) w (M.1 0 47 (6 + i)) ⟨by omega, by omega⟩ ⟨by omega, by omega⟩
    rw [← e6] at hc
    refine am_by hc (by omega) ?_
    rintro r M' ⟨rfl, rfl⟩
    rw [e6]
    refine ⟨congrArg (fun z => some (Sum.inl z)) ?_, rfl⟩
    unfold mwant vt_want
    rw [if_neg h0, hwv]
  have st31 : am_At Γ (d + 2) n_M_wantOf 31 [some (.inr (.inr (0, 41))), some (.inl (i : Int)), some (.inl (m : Int)), some (.inl (M.1 0 44 (i * 5 + m))), none, none] [.inl (mkd M i)] M (fun r M' => r = some (.inl (mwant M m i)) ∧ M' = M) := by
    refine am_go 60 [94] (by decide) ?_
    refine And.intro ⟨(by first | omega | (dsimp only [am_own]; omega)), (by first | omega | (dsimp only [am_own]; omega))⟩ (And.intro (fun h0 => ?_) (fun h0 => ?_))
    · refine ⟨congrArg (fun z => some (Sum.inl z)) ?_, rfl⟩
      unfold mwant vt_want
      rw [if_pos h0]
    · refine And.intro ⟨⟨(by first | omega | (dsimp only [am_own]; omega)), (by first | omega | (dsimp only [am_own]; omega))⟩, ⟨(by first | omega | (dsimp only [am_own]; omega)), (by first | omega | (dsimp only [am_own]; omega))⟩⟩ (And.intro (fun h1 => ?_) (fun h1 => ?_))
      · refine And.intro ⟨(by first | omega | (dsimp only [am_own]; omega)), (by first | omega | (dsimp only [am_own]; omega))⟩ (And.intro (fun h2 => ?_) (fun h2 => ?_))
        · refine st94 _ _ h0 ?_
          rw [if_pos h1, if_neg (by omega)]
          show M.1 0 41 5 * -M.1 0 44 (i * 5 + m) = _
          congr 1
          omega
        · refine st94 _ _ h0 ?_
          rw [if_pos h1, if_pos (by omega)]
      · refine And.intro ⟨⟨(by first | omega | (dsimp only [am_own]; omega)), (by first | omega | (dsimp only [am_own]; omega))⟩, ⟨(by first | omega | (dsimp only [am_own]; omega)), (by first | omega | (dsimp only [am_own]; omega))⟩⟩ (And.intro (fun h2 => ?_) (fun h2 => ?_))
        · refine And.intro ⟨(by first | omega | (dsimp only [am_own]; omega)), (by first | omega | (dsimp only [am_own]; omega))⟩ ?_
          refine st94 _ _ h0 ?_
          rw [if_neg h1, if_pos h2]
          exact e6
        · refine And.intro ⟨(by first | omega | (dsimp only [am_own]; omega)), (by first | omega | (dsimp only [am_own]; omega))⟩ ?_
          refine st94 _ _ h0 ?_
          rw [if_neg h1, if_neg h2]
          exact e12
  refine am_ev_of (by decide) (am_le rfl) (am_go 60 [31] (by decide) ?_)
  refine And.intro ⟨(by first | omega | (dsimp only [am_own]; omega)), (by first | omega | (dsimp only [am_own]; omega))⟩ ?_
  rw [← e44] at st31
  refine And.intro ⟨⟨(by first | omega | (dsimp only [am_own]; omega)), (by first | omega | (dsimp only [am_own]; omega))⟩, ⟨(by first | omega | (dsimp only [am_own]; omega)), (by first | omega | (dsimp only [am_own]; omega))⟩⟩ (And.intro (fun h0 => ?_) (fun h0 => ?_))
  · have h0 : (i : Int) = M.1 0 41 30 := h0
    have ek : mkd M i = 3 := by unfold mkd; rw [if_pos h0]
    rw [ek] at st31
    exact st31
  · have h0 : ¬ (i : Int) = M.1 0 41 30 := h0
    have ek : mkd M i = M.1 0 42 (4 * (i : Int)).toNat := by unfold mkd; rw [if_neg h0, e42]
    rw [ek] at st31
    exact And.intro ⟨(by first | omega | (dsimp only [am_own]; omega)), (by first | omega | (dsimp only [am_own]; omega))⟩ st31
