/-! pairs: write -/
def by8 (w : Int64) (i : Nat) : Int := ((w >>> ((Int32.ofInt (8 * (i : Int))).toInt64 &&& 63)) &&& Int64.ofInt 255).toInt32.toInt
theorem by8_and (y : Int64) : 0 ≤ (y &&& Int64.ofInt 255).toInt32.toInt ∧ (y &&& Int64.ofInt 255).toInt32.toInt ≤ 255 := by
  have h1 : (y &&& Int64.ofInt 255).toBitVec.toNat ≤ 255 := by
    rw [Int64.toBitVec_and, BitVec.toNat_and]
    exact Nat.le_trans Nat.and_le_right (by decide +kernel)
  have h2 : (y &&& Int64.ofInt 255).toInt32.toBitVec = (y &&& Int64.ofInt 255).toBitVec.signExtend 32 := rfl
  have h3 : (y &&& Int64.ofInt 255).toInt32.toBitVec.toNat = (y &&& Int64.ofInt 255).toBitVec.toNat := by
    rw [h2, BitVec.signExtend_eq_setWidth_of_le _ (by decide), BitVec.toNat_setWidth]
    exact Nat.mod_eq_of_lt (by omega)
  have h4 : (y &&& Int64.ofInt 255).toInt32.toInt = ((y &&& Int64.ofInt 255).toInt32.toBitVec.toNat : Int) := by
    show (y &&& Int64.ofInt 255).toInt32.toBitVec.toInt = _
    rw [BitVec.toInt_eq_toNat_cond, if_pos (by omega)]
  rw [h4, h3]
  omega
theorem by8_b (w : Int64) (i : Nat) : 0 ≤ by8 w i ∧ by8 w i ≤ 255 := by8_and _
/-- behind i bytes of a write -/
def wrI (M : Am_M) (p L : Nat) (w : Int64) (i : Nat) (M1 : Am_M) : Prop := am_same (fun e' p' => e' = 0 ∧ p' = p) M M1 ∧ ∀ k, M1.1 0 p k = if L ≤ k ∧ k < L + i then by8 w (k - L) else M.1 0 p k
theorem wrI_step {M M1 : Am_M} {p L i : Nat} {w : Int64} (h : wrI M p L w i M1) : wrI M p L w (i + 1) (am_set M1 0 p (L + i) (by8 w i)) := by
  refine ⟨h.1.set ⟨rfl, rfl⟩, fun k => ?_⟩
  by_cases q : k = L + i
  · rw [q, set_eq, if_pos (by omega), show L + i - L = i by omega]
  · rw [set_k q, h.2 k]
    by_cases q2 : L ≤ k ∧ k < L + i
    · rw [if_pos q2, if_pos (by omega)]
    · rw [if_neg q2, if_neg (by omega)]
theorem c_add {Γ : Am_G} {d : Nat} {M : Am_M} {w : Int64} {L n : Nat} {K : Option Am_V → Am_M → Prop} (hL : M.1 0 14 1 = L) (hL2 : L ≤ 200) (hn : 1 ≤ n ∧ n ≤ 8) (h1 : 200 < L + n → K (some (.inl (-5))) M) (h2 : ∀ M1, L + n ≤ 200 → wrI M 15 L w n M1 → K (some (.inl ((L : Int) + n))) (am_set M1 0 14 1 ((L : Int) + n))) : am_Ev Γ (d + 1) n_Text_add [.inr (.inr (0, 14)), .inr (.inl w), .inl (n : Int)] M K := by
  refine am_ev_of (by decide) (am_le rfl) (am_go 60 [18] (by decide) ?_)
  refine And.intro ⟨(show am_R (M.1 0 14 1 + (n : Int)) from ⟨(by first | omega | (dsimp only [am_own]; omega)), (by first | omega | (dsimp only [am_own]; omega))⟩), ⟨(by first | omega | (dsimp only [am_own]; omega)), (by first | omega | (dsimp only [am_own]; omega))⟩⟩ (And.intro (fun h => ?_) (fun h => ?_))
  · have h : 200 < M.1 0 14 1 + (n : Int) := h
    exact h1 (by omega)
  have h : ¬ 200 < M.1 0 14 1 + (n : Int) := h
  have loop : ∀ (k i : Nat) (M1 : Am_M), i + k = n → wrI M 15 L w i M1 → am_At Γ (d + 1) n_Text_add 18 [some (.inr (.inr (0, 14))), some (.inr (.inl w)), none, some (.inl (n : Int)), some (.inl (i : Int))] [] M1 K := by
    intro k
    induction k with
    | zero =>
      intro i M1 hi hI
      have : i = n := by omega
      subst this
      have e1 : M1.1 0 14 1 = L := (hI.1.2 0 14 1 (by omega)).trans hL
      refine am_go 60 [18] (by decide) ?_
      refine And.intro ⟨⟨(by first | omega | (dsimp only [am_own]; omega)), (by first | omega | (dsimp only [am_own]; omega))⟩, ⟨(by first | omega | (dsimp only [am_own]; omega)), (by first | omega | (dsimp only [am_own]; omega))⟩⟩ (And.intro (fun h => ?_) (fun h => ?_))
      · exfalso; omega
      have k := h2 M1 (by omega) hI
      have e : ∀ v, (am_set M1 0 14 1 v).1 0 14 1 = v := fun v => set_eq
      rw [← e1] at k
      exact k
    | succ k ih =>
      intro i M1 hi hI
      have e1 : M1.1 0 14 1 = L := (hI.1.2 0 14 1 (by omega)).trans hL
      refine am_go 60 [18] (by decide) ?_
      refine And.intro ⟨⟨(by first | omega | (dsimp only [am_own]; omega)), (by first | omega | (dsimp only [am_own]; omega))⟩, ⟨(by first | omega | (dsimp only [am_own]; omega)), (by first | omega | (dsimp only [am_own]; omega))⟩⟩ (And.intro (fun h => ?_) (fun h => ?_))
      rotate_left
      · exfalso; omega
      refine And.intro (show 0 ≤ M1.1 0 14 1 + (i : Int) ∧ M1.1 0 14 1 + (i : Int) < 200 from ⟨(by first | omega | (dsimp only [am_own]; omega)), (by first | omega | (dsimp only [am_own]; omega))⟩) ?_
      have go := ih (i + 1) (am_set M1 0 15 (M1.1 0 14 1 + (i : Int)).toNat (by8 w i)) (by omega) (by rw [show (M1.1 0 14 1 + (i : Int)).toNat = L + i by omega]; exact wrI_step hI)
      exact go
  exact loop n 0 M (by omega) ⟨am_same.rf, fun k => by rw [if_neg (by omega)]⟩
theorem c_M_write {Γ : Am_G} {d : Nat} {M : Am_M} {w : Int64} {L : Nat} {x : Int} {K : Option Am_V → Am_M → Prop} (hx : am_R x) (hL : M.1 0 41 6 = L) (hL2 : L ≤ 200) (h0 : ¬ (1 ≤ x ∧ x ≤ 8) → K (some (.inl (-3))) M) (h1 : 1 ≤ x ∧ x ≤ 8 → 200 < (L : Int) + x → K (some (.inl (-5))) M) (h2 : ∀ M1, 1 ≤ x ∧ x ≤ 8 → (L : Int) + x ≤ 200 → wrI M 45 L w x.toNat M1 → K (some (.inl ((L : Int) + x))) (am_set M1 0 41 6 ((L : Int) + x))) : am_Ev Γ (d + 2) n_M_write [.inr (.inr (0, 41)), .inr (.inl w), .inl x] M K := by
  refine am_ev_of (by decide) (am_le rfl) (am_go 60 [31] (by decide) ?_)
  refine am_by (c_M_in (d := d) x 1 8 hx ⟨(by first | omega | (dsimp only [am_own]; omega)), (by first | omega | (dsimp only [am_own]; omega))⟩ ⟨(by first | omega | (dsimp only [am_own]; omega)), (by first | omega | (dsimp only [am_own]; omega))⟩) (by omega) ?_
  rintro r M0 ⟨rfl, rfl⟩
  by_cases qx : 1 ≤ x ∧ x ≤ 8
  rotate_left
  · rw [if_neg qx]
    refine And.intro ⟨(by first | omega | (dsimp only [am_own]; omega)), (by first | omega | (dsimp only [am_own]; omega))⟩ (And.intro (fun _ => ?_) (fun h => absurd rfl h))
    exact h0 qx
  rw [if_pos qx]
  refine And.intro ⟨(by first | omega | (dsimp only [am_own]; omega)), (by first | omega | (dsimp only [am_own]; omega))⟩ (And.intro (fun h => absurd h (by decide)) (fun _ => ?_))
  obtain ⟨n, rfl⟩ : ∃ n : Nat, x = n := ⟨x.toNat, by omega⟩
  refine And.intro ⟨(show am_R (M0.1 0 41 6 + (n : Int)) from ⟨(by first | omega | (dsimp only [am_own]; omega)), (by first | omega | (dsimp only [am_own]; omega))⟩), ⟨(by first | omega | (dsimp only [am_own]; omega)), (by first | omega | (dsimp only [am_own]; omega))⟩⟩ (And.intro (fun h => ?_) (fun h => ?_))
  · have h : 200 < M0.1 0 41 6 + (n : Int) := h
    exact h1 qx (by omega)
  have h : ¬ 200 < M0.1 0 41 6 + (n : Int) := h
  have loop : ∀ (k i : Nat) (M1 : Am_M), i + k = n → wrI M0 45 L w i M1 → am_At Γ (d + 2) n_M_write 31 [some (.inr (.inr (0, 41))), some (.inr (.inl w)), none, some (.inl (n : Int)), some (.inl (i : Int))] [] M1 K := by
    intro k
    induction k with
    | zero =>
      intro i M1 hi hI
      have : i = n := by omega
      subst this
      have e1 : M1.1 0 41 6 = L := (hI.1.2 0 41 6 (by omega)).trans hL
      refine am_go 60 [31] (by decide) ?_
      refine And.intro ⟨⟨(by first | omega | (dsimp only [am_own]; omega)), (by first | omega | (dsimp only [am_own]; omega))⟩, ⟨(by first | omega | (dsimp only [am_own]; omega)), (by first | omega | (dsimp only [am_own]; omega))⟩⟩ (And.intro (fun h => ?_) (fun h => ?_))
      · exfalso; omega
      have k := h2 M1 qx (by omega) hI
      rw [← e1] at k
      exact k
    | succ k ih =>
      intro i M1 hi hI
      have e1 : M1.1 0 41 6 = L := (hI.1.2 0 41 6 (by omega)).trans hL
      refine am_go 60 [31] (by decide) ?_
      refine And.intro ⟨⟨(by first | omega | (dsimp only [am_own]; omega)), (by first | omega | (dsimp only [am_own]; omega))⟩, ⟨(by first | omega | (dsimp only [am_own]; omega)), (by first | omega | (dsimp only [am_own]; omega))⟩⟩ (And.intro (fun h => ?_) (fun h => ?_))
      rotate_left
      · exfalso; omega
      refine And.intro (show 0 ≤ M1.1 0 41 6 + (i : Int) ∧ M1.1 0 41 6 + (i : Int) < 200 from ⟨(by first | omega | (dsimp only [am_own]; omega)), (by first | omega | (dsimp only [am_own]; omega))⟩) ?_
      have go := ih (i + 1) (am_set M1 0 45 (M1.1 0 41 6 + (i : Int)).toNat (by8 w i)) (by omega) (by rw [show (M1.1 0 41 6 + (i : Int)).toNat = L + i by omega]; exact wrI_step hI)
      exact go
  exact loop n 0 M0 (by omega) ⟨am_same.rf, fun k => by rw [if_neg (by omega)]⟩
theorem P_write {Γ : Am_G} {M : Am_M} {w : Int64} {x : Int} (h : Rel M) (hx : am_R x) : Pair Γ 24 n_R_write n_M_write [.inr (.inl w), .inl x] M := by
  obtain ⟨n, mt, hR⟩ := id h
  obtain ⟨w1, w2⟩ := hR.2.2.2.2.1
  obtain ⟨L, hL⟩ : ∃ L : Nat, M.1 0 14 1 = L := ⟨(M.1 0 14 1).toNat, by omega⟩
  have hL6 : M.1 0 41 6 = L := by omega
  have out : ¬ (1 ≤ x ∧ x ≤ 8) → Ans Γ 24 n_M_write [.inr (.inl w), .inl x] (some (.inl (-3))) M := fun q => ⟨_, rfl, c_M_write (d := 22) hx hL6 (by omega) (fun _ => ⟨rfl, h⟩) (fun q2 => absurd q2 q) (fun M1 q2 => absurd q2 q)⟩
  refine am_ev_of (by decide) (am_le rfl) (am_go 60 [] (by decide) ?_)
  refine And.intro ⟨hx, ⟨(by first | omega | (dsimp only [am_own]; omega)), (by first | omega | (dsimp only [am_own]; omega))⟩⟩ (And.intro (fun h => out (by omega)) (fun h0 => ?_))
  refine And.intro ⟨hx, ⟨(by first | omega | (dsimp only [am_own]; omega)), (by first | omega | (dsimp only [am_own]; omega))⟩⟩ (And.intro (fun h => out (by omega)) (fun h1 => ?_))
  obtain ⟨m, rfl⟩ : ∃ m : Nat, x = m := ⟨x.toNat, by omega⟩
  refine am_by (c_add (d := 10) (K := Ans Γ 24 n_M_write [.inr (.inl w), .inl (m : Int)]) hL (by omega) (by omega) (fun q => ?_) (fun M1 q hI => ?_)) (by omega) (fun r M1 hz => ?_)
  · exact ⟨_, rfl, c_M_write (d := 22) hx hL6 (by omega) (fun q2 => absurd (by omega) q2) (fun _ _ => ⟨rfl, h⟩) (fun M1 q2 q3 => by omega)⟩
  · refine ⟨_, rfl, ?_⟩
    have g1 : ∀ e p k, ¬ (e = 0 ∧ p = 15) → M1.1 e p k = M.1 e p k := fun e p k a => hI.1.2 e p k a
    have e6 : (am_set M1 0 14 1 ((L : Int) + m)).1 0 41 6 = L := by rw [set_p (by decide), g1 0 41 6 (by omega)]; exact hL6
    refine c_M_write (d := 22) hx e6 (by omega) (fun q2 => absurd (by omega) q2) (fun _ q2 => by omega) (fun M2 _ _ hJ => ⟨rfl, n, mt, ?_⟩)
    rw [show ((m : Int)).toNat = m from rfl] at hJ
    have g2 : ∀ e p k, ¬ (e = 0 ∧ p = 45) → M2.1 e p k = (am_set M1 0 14 1 ((L : Int) + m)).1 e p k := fun e p k a => hJ.1.2 e p k a
    refine hR.txs (fun e p k hr hn => ?_) ⟨?_, fun k hk => ?_⟩
    · rw [set_at (by omega), g2 e p k (by omega), set_at (by omega)]
      exact g1 e p k (by omega)
    · have e1 : (am_set M2 0 41 6 ((L : Int) + m)).1 0 14 1 = (L : Int) + m := by rw [set_p (by decide), g2 0 14 1 (by omega)]; exact set_eq
      have e2 : (am_set M2 0 41 6 ((L : Int) + m)).1 0 41 6 = (L : Int) + m := set_eq
      rw [e1, e2]
      omega
    · have e1 : (am_set M2 0 41 6 ((L : Int) + m)).1 0 14 1 = (L : Int) + m := by rw [set_p (by decide), g2 0 14 1 (by omega)]; exact set_eq
      rw [e1] at hk
      rw [set_p (by decide), set_p (by decide), g2 0 15 k (by omega), set_p (by decide), hI.2 k, hJ.2 k, set_p (by decide), g1 0 45 k (by omega)]
      by_cases q2 : L ≤ k ∧ k < L + m
      · rw [if_pos q2, if_pos q2]
        exact ⟨rfl, by8_b _ _⟩
      · rw [if_neg q2, if_neg q2]
        exact w2 k (by omega)
  · obtain ⟨v, rfl, hv⟩ := hz
    exact ⟨v, rfl, hv⟩
