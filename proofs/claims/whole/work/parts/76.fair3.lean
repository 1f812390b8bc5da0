/-! fair: the reference, and the pair -/
theorem pow9 : ∀ n, n ≤ 6 → 1 ≤ 9 ^ n ∧ 9 ^ n ≤ 531441 := by decide
theorem c_M_fair {Γ : Am_G} {d : Nat} {M : Am_M} {n : Nat} {x : Int} (hx : am_R x) (hn : M.1 0 41 0 = n) (hn6 : n ≤ 6) (ha : ∀ i, i < n → 0 ≤ aM M i ∧ aM M i ≤ 30) : am_Ev Γ (d + 3) n_M_fair [.inr (.inr (0, 41)), .inl x] M (fun r M' => M' = M ∧ ((x ≠ -1 ∧ ¬ (0 ≤ x ∧ x < n) ∧ r = some (.inl (-2))) ∨ ((x = -1 ∨ (0 ≤ x ∧ x < n)) ∧ n = 0 ∧ r = some (.inl (-4))) ∨ ((x = -1 ∨ (0 ≤ x ∧ x < n)) ∧ 1 ≤ n ∧ ∃ found, fairR (aM M) n found ∧ r = some (.inl (if x = -1 then spF (aM M) n found else ((dgO n found x.toNat : Nat) : Int) + 1))))) := by
  have h9 := pow9 n hn6
  -- from the search's end
  have st116 : (x = -1 ∨ (0 ≤ x ∧ x < n)) → 1 ≤ n → ∀ (found : Nat) (cs : Int) (z1 : Int) (z2 : Option Am_V), fairR (aM M) n found → am_At Γ (d + 3) n_M_fair 116 [some (.inr (.inr (0, 41))), some (.inl x), some (.inl cs), some (.inl (found : Int)), some (.inl (spF (aM M) n found)), some (.inl z1), z2] [] M (fun r M' => M' = M ∧ ((x ≠ -1 ∧ ¬ (0 ≤ x ∧ x < n) ∧ r = some (.inl (-2))) ∨ ((x = -1 ∨ (0 ≤ x ∧ x < n)) ∧ n = 0 ∧ r = some (.inl (-4))) ∨ ((x = -1 ∨ (0 ≤ x ∧ x < n)) ∧ 1 ≤ n ∧ ∃ found, fairR (aM M) n found ∧ r = some (.inl (if x = -1 then spF (aM M) n found else ((dgO n found x.toNat : Nat) : Int) + 1))))) := by
    intro hx2 hn1 found cs z1 z2 hF
    have leaf : ∀ v : Int, v = (if x = -1 then spF (aM M) n found else ((dgO n found x.toNat : Nat) : Int) + 1) → M = M ∧ ((x ≠ -1 ∧ ¬ (0 ≤ x ∧ x < n) ∧ some (Sum.inl v : Am_V) = some (.inl (-2))) ∨ ((x = -1 ∨ (0 ≤ x ∧ x < n)) ∧ n = 0 ∧ some (Sum.inl v : Am_V) = some (.inl (-4))) ∨ ((x = -1 ∨ (0 ≤ x ∧ x < n)) ∧ 1 ≤ n ∧ ∃ found, fairR (aM M) n found ∧ some (Sum.inl v : Am_V) = some (.inl (if x = -1 then spF (aM M) n found else ((dgO n found x.toNat : Nat) : Int) + 1)))) := fun v hv => ⟨rfl, Or.inr (Or.inr ⟨hx2, hn1, found, hF, by rw [hv]⟩)⟩
    refine am_go 60 [132] (by decide) ?_
    refine And.intro ⟨hx, ⟨(by first | omega | (dsimp only [am_own]; omega)), (by first | omega | (dsimp only [am_own]; omega))⟩⟩ (And.intro (fun h => ?_) (fun h => ?_))
    · have h : x = -1 := h
      exact leaf _ (by rw [if_pos h])
    have h : ¬ x = -1 := h
    obtain ⟨i, rfl⟩ : ∃ i : Nat, x = i := ⟨x.toNat, by omega⟩
    have hin : i < n := by omega
    have fb := hF.1
    have loop : ∀ (k j f : Nat) (z2 : Option Am_V), i + k = j → j < n → f = found / 9 ^ (n - 1 - j) → am_At Γ (d + 3) n_M_fair 132 [some (.inr (.inr (0, 41))), some (.inl (i : Int)), some (.inl cs), some (.inl (f : Int)), some (.inl (spF (aM M) n found)), some (.inl (j : Int)), z2] [] M (fun r M' => M' = M ∧ (((i : Int) ≠ -1 ∧ ¬ (0 ≤ (i : Int) ∧ (i : Int) < n) ∧ r = some (.inl (-2))) ∨ (((i : Int) = -1 ∨ (0 ≤ (i : Int) ∧ (i : Int) < n)) ∧ n = 0 ∧ r = some (.inl (-4))) ∨ (((i : Int) = -1 ∨ (0 ≤ (i : Int) ∧ (i : Int) < n)) ∧ 1 ≤ n ∧ ∃ found, fairR (aM M) n found ∧ r = some (.inl (if (i : Int) = -1 then spF (aM M) n found else ((dgO n found ((i : Int)).toNat : Nat) : Int) + 1))))) := by
      intro k
      induction k with
      | zero =>
        intro j f z2 hj hjn hf
        have hfl : f ≤ found := by rw [hf]; exact Nat.div_le_self _ _
        refine am_go 60 [132] (by decide) ?_
        refine And.intro ⟨⟨(by first | omega | (dsimp only [am_own]; omega)), (by first | omega | (dsimp only [am_own]; omega))⟩, ⟨(by first | omega | (dsimp only [am_own]; omega)), (by first | omega | (dsimp only [am_own]; omega))⟩⟩ (And.intro (fun h2 => ?_) (fun h2 => ?_))
        · exfalso
          have h2 : (i : Int) < (j : Int) := h2
          omega
        refine And.intro ⟨by omega, ⟨by omega, by omega⟩, by omega, ⟨by omega, by omega⟩⟩ ?_
        refine leaf _ ?_
        rw [if_neg h, show ((i : Int)).toNat = i from rfl, dgO_div n found i hin, show n - 1 - i = n - 1 - j by omega, ← hf]
        omega
      | succ k ih =>
        intro j f z2 hj hjn hf
        have hfl : f ≤ found := by rw [hf]; exact Nat.div_le_self _ _
        refine am_go 60 [132] (by decide) ?_
        refine And.intro ⟨⟨(by first | omega | (dsimp only [am_own]; omega)), (by first | omega | (dsimp only [am_own]; omega))⟩, ⟨(by first | omega | (dsimp only [am_own]; omega)), (by first | omega | (dsimp only [am_own]; omega))⟩⟩ (And.intro (fun h2 => ?_) (fun h2 => ?_))
        · refine And.intro ⟨by omega, ⟨by omega, by omega⟩, by omega, ⟨by omega, by omega⟩⟩ ?_
          have go := ih (j - 1) (f / 9) z2 (by omega) (by omega) (by rw [hf, Nat.div_div_eq_div_mul, ← Nat.pow_succ, show (n - 1 - j).succ = n - 1 - (j - 1) by omega])
          rw [show (((f / 9 : Nat)) : Int) = (f : Int) / 9 by omega, show (((j - 1 : Nat)) : Int) = (j : Int) + -1 by omega] at go
          exact go
        · exfalso
          have h2 : ¬ (i : Int) < (j : Int) := h2
          omega
    have go := loop (n - 1 - i) (n - 1) found z2 (by omega) (by omega) (by rw [show n - 1 - (n - 1) = 0 by omega, Nat.pow_zero, Nat.div_one])
    rw [show (((n - 1 : Nat)) : Int) = M.1 0 41 0 - 1 by omega] at go
    exact go
  have st26 : (x = -1 ∨ (0 ≤ x ∧ x < n)) → 1 ≤ n → am_At Γ (d + 3) n_M_fair 26 [some (.inr (.inr (0, 41))), some (.inl x), none, none, none, none, none] [] M (fun r M' => M' = M ∧ ((x ≠ -1 ∧ ¬ (0 ≤ x ∧ x < n) ∧ r = some (.inl (-2))) ∨ ((x = -1 ∨ (0 ≤ x ∧ x < n)) ∧ n = 0 ∧ r = some (.inl (-4))) ∨ ((x = -1 ∨ (0 ≤ x ∧ x < n)) ∧ 1 ≤ n ∧ ∃ found, fairR (aM M) n found ∧ r = some (.inl (if x = -1 then spF (aM M) n found else ((dgO n found x.toNat : Nat) : Int) + 1))))) := by
    intro hx2 hn1
    have main : ∀ (k code found : Nat) (z2 : Option Am_V), code + k = 9 ^ n → 1 ≤ code → found < code → (∀ c, c < code → spF (aM M) n found ≤ spF (aM M) n c) → (∀ c, c < found → spF (aM M) n found < spF (aM M) n c) → am_At Γ (d + 3) n_M_fair 61 [some (.inr (.inr (0, 41))), some (.inl x), some (.inl ((9 ^ n : Nat) : Int)), some (.inl (found : Int)), some (.inl (spF (aM M) n found)), some (.inl (code : Int)), z2] [] M (fun r M' => M' = M ∧ ((x ≠ -1 ∧ ¬ (0 ≤ x ∧ x < n) ∧ r = some (.inl (-2))) ∨ ((x = -1 ∨ (0 ≤ x ∧ x < n)) ∧ n = 0 ∧ r = some (.inl (-4))) ∨ ((x = -1 ∨ (0 ≤ x ∧ x < n)) ∧ 1 ≤ n ∧ ∃ found, fairR (aM M) n found ∧ r = some (.inl (if x = -1 then spF (aM M) n found else ((dgO n found x.toNat : Nat) : Int) + 1))))) := by
      intro k
      induction k with
      | zero =>
        intro code found z2 hk h1 hfc hmin hfirst
        refine am_go 60 [61, 116] (by decide) ?_
        refine And.intro ⟨⟨(by first | omega | (dsimp only [am_own]; omega)), (by first | omega | (dsimp only [am_own]; omega))⟩, ⟨(by first | omega | (dsimp only [am_own]; omega)), (by first | omega | (dsimp only [am_own]; omega))⟩⟩ (And.intro (fun h2 => ?_) (fun h2 => ?_))
        · exfalso
          have h2 : (code : Int) < ((9 ^ n : Nat) : Int) := h2
          omega
        · exact st116 hx2 hn1 found _ _ _ ⟨by omega, fun c hc => hmin c (by omega), hfirst⟩
      | succ k ih =>
        intro code found z2 hk h1 hfc hmin hfirst
        have sb := spF_b (code := found) hn1 ha
        refine am_go 60 [61, 116] (by decide) ?_
        refine And.intro ⟨⟨(by first | omega | (dsimp only [am_own]; omega)), (by first | omega | (dsimp only [am_own]; omega))⟩, ⟨(by first | omega | (dsimp only [am_own]; omega)), (by first | omega | (dsimp only [am_own]; omega))⟩⟩ (And.intro (fun h2 => ?_) (fun h2 => ?_))
        rotate_left
        · exfalso
          have h2 : ¬ (code : Int) < ((9 ^ n : Nat) : Int) := h2
          omega
        refine And.intro ⟨by omega, by omega⟩ (And.intro (fun h3 => ?_) (fun h3 => ?_))
        rotate_left
        · have h3 : ¬ 0 < spF (aM M) n found := h3
          refine st116 hx2 hn1 found _ _ _ ⟨by omega, fun c hc => ?_, hfirst⟩
          have := spF_b (code := c) hn1 ha
          omega
        refine am_by (c_M_spreadOf (d := d) (code := code) hn hn6 ha (by omega)) (by omega) ?_
        rintro r M1 ⟨rfl, rfl⟩
        have sb2 := spF_b (code := code) hn1 ha
        have go1 := ih (code + 1) code (some (.inl (spF (aM M1) n code))) (by omega) (by omega) (by omega)
        have go2 := ih (code + 1) found (some (.inl (spF (aM M1) n code))) (by omega) (by omega) (by omega)
        refine And.intro ⟨⟨by omega, by omega⟩, ⟨by omega, by omega⟩⟩ (And.intro (fun h4 => ?_) (fun h4 => ?_))
        · have h4 : spF (aM M1) n code < spF (aM M1) n found := h4
          refine And.intro ⟨⟨by omega, by omega⟩, ⟨by omega, by omega⟩⟩ (And.intro (fun _ => ?_) (fun h5 => absurd h4 h5))
          refine go1 (fun c hc => ?_) (fun c hc => ?_)
          · by_cases q : c = code
            · rw [q]; omega
            · have := hmin c (by omega); omega
          · have := hmin c hc; omega
        · have h4 : ¬ spF (aM M1) n code < spF (aM M1) n found := h4
          refine And.intro ⟨⟨by omega, by omega⟩, ⟨by omega, by omega⟩⟩ (And.intro (fun h5 => absurd h5 h4) (fun _ => ?_))
          refine go2 (fun c hc => ?_) hfirst
          by_cases q : c = code
          · rw [q]; omega
          · exact hmin c (by omega)
    have codes : ∀ (k i : Nat), i + k = n → am_At Γ (d + 3) n_M_fair 30 [some (.inr (.inr (0, 41))), some (.inl x), some (.inl ((9 ^ i : Nat) : Int)), some (.inl (i : Int)), none, none, none] [] M (fun r M' => M' = M ∧ ((x ≠ -1 ∧ ¬ (0 ≤ x ∧ x < n) ∧ r = some (.inl (-2))) ∨ ((x = -1 ∨ (0 ≤ x ∧ x < n)) ∧ n = 0 ∧ r = some (.inl (-4))) ∨ ((x = -1 ∨ (0 ≤ x ∧ x < n)) ∧ 1 ≤ n ∧ ∃ found, fairR (aM M) n found ∧ r = some (.inl (if x = -1 then spF (aM M) n found else ((dgO n found x.toNat : Nat) : Int) + 1))))) := by
      intro k
      induction k with
      | zero =>
        intro i hi
        have : i = n := by omega
        subst this
        refine am_go 60 [30, 61] (by decide) ?_
        refine And.intro ⟨⟨(by first | omega | (dsimp only [am_own]; omega)), (by first | omega | (dsimp only [am_own]; omega))⟩, (show am_R (M.1 0 41 0) from ⟨(by first | omega | (dsimp only [am_own]; omega)), (by first | omega | (dsimp only [am_own]; omega))⟩)⟩ (And.intro (fun h2 => ?_) (fun h2 => ?_))
        · exfalso
          have h2 : (i : Int) < M.1 0 41 0 := h2
          omega
        refine am_by (c_M_spreadOf (d := d) (code := 0) hn hn6 ha (by omega)) (by omega) ?_
        rintro r M1 ⟨rfl, rfl⟩
        exact main (9 ^ i - 1) 1 0 none (by omega) (by omega) (by omega) (fun c hc => by rw [show c = 0 by omega]; exact Int.le_refl _) (fun c hc => absurd hc (Nat.not_lt_zero c))
      | succ k ih =>
        intro i hi
        refine am_go 60 [30, 61] (by decide) ?_
        refine And.intro ⟨⟨(by first | omega | (dsimp only [am_own]; omega)), (by first | omega | (dsimp only [am_own]; omega))⟩, (show am_R (M.1 0 41 0) from ⟨(by first | omega | (dsimp only [am_own]; omega)), (by first | omega | (dsimp only [am_own]; omega))⟩)⟩ (And.intro (fun h2 => ?_) (fun h2 => ?_))
        · have go := ih (i + 1) (by omega)
          rw [show (((9 ^ (i + 1) : Nat)) : Int) = ((9 ^ i : Nat) : Int) * 9 by rw [Nat.pow_succ]; push_cast; rfl] at go
          exact go
        · exfalso
          have h2 : ¬ (i : Int) < M.1 0 41 0 := h2
          omega
    refine am_go 60 [30] (by decide) ?_
    exact codes n 0 (by omega)
  refine am_ev_of (by decide) (am_le rfl) (am_go 60 [16] (by decide) ?_)
  have st16 : (x = -1 ∨ (0 ≤ x ∧ x < n)) → am_At Γ (d + 3) n_M_fair 16 [some (.inr (.inr (0, 41))), some (.inl x), none, none, none, none, none] [] M (fun r M' => M' = M ∧ ((x ≠ -1 ∧ ¬ (0 ≤ x ∧ x < n) ∧ r = some (.inl (-2))) ∨ ((x = -1 ∨ (0 ≤ x ∧ x < n)) ∧ n = 0 ∧ r = some (.inl (-4))) ∨ ((x = -1 ∨ (0 ≤ x ∧ x < n)) ∧ 1 ≤ n ∧ ∃ found, fairR (aM M) n found ∧ r = some (.inl (if x = -1 then spF (aM M) n found else ((dgO n found x.toNat : Nat) : Int) + 1))))) := by
    intro hx2
    refine am_go 60 [26] (by decide) ?_
    refine And.intro (show am_R (M.1 0 41 0) from ⟨(by first | omega | (dsimp only [am_own]; omega)), (by first | omega | (dsimp only [am_own]; omega))⟩) (And.intro (fun h2 => ?_) (fun h2 => ?_))
    · have h2 : M.1 0 41 0 = 0 := h2
      exact ⟨rfl, Or.inr (Or.inl ⟨hx2, by omega, rfl⟩)⟩
    · have h2 : ¬ M.1 0 41 0 = 0 := h2
      exact st26 hx2 (by omega)
  refine And.intro ⟨hx, ⟨(by first | omega | (dsimp only [am_own]; omega)), (by first | omega | (dsimp only [am_own]; omega))⟩⟩ (And.intro (fun h => st16 (Or.inl h)) (fun h => ?_))
  refine am_by (c_M_isPerson (d := d) x hx (by omega)) (by omega) ?_
  rintro r M1 ⟨rfl, rfl⟩
  rw [hn]
  by_cases qx : 0 ≤ x ∧ x < n
  · rw [if_pos qx]
    refine And.intro ⟨(by first | omega | (dsimp only [am_own]; omega)), (by first | omega | (dsimp only [am_own]; omega))⟩ (And.intro (fun h => absurd h (by decide)) (fun _ => ?_))
    exact st16 (Or.inr qx)
  · rw [if_neg qx]
    refine And.intro ⟨(by first | omega | (dsimp only [am_own]; omega)), (by first | omega | (dsimp only [am_own]; omega))⟩ (And.intro (fun _ => ?_) (fun h => absurd rfl h))
    exact ⟨rfl, Or.inl ⟨h, qx, rfl⟩⟩
theorem fair_ok {arm : Nat → Int} {n : Nat} (hn : 1 ≤ n) (ha : ∀ i, i < n → 0 ≤ arm i ∧ arm i ≤ 30) : ∃ l, (∃ j c, j < n ∧ 1 ≤ c ∧ c ≤ 9 ∧ l = c * arm j) ∧ okF arm n l := by
  obtain ⟨mo, fe, h1, h2, h3, h4, h5, h6, h7⟩ := spL_spec arm n 0 0 1000
  have db : ∀ i, i < n → (1 : Int) ≤ ((dgO n 0 i : Nat) + 1 : Int) ∧ ((dgO n 0 i : Nat) + 1 : Int) ≤ 9 := fun i hi => by
    have := dgO_lt n 0 i
    omega
  rcases h7 with h | ⟨i, hi, h⟩
  · exfalso
    have := h6 0 (by omega)
    have := ha 0 (by omega)
    have := mul_b (a := ((dgO n 0 0 : Nat) + 1 : Int)) (b := arm 0) (A := 9) (B := 30) (by have := db 0 (by omega); omega) (by omega)
    omega
  · refine ⟨fe, ⟨i, _, hi, (db i hi).1, (db i hi).2, h⟩, fun j hj => ?_⟩
    have := ctF_le (arm := arm j) (l := fe) (db j hj).1 (db j hj).2 (h6 j hj)
    omega
theorem P_fair {Γ : Am_G} {M : Am_M} {x : Int} (h : Rel M) (hx : am_R x) : Pair Γ 24 n_R_fair n_M_fair [.inl x] M := by
  obtain ⟨n, mt, hR⟩ := id h
  have b1 := hR.1.1
  have ha : ∀ i, i < n → 0 ≤ M.1 9 3 i ∧ M.1 9 3 i ≤ 30 := fun i hi => (hR.1.2.2.2.1 i hi).2.2.1
  have rel : ∀ M1, am_same fX M M1 → RelN M1 n mt := fun M1 hs => hR.fr (fun e p k hr => hs.2 e p k (by unfold relv at hr; unfold fX; omega))
  have armR : ∀ (M1 : Am_M), RelN M1 n mt → ∀ i, i < n → aM M1 i = M1.1 9 3 i := fun M1 h1 i hi => (h1.1.2.2.2.1 i hi).1.2.1.symm
  have ref : ∀ (M1 : Am_M) (v : Int), am_same fX M M1 → ((x ≠ -1 ∧ ¬ (0 ≤ x ∧ x < n) ∧ v = -2) ∨ ((x = -1 ∨ (0 ≤ x ∧ x < n)) ∧ n = 0 ∧ v = -4) ∨ ((x = -1 ∨ (0 ≤ x ∧ x < n)) ∧ 1 ≤ n ∧ ∃ l0, fairC (M.1 9 3) n l0 (fun l => ∃ j c, j < n ∧ 1 ≤ c ∧ c ≤ 9 ∧ l = c * M.1 9 3 j) ∧ v = if x = -1 then grF (M.1 9 3) l0 n - l0 else ctF (M.1 9 3 x.toNat) l0)) → Ans Γ 24 n_M_fair [.inl x] (some (.inl v)) M1 := by
    intro M1 v hs hv
    have hR1 := rel M1 hs
    have e3 : ∀ i, i < n → aM M1 i = M.1 9 3 i := fun i hi => (armR M1 hR1 i hi).trans (hs.2 9 3 i (by unfold fX; omega))
    refine ⟨v, rfl, am_mono (c_M_fair (d := 21) hx hR1.1.1.2.1 b1.2.2 (fun i hi => by rw [e3 i hi]; exact ha i hi)) (fun r M2 hz => ?_)⟩
    obtain ⟨rfl, hz⟩ := hz
    refine ⟨?_, n, mt, hR1⟩
    rcases hv with ⟨v1, v2, rfl⟩ | ⟨v1, v2, rfl⟩ | ⟨v1, v2, l0, v3, rfl⟩
    · rcases hz with ⟨z1, z2, rfl⟩ | ⟨z1, z2, rfl⟩ | ⟨z1, z2, f, z3, rfl⟩
      · rfl
      all_goals (exfalso; omega)
    · rcases hz with ⟨z1, z2, rfl⟩ | ⟨z1, z2, rfl⟩ | ⟨z1, z2, f, z3, rfl⟩
      · exfalso; omega
      · rfl
      · exfalso; omega
    · rcases hz with ⟨z1, z2, rfl⟩ | ⟨z1, z2, rfl⟩ | ⟨z1, z2, f, z3, rfl⟩
      · exfalso; omega
      · exfalso; omega
      · -- the arms are the same
        have spe : ∀ c, spF (aM M2) n c = spF (M.1 9 3) n c := by
          intro c
          unfold spF
          have : ∀ (k left : Nat) (mo fe : Int), k ≤ n → spL (aM M2) k left mo fe = spL (M.1 9 3) k left mo fe := by
            intro k
            induction k with
            | zero => intro left mo fe _; rfl
            | succ k ih =>
              intro left mo fe hk
              rw [spL, spL, e3 k (by omega)]
              exact ih _ _ _ (by omega)
          exact this n c 0 1000 (Nat.le_refl n)
        have z3' : fairR (M.1 9 3) n f := ⟨z3.1, fun c hc => by rw [← spe, ← spe]; exact z3.2.1 c hc, fun c hc => by rw [← spe, ← spe]; exact z3.2.2 c hc⟩
        obtain ⟨q1, q2⟩ := fair_eq v2 ha v3 z3'
        refine congrArg (fun z => some (Sum.inl z)) ?_
        by_cases q : x = -1
        · rw [if_pos q, if_pos q, spe, q1]
        · rw [if_neg q, if_neg q]
          exact q2 x.toNat (by omega)
  refine am_ev_of (by decide) (am_le rfl) (am_go 60 [16] (by decide) ?_)
  have st16 : (x = -1 ∨ (0 ≤ x ∧ x < n)) → am_At Γ 24 n_R_fair 16 [some (.inr (.inr (0, 11))), some (.inl x)] [] M (Ans Γ 24 n_M_fair [.inl x]) := by
    intro hx2
    refine am_go 60 [] (by decide) ?_
    refine And.intro (show am_R (M.1 9 1 4) from ⟨by omega, by omega⟩) (And.intro (fun h2 => ?_) (fun h2 => ?_))
    · have h2 : M.1 9 1 4 = 0 := h2
      exact ref M _ am_same.rf (Or.inr (Or.inl ⟨hx2, by omega, rfl⟩))
    have h2 : ¬ M.1 9 1 4 = 0 := h2
    refine am_by (c_seekFair (d := 10) b1.1 b1.2.2 ha) (by omega) ?_
    rintro r M1 ⟨rfl, hs, hS⟩
    rcases hS with ⟨s1, s2⟩ | ⟨s1, l0, s2, s3, s4, s5⟩
    · obtain ⟨l, hl, hok⟩ := fair_ok (arm := M.1 9 3) (n := n) (by omega) ha
      exact absurd hok (s2 l hl)
    refine And.intro ⟨hx, ⟨(by first | omega | (dsimp only [am_own]; omega)), (by first | omega | (dsimp only [am_own]; omega))⟩⟩ (And.intro (fun h3 => ?_) (fun h3 => ?_))
    · have h3 : x = -1 := h3
      exact ref M1 _ hs (Or.inr (Or.inr ⟨hx2, by omega, l0, s2, by rw [if_pos h3]; exact s3⟩))
    · have h3 : ¬ x = -1 := h3
      refine And.intro ⟨(by first | omega | (dsimp only [am_own]; omega)), (by first | omega | (dsimp only [am_own]; omega))⟩ ?_
      exact ref M1 _ hs (Or.inr (Or.inr ⟨hx2, by omega, l0, s2, by rw [if_neg h3]; exact s5 x.toNat (by omega)⟩))
  refine And.intro ⟨hx, ⟨(by first | omega | (dsimp only [am_own]; omega)), (by first | omega | (dsimp only [am_own]; omega))⟩⟩ (And.intro (fun h => st16 (Or.inl h)) (fun h0 => ?_))
  refine am_by (c_isPerson (d := 10) x hx ⟨by omega, by omega⟩) (by omega) ?_
  rintro r M0 ⟨rfl, rfl⟩
  rw [b1.1]
  by_cases qx : 0 ≤ x ∧ x < n
  · rw [if_pos qx]
    refine And.intro ⟨(by first | omega | (dsimp only [am_own]; omega)), (by first | omega | (dsimp only [am_own]; omega))⟩ (And.intro (fun h => absurd h (by decide)) (fun _ => ?_))
    exact st16 (Or.inr qx)
  · rw [if_neg qx]
    refine And.intro ⟨(by first | omega | (dsimp only [am_own]; omega)), (by first | omega | (dsimp only [am_own]; omega))⟩ (And.intro (fun _ => ?_) (fun h => absurd rfl h))
    exact ref _ _ am_same.rf (Or.inl ⟨h0, qx, rfl⟩)
