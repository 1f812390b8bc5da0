/-! fair: both -/
theorem fS.wk {M : Am_M} {arm : Nat → Int} {n : Nat} {S S' : Int → Prop} (h : fS M arm n S) (hs : ∀ l, S' l → S l) : fS M arm n S' := by
  rcases h with ⟨h1, h2⟩ | ⟨h1, l0, h2, h3⟩
  · exact Or.inl ⟨h1, fun l hl => h2 l (hs l hl)⟩
  · exact Or.inr ⟨h1, l0, ⟨h2.1, fun l hl => h2.2 l (hs l hl)⟩, h3⟩
def seenF (arm : Nat → Int) (n i : Nat) (c : Int) (l : Int) : Prop := ∃ j c', j < n ∧ 1 ≤ c' ∧ c' ≤ 9 ∧ l = c' * arm j ∧ (j < i ∨ (j = i ∧ c' < c))
theorem c_seekFair {Γ : Am_G} {d : Nat} {M : Am_M} {n : Nat} (hn : M.1 9 1 4 = n) (hn6 : n ≤ 6) (ha : ∀ i, i < n → 0 ≤ M.1 9 3 i ∧ M.1 9 3 i ≤ 30) : am_Ev Γ (d + 3) n_Foresight_seekFair [.inr (.inr (0, 34)), .inr (.inr (9, 1))] M (fun r M' => r = none ∧ am_same fX M M' ∧ fS M' (M.1 9 3) n (fun l => ∃ j c, j < n ∧ 1 ≤ c ∧ c ≤ 9 ∧ l = c * M.1 9 3 j)) := by
  have inner : ∀ (i : Nat), i < n → ∀ {K : Option Am_V → Am_M → Prop}, (∀ (z : Option Am_V) (M2 : Am_M), am_same fX M M2 → fS M2 (M.1 9 3) n (seenF (M.1 9 3) n (i + 1) 1) → am_At Γ (d + 3) n_Foresight_seekFair 7 [some (.inr (.inr (0, 34))), some (.inr (.inr (9, 1))), some (.inl ((i : Int) + 1)), z] [] M2 K) → ∀ (k : Nat) (c : Int) (M1 : Am_M), c + k = 10 → 1 ≤ c → am_same fX M M1 → fS M1 (M.1 9 3) n (seenF (M.1 9 3) n i c) → am_At Γ (d + 3) n_Foresight_seekFair 17 [some (.inr (.inr (0, 34))), some (.inr (.inr (9, 1))), some (.inl (i : Int)), some (.inl c)] [] M1 K := by
    intro i hin K hK k
    induction k with
    | zero =>
      intro c M1 hc h1 hs hS
      refine am_go 60 [7, 17] (by decide) ?_
      refine And.intro ⟨⟨(by first | omega | (dsimp only [am_own]; omega)), (by first | omega | (dsimp only [am_own]; omega))⟩, ⟨(by first | omega | (dsimp only [am_own]; omega)), (by first | omega | (dsimp only [am_own]; omega))⟩⟩ (And.intro (fun h => ?_) (fun h => ?_))
      · refine hK _ M1 hs (hS.wk (fun l hl => ?_))
        obtain ⟨j, c', a1, a2, a3, a4, a5⟩ := hl
        exact ⟨j, c', a1, a2, a3, a4, by omega⟩
      · exfalso; omega
    | succ k ih =>
      intro c M1 hc h1 hs hS
      have e3 : ∀ k, M1.1 9 3 k = M.1 9 3 k := fun k => hs.2 9 3 k (by unfold fX; omega)
      have e3f : M1.1 9 3 = M.1 9 3 := funext e3
      have e4 : M1.1 9 1 4 = n := (hs.2 9 1 4 (by unfold fX; omega)).trans hn
      refine am_go 60 [7, 17] (by decide) ?_
      refine And.intro ⟨⟨(by first | omega | (dsimp only [am_own]; omega)), (by first | omega | (dsimp only [am_own]; omega))⟩, ⟨(by first | omega | (dsimp only [am_own]; omega)), (by first | omega | (dsimp only [am_own]; omega))⟩⟩ (And.intro (fun h => ?_) (fun h => ?_))
      · exfalso; omega
      refine And.intro ⟨(by first | omega | (dsimp only [am_own]; omega)), (by first | omega | (dsimp only [am_own]; omega))⟩ ?_
      have hc2 := c_tryLeast (Γ := Γ) (d := d) (M := M1) (n := n) (l := c * M1.1 9 3 i) (Seen := seenF (M.1 9 3) n i c) e4 hn6 (fun j hj => by rw [e3]; exact ha j hj) ⟨i, c, hin, h1, by omega, rfl⟩ (by rw [e3f]; exact hS)
      refine am_by hc2 (by omega) ?_
      rintro r M2 ⟨rfl, hs2, hS2⟩
      refine ih (c + 1) M2 (by omega) (by omega) (hs.tr hs2) ?_
      rw [e3f] at hS2
      refine hS2.wk (fun l hl => ?_)
      obtain ⟨j, c', a1, a2, a3, a4, a5⟩ := hl
      by_cases q : j = i ∧ c' = c
      · obtain ⟨rfl, rfl⟩ := q
        exact Or.inr a4
      · exact Or.inl ⟨j, c', a1, a2, a3, a4, by omega⟩
  have outer : ∀ (k i : Nat) (z : Option Am_V) (M1 : Am_M), i + k = n → am_same fX M M1 → fS M1 (M.1 9 3) n (seenF (M.1 9 3) n i 1) → am_At Γ (d + 3) n_Foresight_seekFair 7 [some (.inr (.inr (0, 34))), some (.inr (.inr (9, 1))), some (.inl (i : Int)), z] [] M1 (fun r M' => r = none ∧ am_same fX M M' ∧ fS M' (M.1 9 3) n (fun l => ∃ j c, j < n ∧ 1 ≤ c ∧ c ≤ 9 ∧ l = c * M.1 9 3 j)) := by
    intro k
    induction k with
    | zero =>
      intro i z M1 hi hs hS
      have e4 : M1.1 9 1 4 = n := (hs.2 9 1 4 (by unfold fX; omega)).trans hn
      refine am_go 60 [7, 17] (by decide) ?_
      refine And.intro ⟨⟨(by first | omega | (dsimp only [am_own]; omega)), (by first | omega | (dsimp only [am_own]; omega))⟩, (show am_R (M1.1 9 1 4) from ⟨(by first | omega | (dsimp only [am_own]; omega)), (by first | omega | (dsimp only [am_own]; omega))⟩)⟩ (And.intro (fun h => ?_) (fun h => ⟨rfl, hs, hS.wk (fun l hl => ?_)⟩))
      · exfalso
        have h : (i : Int) < M1.1 9 1 4 := h
        omega
      · obtain ⟨j, c', a1, a2, a3, a4⟩ := hl
        exact ⟨j, c', a1, a2, a3, a4, by omega⟩
    | succ k ih =>
      intro i z M1 hi hs hS
      have e4 : M1.1 9 1 4 = n := (hs.2 9 1 4 (by unfold fX; omega)).trans hn
      refine am_go 60 [7, 17] (by decide) ?_
      refine And.intro ⟨⟨(by first | omega | (dsimp only [am_own]; omega)), (by first | omega | (dsimp only [am_own]; omega))⟩, (show am_R (M1.1 9 1 4) from ⟨(by first | omega | (dsimp only [am_own]; omega)), (by first | omega | (dsimp only [am_own]; omega))⟩)⟩ (And.intro (fun h => ?_) (fun h => ?_))
      · exact inner i (by omega) (fun z2 M2 hs2 hS2 => ih (i + 1) z2 M2 (by omega) hs2 hS2) 9 1 M1 (by omega) (by omega) hs hS
      · exfalso
        have h : ¬ (i : Int) < M1.1 9 1 4 := h
        omega
  refine am_ev_of (by decide) (am_le rfl) (am_go 60 [7] (by decide) ?_)
  refine And.intro (Or.inl rfl) ?_
  refine outer n 0 _ (am_set M 0 34 12 0) (by omega) (am_same.rf.set ⟨rfl, Or.inl rfl⟩) (Or.inl ⟨set_eq, fun l hl => ?_⟩)
  obtain ⟨j, c', a1, a2, a3, a4, a5⟩ := hl
  omega
/-- the reference's arms -/
def aM (M : Am_M) : Nat → Int := fun i => M.1 0 42 (i * 4 + 1)
theorem c_M_spreadOf {Γ : Am_G} {d : Nat} {M : Am_M} {n code : Nat} (hn : M.1 0 41 0 = n) (hn6 : n ≤ 6) (ha : ∀ i, i < n → 0 ≤ aM M i ∧ aM M i ≤ 30) (hc : code < 531441) : am_Ev Γ (d + 1) n_M_spreadOf [.inr (.inr (0, 41)), .inl (code : Int)] M (fun r M' => r = some (.inl (spF (aM M) n code)) ∧ M' = M) := by
  have loop : ∀ (k left : Nat) (mo fe : Int) (z : Option Am_V), k ≤ n → left < 531441 → (0 ≤ mo ∧ mo ≤ 270) → (0 ≤ fe ∧ fe ≤ 1000) → am_At Γ (d + 1) n_M_spreadOf 17 [some (.inr (.inr (0, 41))), some (.inl (code : Int)), some (.inl (left : Int)), some (.inl mo), some (.inl fe), some (.inl ((k : Int) - 1)), z] [] M (fun r M' => r = some (.inl (spL (aM M) k left mo fe)) ∧ M' = M) := by
    intro k
    induction k with
    | zero =>
      intro left mo fe z hk hl hmo hfe
      refine am_go 60 [17] (by decide) ?_
      refine And.intro ⟨by omega, by omega⟩ (And.intro (fun h => ⟨rfl, rfl⟩) (fun h => ?_))
      exfalso
      have h : ¬ (((0 : Nat) : Int) - 1 < 0) := h
      omega
    | succ k ih =>
      intro left mo fe z hk hl hmo hfe
      rw [show (((k + 1 : Nat)) : Int) - 1 = (k : Int) by omega, spL]
      have e1 : M.1 0 42 (4 * (k : Int) + 1).toNat = aM M k := congrArg (M.1 0 42) (by omega)
      have hak := ha k (by omega)
      have e9 : ((left : Int) % 9) = ((left % 9 : Nat) : Int) := by omega
      have e9d : ((left : Int) / 9) = ((left / 9 : Nat) : Int) := by omega
      have hvb := mul_b (a := ((left % 9 : Nat) : Int) + 1) (b := aM M k) (A := 9) (B := 30) (by omega) (by omega)
      have st47 : ∀ (v : Int), v = (((left % 9 : Nat) : Int) + 1) * aM M k → am_At Γ (d + 1) n_M_spreadOf 47 [some (.inr (.inr (0, 41))), some (.inl (code : Int)), some (.inl ((left / 9 : Nat) : Int)), some (.inl mo), some (.inl fe), some (.inl (k : Int)), some (.inl v)] [] M (fun r M' => r = some (.inl (spL (aM M) k (left / 9) (if mo < (((left % 9 : Nat) : Int) + 1) * aM M k then (((left % 9 : Nat) : Int) + 1) * aM M k else mo) (if (((left % 9 : Nat) : Int) + 1) * aM M k < fe then (((left % 9 : Nat) : Int) + 1) * aM M k else fe))) ∧ M' = M) := by
        intro v hv
        rw [← hv]
        rw [← hv] at hvb
        have st60 : ∀ (mo' : Int), mo' = (if mo < v then v else mo) → am_At Γ (d + 1) n_M_spreadOf 60 [some (.inr (.inr (0, 41))), some (.inl (code : Int)), some (.inl ((left / 9 : Nat) : Int)), some (.inl mo'), some (.inl fe), some (.inl (k : Int)), some (.inl v)] [] M (fun r M' => r = some (.inl (spL (aM M) k (left / 9) (if mo < v then v else mo) (if v < fe then v else fe))) ∧ M' = M) := by
          intro mo' hmo'
          rw [← hmo']
          have hb : 0 ≤ mo' ∧ mo' ≤ 270 := by rw [hmo']; split <;> omega
          have go := fun (fe' : Int) (hf : 0 ≤ fe' ∧ fe' ≤ 1000) => ih (left / 9) mo' fe' (some (.inl v)) (by omega) (by omega) hb hf
          refine am_go 60 [17] (by decide) ?_
          refine And.intro ⟨⟨(by first | omega | (dsimp only [am_own]; omega)), (by first | omega | (dsimp only [am_own]; omega))⟩, ⟨(by first | omega | (dsimp only [am_own]; omega)), (by first | omega | (dsimp only [am_own]; omega))⟩⟩ (And.intro (fun h => ?_) (fun h => ?_))
          · rw [if_pos h]
            exact go v (by omega)
          · rw [if_neg h]
            exact go fe hfe
        refine am_go 60 [60] (by decide) ?_
        refine And.intro ⟨⟨(by first | omega | (dsimp only [am_own]; omega)), (by first | omega | (dsimp only [am_own]; omega))⟩, ⟨(by first | omega | (dsimp only [am_own]; omega)), (by first | omega | (dsimp only [am_own]; omega))⟩⟩ (And.intro (fun h => ?_) (fun h => ?_))
        · exact st60 v (by rw [if_pos h])
        · exact st60 mo (by rw [if_neg h])
      refine am_go 60 [47] (by decide) ?_
      refine And.intro ⟨by omega, by omega⟩ (And.intro (fun h => ?_) (fun h => ?_))
      · exfalso
        have h : (k : Int) < 0 := h
        omega
      refine And.intro ⟨by omega, ⟨by omega, by omega⟩, by omega, ⟨by omega, by omega⟩⟩ ?_
      refine And.intro ⟨(by first | omega | (dsimp only [am_own]; omega)), (by first | omega | (dsimp only [am_own]; omega))⟩ ?_
      refine And.intro ⟨by omega, ⟨by omega, by omega⟩, by omega, ⟨by omega, by omega⟩⟩ ?_
      have go := st47 (((left : Int) % 9 + 1) * M.1 0 42 (4 * (k : Int) + 1).toNat) (by rw [e1, e9])
      rw [← e9d] at go
      exact go
  refine am_ev_of (by decide) (am_le rfl) (am_go 60 [17] (by decide) ?_)
  have go := loop n code 0 1000 none (Nat.le_refl n) hc (by omega) (by omega)
  rw [← hn] at go
  exact go
theorem spF_b {arm : Nat → Int} {n code : Nat} (hn : 1 ≤ n) (ha : ∀ i, i < n → 0 ≤ arm i ∧ arm i ≤ 30) : 0 ≤ spF arm n code ∧ spF arm n code ≤ 270 := by
  obtain ⟨mo, fe, h1, h2, h3, h4, h5, h6, h7⟩ := spL_spec arm n code 0 1000
  have vb : ∀ i, i < n → 0 ≤ ((dgO n code i : Nat) + 1 : Int) * arm i ∧ ((dgO n code i : Nat) + 1 : Int) * arm i ≤ 270 := fun i hi => by
    have := ha i hi
    have := dgO_lt n code i
    have := mul_b (a := ((dgO n code i : Nat) + 1 : Int)) (b := arm i) (A := 9) (B := 30) (by omega) (by omega)
    omega
  have a0 := h3 0 (by omega)
  have b0 := h6 0 (by omega)
  have hmo : mo ≤ 270 := by
    rcases h4 with h | ⟨i, hi, h⟩
    · omega
    · have := vb i hi; omega
  have hfe : 0 ≤ fe := by
    rcases h7 with h | ⟨i, hi, h⟩
    · omega
    · have := vb i hi; omega
  unfold spF
  omega
