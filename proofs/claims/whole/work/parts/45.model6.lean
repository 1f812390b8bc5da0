/-! the reference: putNext -/
theorem vt_go_b {n : Nat} {need : Int} {w fr kd ct lf : Nat → Int} (hct : ∀ j, j < n → 1 ≤ ct j ∧ ct j ≤ 9) (hn : n ≤ 6) : ∀ (k : Nat) (sec : Int) (held up : Nat → Int) (f a set : Int), (∀ j, j < n → 0 ≤ held j ∧ held j ≤ w j) → (0 ≤ f ∧ f ≤ (sec - 1) * 54) → (0 ≤ a ∧ a ≤ (sec - 1) * 54) → (∀ j, j < n → 0 ≤ (vt_go n need w fr kd ct lf k sec held up f a set).1 j ∧ (vt_go n need w fr kd ct lf k sec held up f a set).1 j ≤ w j) ∧ (0 ≤ (vt_go n need w fr kd ct lf k sec held up f a set).2.1 ∧ (vt_go n need w fr kd ct lf k sec held up f a set).2.1 ≤ (sec - 1 + k) * 54) ∧ (0 ≤ (vt_go n need w fr kd ct lf k sec held up f a set).2.2.1 ∧ (vt_go n need w fr kd ct lf k sec held up f a set).2.2.1 ≤ (sec - 1 + k) * 54) ∧ (sec - 1 ≤ (vt_go n need w fr kd ct lf k sec held up f a set).2.2.2.1 ∧ (vt_go n need w fr kd ct lf k sec held up f a set).2.2.2.1 ≤ sec - 1 + k) ∧ ((vt_go n need w fr kd ct lf k sec held up f a set).2.2.2.2 = set ∨ (sec ≤ (vt_go n need w fr kd ct lf k sec held up f a set).2.2.2.2 ∧ (vt_go n need w fr kd ct lf k sec held up f a set).2.2.2.2 ≤ sec - 1 + k)) := by
  intro k
  induction k with
  | zero =>
    intro sec held up f a set h1 h2 h3
    exact ⟨h1, by simpa [vt_go] using h2, by simpa [vt_go] using h3, by simp [vt_go], Or.inl rfl⟩
  | succ k ih =>
    intro sec held up f a set h1 h2 h3
    obtain ⟨set', hset'⟩ : ∃ set' : Int, set' = if set = -1 ∧ vt_setI need f a up fr ct lf held n = 1 then sec else set := ⟨_, rfl⟩
    have hgo : vt_go n need w fr kd ct lf (k + 1) sec held up f a set = if vt_some (vt_up set' w kd held up) n = 1 then vt_go n need w fr kd ct lf k (sec + 1) (fun i => held i + vt_up set' w kd held up i) (vt_up set' w kd held up) (f + vt_add 1 (vt_up set' w kd held up) fr ct n) (a + vt_add 0 (vt_up set' w kd held up) fr ct n) set' else (held, f, a, sec - 1, set') := by
      rw [hset']; rfl
    have hs' : set' = set ∨ set' = sec := by rw [hset']; split <;> simp
    rw [hgo]
    by_cases q : vt_some (vt_up set' w kd held up) n = 1
    · rw [if_pos q]
      have hab : ∀ b, 0 ≤ vt_add b (vt_up set' w kd held up) fr ct n ∧ vt_add b (vt_up set' w kd held up) fr ct n ≤ n * 9 := fun b => vt_add_b hct
      have hab1 := hab 1
      have hab0 := hab 0
      obtain ⟨g1, g2, g3, g4, g5⟩ := ih (sec + 1) (fun i => held i + vt_up set' w kd held up i) (vt_up set' w kd held up) (f + vt_add 1 (vt_up set' w kd held up) fr ct n) (a + vt_add 0 (vt_up set' w kd held up) fr ct n) set' (fun j hj => by
        have hd : vt_up set' w kd held up j = if up j = 1 ∧ held j < w j ∧ ¬ (set' ≠ -1 ∧ kd j = 1) then 1 else 0 := rfl
        have := h1 j hj
        rw [hd]
        split <;> omega) (by omega) (by omega)
      refine ⟨g1, ?_, ?_, ?_, ?_⟩
      · push_cast at g2 ⊢; omega
      · push_cast at g3 ⊢; omega
      · push_cast at g4 ⊢; omega
      · push_cast at g5 ⊢
        rcases g5 with g5 | g5
        · rcases hs' with z | z
          · exact Or.inl (g5.trans z)
          · right; rw [g5, z]; omega
        · right; omega
    · rw [if_neg q]
      refine ⟨h1, ?_, ?_, ?_, ?_⟩
      · dsimp only; push_cast; omega
      · dsimp only; push_cast; omega
      · dsimp only; push_cast; omega
      · dsimp only
        rcases hs' with z | z
        · exact Or.inl z
        · right; rw [z]; push_cast; omega
theorem vtM_b {M : Am_M} {n mt m : Nat} (hM : wfM M n mt) (hm : m < mt) : (∀ j, j < n → 0 ≤ (vtM M n m).1 j ∧ (vtM M n m).1 j ≤ mwant M m j) ∧ (0 ≤ (vtM M n m).2.1 ∧ (vtM M n m).2.1 ≤ 5400) ∧ (0 ≤ (vtM M n m).2.2.1 ∧ (vtM M n m).2.2.1 ≤ 5400) ∧ (0 ≤ (vtM M n m).2.2.2.1 ∧ (vtM M n m).2.2.2.1 ≤ 100) ∧ -1 ≤ (vtM M n m).2.2.2.2 ∧ (vtM M n m).2.2.2.2 ≤ 100 := by
  obtain ⟨g1, g2, g3, g4, g5⟩ := vt_go_b (n := n) (need := M.1 0 43 m) (w := mwant M m) (fr := mfor M m) (kd := mkd M) (ct := mct M) (lf := mlf M) (fun j hj => (hM.2.2.1 j hj).2.2.2.1) hM.1.2.1 100 1 (fun _ => 0) (fun i => if 0 < mwant M m i then 1 else 0) 0 0 (-1) (fun j hj => ⟨Int.le_refl 0, (mwant_b hM hj hm).1⟩) (by omega) (by omega)
  exact ⟨g1, g2, g3, g4, by unfold vtM; omega, by unfold vtM; omega⟩
theorem c_M_putNext {Γ : Am_G} {d : Nat} {M : Am_M} {n mt pu m : Nat} (hM : wfM M n mt) (hp : M.1 0 47 0 = pu) (hpu : pu < mt) (hmo : M.1 0 47 (1 + pu) = m) : am_Ev Γ (d + 4) n_M_putNext [.inr (.inr (0, 41))] M (fun r M' => r = some (.inl (vt_carI (M.1 0 43 m) (vtM M n m).2.1 (vtM M n m).2.2.1)) ∧ ∃ M2, pnI M m n n (vtM M n m) M2 ∧ M' = am_set M2 0 47 0 (M.1 0 47 0 + 1)) := by
  obtain ⟨⟨n1, n2, n3, n4⟩, n5, n6, n7, n8, n9, n10, n11⟩ := id hM
  have hm : m < mt := by have := n9 pu hpu; omega
  obtain ⟨b1, b2, b3, b4, b5, b6⟩ := vtM_b hM hm
  have hnd := n7 m hm
  have x0 : M.1 0 47 (1 + M.1 0 47 0).toNat = m := by rw [hp, show (1 + (pu : Int)).toNat = 1 + pu by omega]; exact hmo
  have p0 := mul_b (a := M.1 0 43 m) (b := (vtM M n m).2.1 + (vtM M n m).2.2.1) (A := 9) (B := 40000) (by omega) (by omega)
  refine am_ev_of (by decide) (am_le rfl) (am_go 60 [14] (by decide) ?_)
  refine And.intro ⟨(by first | omega | (dsimp only [am_own]; omega)), (by first | omega | (dsimp only [am_own]; omega))⟩ ?_
  refine And.intro (show 0 ≤ 1 + M.1 0 47 0 ∧ 1 + M.1 0 47 0 < 92 from ⟨(by first | omega | (dsimp only [am_own]; omega)), (by first | omega | (dsimp only [am_own]; omega))⟩) ?_
  have st14 : am_At Γ (d + 4) n_M_putNext 14 [some (.inr (.inr (0, 41))), some (.inl (m : Int)), none, none, none, none] [] M (fun r M' => r = some (.inl (vt_carI (M.1 0 43 m) (vtM M n m).2.1 (vtM M n m).2.2.1)) ∧ ∃ M2, pnI M m n n (vtM M n m) M2 ∧ M' = am_set M2 0 47 0 (M.1 0 47 0 + 1)) := by
    generalize hR : vtM M n m = R at *
    have c01 := vt_carI_01 (M.1 0 43 m) R.2.1 R.2.2.1
    refine am_go 60 [87] (by decide) ?_
    refine am_by (c_M_layVote (d := d) (m : Int) hM hm rfl) (by omega) ?_
    rintro r M1 ⟨rfl, l1, ⟨l2, l3, l4⟩, l5⟩
    rw [hR] at l2 l3 l4 l5 ⊢
    have e43 : M1.1 0 43 m = M.1 0 43 m := l1.2.1 0 43 m (by omega) (by omega)
    have hc := c_M_isCarried (Γ := Γ) (d := d) (M := M1) (m := m) (m : Int) R.2.1 R.2.2.1 rfl (by omega) ⟨by omega, by omega⟩ (by rw [e43]; exact ⟨by omega, by omega⟩)
    rw [e43, ← l2, ← l3] at hc
    refine am_by hc (by omega) ?_
    rintro r M2 ⟨rfl, rfl⟩
    rw [l2, l3]
    have x42 : (42 + 4 * (m : Int)).toNat = 42 + (m * 4 + 0) := by omega
    have x43 : (42 + 4 * (m : Int) + 1).toNat = 42 + (m * 4 + 1) := by omega
    have x44 : (42 + 4 * (m : Int) + 2).toNat = 42 + (m * 4 + 2) := by omega
    have x45 : (42 + 4 * (m : Int) + 3).toNat = 42 + (m * 4 + 3) := by omega
    have go87 : ∀ (v : Int) (M5 : Am_M), v = vt_carI (M.1 0 43 m) R.2.1 R.2.2.1 → M5 = am_set (am_set M2 0 47 (42 + (m * 4 + 0)) R.2.1) 0 47 (42 + (m * 4 + 1)) R.2.2.1 → am_At Γ (d + 4) n_M_putNext 87 [some (.inr (.inr (0, 41))), some (.inl (m : Int)), some (.inl R.2.2.2.1), some (.inl (vt_carI (M.1 0 43 m) R.2.1 R.2.2.1)), none, none] [.inl v, .inl (42 + 4 * (m : Int) + 2), .inr (.inr (0, 47))] M5 (fun r M' => r = some (.inl (vt_carI (M.1 0 43 m) R.2.1 R.2.2.1)) ∧ ∃ M2, pnI M m n n R M2 ∧ M' = am_set M2 0 47 0 (M.1 0 47 0 + 1)) := by
      intro v M5 hv hM5
      subst hv
      subst hM5
      refine am_go 60 [105] (by decide) ?_
      refine And.intro ⟨(by first | omega | (dsimp only [am_own]; omega)), (by first | omega | (dsimp only [am_own]; omega))⟩ ?_
      refine And.intro ⟨(by first | omega | (dsimp only [am_own]; omega)), (by first | omega | (dsimp only [am_own]; omega))⟩ ?_
      rw [x44, x45]
      refine c_M_putNext_loop (d := d) hM hm R (fun j hj => ?_) R.2.2.2.1 (vt_carI (M.1 0 43 m) R.2.1 R.2.2.1) (fun z M3 hI => ?_) n 0 _ (am_set (am_set (am_set (am_set M2 0 47 (42 + (m * 4 + 0)) R.2.1) 0 47 (42 + (m * 4 + 1)) R.2.2.1) 0 47 (42 + (m * 4 + 2)) (vt_carI (M.1 0 43 m) R.2.1 R.2.2.1)) 0 47 (42 + (m * 4 + 3)) R.2.2.2.1) (by omega) ?_
      · have h1 := b1 j hj
        have h2 := mwant_b hM hj hm
        omega
      · refine am_go 60 [] (by decide) ?_
        refine And.intro ⟨(by first | omega | (dsimp only [am_own]; omega)), (by first | omega | (dsimp only [am_own]; omega))⟩ ?_
        refine And.intro ⟨(by first | omega | (dsimp only [am_own]; omega)), (by first | omega | (dsimp only [am_own]; omega))⟩ ?_
        refine And.intro c01 ⟨rfl, M3, hI, ?_⟩
        have : M3.1 0 47 0 = M.1 0 47 0 := hI.2.2.2.1 0 (by omega)
        rw [← this]
        rfl
      · have l47 : ∀ k, M2.1 0 47 k = M.1 0 47 k := fun k => l1.2.1 0 47 k (by omega) (by omega)
        refine ⟨l1.p.setN.setN.setN.setN, ⟨?_, ?_, ?_⟩, fun j hj => ?_, fun k hk => ?_, fun j hj => absurd hj (by omega), fun j _ hj6 => ?_, fun k h1 h2 => ?_, ⟨?_, ?_, ?_, ?_⟩, fun k h1 h2 => ?_, fun j hj => absurd hj (by omega), fun k h1 _ => ?_⟩
        · rw [set_p (by decide), set_p (by decide), set_p (by decide), set_p (by decide)]; exact l2
        · rw [set_p (by decide), set_p (by decide), set_p (by decide), set_p (by decide)]; exact l3
        · rw [set_p (by decide), set_p (by decide), set_p (by decide), set_p (by decide)]; exact l4
        · rw [set_p (by decide), set_p (by decide), set_p (by decide), set_p (by decide)]; exact l5 j hj
        · rw [set_k (by omega), set_k (by omega), set_k (by omega), set_k (by omega)]; exact l47 k
        · rw [set_k (by omega), set_k (by omega), set_k (by omega), set_k (by omega)]; exact l47 _
        · rw [set_k (by omega), set_k (by omega), set_k (by omega), set_k (by omega)]; exact l47 _
        · rw [set_k (by omega), set_k (by omega), set_k (by omega)]; exact set_eq
        · rw [set_k (by omega), set_k (by omega)]; exact set_eq
        · rw [set_k (by omega)]; exact set_eq
        · exact set_eq
        · rw [set_k (by omega), set_k (by omega), set_k (by omega), set_k (by omega)]; exact l47 _
        · rw [set_k (by omega), set_k (by omega), set_k (by omega), set_k (by omega)]; exact l47 _
    refine And.intro ⟨(by first | omega | (dsimp only [am_own]; omega)), (by first | omega | (dsimp only [am_own]; omega))⟩ ?_
    refine And.intro ⟨(by first | omega | (dsimp only [am_own]; omega)), (by first | omega | (dsimp only [am_own]; omega))⟩ ?_
    refine And.intro ⟨(by first | omega | (dsimp only [am_own]; omega)), (by first | omega | (dsimp only [am_own]; omega))⟩ (And.intro (fun h4 => ?_) (fun h4 => ?_))
    · exact go87 0 _ (by omega) (show am_set (am_set M2 0 47 (42 + 4 * (m : Int)).toNat (M2.1 0 41 24)) 0 47 (42 + 4 * (m : Int) + 1).toNat ((am_set M2 0 47 (42 + 4 * (m : Int)).toNat (M2.1 0 41 24)).1 0 41 25) = _ by rw [x42, x43, set_p (by decide), l2, l3])
    · exact go87 1 _ (by omega) (show am_set (am_set M2 0 47 (42 + 4 * (m : Int)).toNat (M2.1 0 41 24)) 0 47 (42 + 4 * (m : Int) + 1).toNat ((am_set M2 0 47 (42 + 4 * (m : Int)).toNat (M2.1 0 41 24)).1 0 41 25) = _ by rw [x42, x43, set_p (by decide), l2, l3])
  rw [← x0] at st14
  exact st14
