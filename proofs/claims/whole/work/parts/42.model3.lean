/-! the reference: layVote -/
def msame (M M1 : Am_M) : Prop := M1.2 = M.2 ∧ (∀ e p k, p ≠ 41 → ¬ (52 ≤ p ∧ p ≤ 54) → M1.1 e p k = M.1 e p k) ∧ (∀ k, k ≠ 24 → k ≠ 25 → k ≠ 26 → M1.1 0 41 k = M.1 0 41 k)
theorem msame.rf {M : Am_M} : msame M M := ⟨rfl, fun _ _ _ _ _ => rfl, fun _ _ _ _ => rfl⟩
theorem msame.tr {M M1 M2 : Am_M} (h : msame M M1) (h' : msame M1 M2) : msame M M2 := ⟨h'.1.trans h.1, fun e p k a b => (h'.2.1 e p k a b).trans (h.2.1 e p k a b), fun k a b c => (h'.2.2 k a b c).trans (h.2.2 k a b c)⟩
theorem msame.setV {M M1 : Am_M} {e p k : Nat} {v : Int} (h : msame M M1) (hp : 52 ≤ p ∧ p ≤ 54) : msame M (am_set M1 e p k v) := ⟨h.1, fun e' p' k' a b => by rw [set_p (by omega)]; exact h.2.1 e' p' k' a b, fun k' a b c => by rw [set_p (by omega)]; exact h.2.2 k' a b c⟩
theorem msame.setF {M M1 : Am_M} {k : Nat} {v : Int} (h : msame M M1) (hk : k = 24 ∨ k = 25 ∨ k = 26) : msame M (am_set M1 0 41 k v) := ⟨h.1, fun e' p' k' a b => by rw [set_p (by omega)]; exact h.2.1 e' p' k' a b, fun k' a b c => by rw [set_k (by omega)]; exact h.2.2 k' a b c⟩
theorem wfM.same {M M1 : Am_M} {n mt : Nat} (h : wfM M n mt) (hs : msame M M1) : wfM M1 n mt := by
  have g : ∀ p k, 42 ≤ p → p ≤ 47 → M1.1 0 p k = M.1 0 p k := fun p k h h' => hs.2.1 0 p k (by omega) (by omega)
  have f : ∀ k, k ≠ 24 → k ≠ 25 → k ≠ 26 → M1.1 0 41 k = M.1 0 41 k := hs.2.2
  obtain ⟨⟨n1, n2, n3, n4⟩, n5, n6, n7, n8, n9, n10, n11⟩ := h
  refine ⟨⟨by rw [f 0 (by omega) (by omega) (by omega)]; exact n1, n2, by rw [f 2 (by omega) (by omega) (by omega)]; exact n3, n4⟩, by rw [f 5 (by omega) (by omega) (by omega)]; exact n5, fun i hi => ?_, fun m hm => ?_, fun i m hi hm => ?_, fun k hk => ?_, by rw [f 30 (by omega) (by omega) (by omega)]; exact n10, by rw [f 31 (by omega) (by omega) (by omega)]; exact n11⟩
  · rw [g 42 _ (by omega) (by omega), g 42 _ (by omega) (by omega), g 42 _ (by omega) (by omega), g 42 _ (by omega) (by omega), g 47 _ (by omega) (by omega)]
    exact n6 i hi
  · rw [g 43 _ (by omega) (by omega)]; exact n7 m hm
  · rw [g 44 _ (by omega) (by omega), g 47 _ (by omega) (by omega)]; exact n8 i m hi hm
  · rw [g 47 _ (by omega) (by omega)]; exact n9 k hk
theorem mkd.same {M M1 : Am_M} {i : Nat} (hs : msame M M1) : mkd M1 i = mkd M i := by
  unfold mkd
  rw [hs.2.2 30 (by omega) (by omega) (by omega), hs.2.1 0 42 _ (by omega) (by omega)]
theorem mwant.same {M M1 : Am_M} {m i : Nat} (hs : msame M M1) : mwant M1 m i = mwant M m i := by
  unfold mwant
  rw [mkd.same hs, hs.2.2 5 (by omega) (by omega) (by omega), hs.2.1 0 44 _ (by omega) (by omega), hs.2.1 0 47 _ (by omega) (by omega), hs.2.1 0 47 _ (by omega) (by omega)]
theorem mfor.same {M M1 : Am_M} {m : Nat} (hs : msame M M1) : mfor M1 m = mfor M m := by
  funext i
  unfold mfor
  rw [hs.2.1 0 44 _ (by omega) (by omega)]
theorem mct.same {M M1 : Am_M} (hs : msame M M1) : mct M1 = mct M := by
  funext i
  unfold mct
  rw [hs.2.1 0 42 _ (by omega) (by omega)]
theorem mlf.same {M M1 : Am_M} (hs : msame M M1) : mlf M1 = mlf M := by
  funext i
  unfold mlf
  rw [hs.2.1 0 47 _ (by omega) (by omega)]
/-- the first loop -/
def lvI (M : Am_M) (m i : Nat) (M1 : Am_M) : Prop := msame M M1 ∧ (M1.1 0 41 24 = 0 ∧ M1.1 0 41 25 = 0 ∧ M1.1 0 41 26 = -1) ∧ ∀ j, j < i → M1.1 0 52 j = mwant M m j ∧ M1.1 0 53 j = 0 ∧ M1.1 0 54 j = (if 0 < mwant M m j then 1 else 0)
theorem c_M_lay_loop1 {Γ : Am_G} {d : Nat} {M : Am_M} {n mt m : Nat} {K : Option Am_V → Am_M → Prop} (hM : wfM M n mt) (hm : m < mt) (hK : ∀ M1, lvI M m n M1 → am_At Γ (d + 3) n_M_layVote 70 [some (.inr (.inr (0, 41))), some (.inl (m : Int)), some (.inl (n : Int)), none, none, none, none] [] M1 K) : ∀ (k i : Nat) (M1 : Am_M), i + k = n → lvI M m i M1 → am_At Γ (d + 3) n_M_layVote 17 [some (.inr (.inr (0, 41))), some (.inl (m : Int)), some (.inl (i : Int)), none, none, none, none] [] M1 K := by
  intro k
  obtain ⟨⟨n1, n2, n3, n4⟩, n5, n6, n7, n8, n9, n10, n11⟩ := id hM
  induction k with
  | zero =>
    intro i M1 hi hI
    have : i = n := by omega
    subst this
    have hn : M1.1 0 41 0 = i := (hI.1.2.2 0 (by omega) (by omega) (by omega)).trans n1
    refine am_go 60 [17, 70] (by decide) ?_
    refine And.intro ⟨⟨(by first | omega | (dsimp only [am_own]; omega)), (by first | omega | (dsimp only [am_own]; omega))⟩, (show am_R (M1.1 0 41 0) from ⟨(by first | omega | (dsimp only [am_own]; omega)), (by first | omega | (dsimp only [am_own]; omega))⟩)⟩ (And.intro (fun h => ?_) (fun h => ?_))
    · exfalso
      have h : (i : Int) < M1.1 0 41 0 := h
      omega
    · exact hK M1 hI
  | succ k ih =>
    intro i M1 hi hI
    have hn : M1.1 0 41 0 = n := (hI.1.2.2 0 (by omega) (by omega) (by omega)).trans n1
    have hM1 := hM.same hI.1
    have hw := mwant_b hM (i := i) (by omega) hm
    have hlf := (n6 i (by omega)).2.2.2.2
    have hw1 : mwant M1 m i = mwant M m i := mwant.same hI.1
    obtain ⟨i1, ⟨i2, i3, i4⟩, i5⟩ := id hI
    refine am_go 60 [17, 63, 70] (by decide) ?_
    refine And.intro ⟨⟨(by first | omega | (dsimp only [am_own]; omega)), (by first | omega | (dsimp only [am_own]; omega))⟩, (show am_R (M1.1 0 41 0) from ⟨(by first | omega | (dsimp only [am_own]; omega)), (by first | omega | (dsimp only [am_own]; omega))⟩)⟩ (And.intro (fun h => ?_) (fun h => ?_))
    · refine am_by (c_M_wantOf (d := d) (i := i) (m : Int) hM1 (by omega) hm rfl) (by omega) ?_
      rintro r M2 ⟨rfl, rfl⟩
      rw [hw1]
      refine And.intro ⟨(by first | omega | (dsimp only [am_own]; omega)), (by first | omega | (dsimp only [am_own]; omega))⟩ ?_
      refine And.intro ⟨(by first | omega | (dsimp only [am_own]; omega)), (by first | omega | (dsimp only [am_own]; omega))⟩ ?_
      refine And.intro ⟨(by first | omega | (dsimp only [am_own]; omega)), (by first | omega | (dsimp only [am_own]; omega))⟩ ?_
      have hx : (am_set (am_set M2 0 52 i (mwant M m i)) 0 53 i 0).1 0 52 i = mwant M m i := by rw [set_p (by decide)]; exact set_eq
      have go63 : ∀ b : Int, (b = if 0 < mwant M m i then 1 else 0) → am_At Γ (d + 3) n_M_layVote 63 [some (.inr (.inr (0, 41))), some (.inl (m : Int)), some (.inl (i : Int)), none, none, none, none] [.inl b, .inl (i : Int), .inr (.inr (0, 54))] (am_set (am_set M2 0 52 i (mwant M m i)) 0 53 i 0) K := by
        intro b hb
        refine am_go 60 [17] (by decide) ?_
        refine And.intro ⟨⟨(by first | omega | (dsimp only [am_own]; omega)), (by first | omega | (dsimp only [am_own]; omega))⟩, by rw [hb]; split <;> omega⟩ ?_
        refine ih (i + 1) (am_set (am_set (am_set M2 0 52 i (mwant M m i)) 0 53 i 0) 0 54 i b) (by omega) ⟨((i1.setV (by omega)).setV (by omega)).setV (by omega), ⟨?_, ?_, ?_⟩, fun j hj => ?_⟩
        · rw [set_p (by decide), set_p (by decide), set_p (by decide)]; exact i2
        · rw [set_p (by decide), set_p (by decide), set_p (by decide)]; exact i3
        · rw [set_p (by decide), set_p (by decide), set_p (by decide)]; exact i4
        · by_cases hji : j = i
          · subst hji
            refine ⟨?_, ?_, ?_⟩
            · rw [set_p (by decide), set_p (by decide)]; exact set_eq
            · rw [set_p (by decide)]; exact set_eq
            · rw [set_eq]; exact hb
          · have := i5 j (by omega)
            rw [set_k hji, set_k hji, set_k hji, set_k hji, set_k hji, set_k hji, set_k hji, set_k hji, set_k hji]
            exact this
      refine And.intro (am_Re hx ⟨(by first | omega | (dsimp only [am_own]; omega)), (by first | omega | (dsimp only [am_own]; omega))⟩) (And.intro (fun h3 => ?_) (fun h3 => ?_))
      · have h3 : 0 < (am_set (am_set M2 0 52 i (mwant M m i)) 0 53 i 0).1 0 52 i := h3
        rw [hx] at h3
        exact go63 1 (by rw [if_pos h3])
      · have h3 : ¬ 0 < (am_set (am_set M2 0 52 i (mwant M m i)) 0 53 i 0).1 0 52 i := h3
        rw [hx] at h3
        exact go63 0 (by rw [if_neg h3])
    · exfalso
      have h : ¬ (i : Int) < M1.1 0 41 0 := h
      omega
/-- the inner loop -/
def ilI (M : Am_M) (m n i : Nat) (wc wn held up u : Nat → Int) (f a set' : Int) (M2 : Am_M) : Prop := msame M M2 ∧ (M2.1 0 41 24 = f + vt_add 1 u (mfor M m) (mct M) i ∧ M2.1 0 41 25 = a + vt_add 0 u (mfor M m) (mct M) i ∧ M2.1 0 41 26 = set') ∧ (∀ j, j < i → M2.1 0 52 j = wn j ∧ M2.1 0 53 j = held j + u j ∧ M2.1 0 54 j = u j) ∧ (∀ j, i ≤ j → j < n → M2.1 0 52 j = wc j ∧ M2.1 0 53 j = held j ∧ M2.1 0 54 j = up j)
theorem c_M_lay_loop2 {Γ : Am_G} {d : Nat} {M : Am_M} {n mt m : Nat} {K : Option Am_V → Am_M → Prop} (hM : wfM M n mt) (hm : m < mt) (sec s : Int) (wc wn held up u : Nat → Int) (f a set' : Int) (hs : s = 0 ∨ s = 1) (hwn : ∀ j, j < n → wn j = if s = 1 ∧ mkd M j = 1 then held j else wc j) (hu : ∀ j, j < n → u j = if held j < wn j then 1 else 0) (hne : ∀ j, j < n → u j = 1 → M.1 0 44 (j * 5 + m) ≠ 0) (hbd : ∀ j, j < n → (0 ≤ held j ∧ held j ≤ 99) ∧ (0 ≤ wc j ∧ wc j ≤ 99) ∧ (up j = 0 ∨ up j = 1)) (hK : ∀ z M2, ilI M m n n wc wn held up u f a set' M2 → am_At Γ (d + 3) n_M_layVote 74 [some (.inr (.inr (0, 41))), some (.inl (m : Int)), some (.inl sec), some (.inl (vt_some u n)), some (.inl s), some (.inl (n : Int)), z] [] M2 K) : ∀ (k i : Nat) (z : Option Am_V) (M2 : Am_M), i + k = n → ilI M m n i wc wn held up u f a set' M2 → am_At Γ (d + 3) n_M_layVote 118 [some (.inr (.inr (0, 41))), some (.inl (m : Int)), some (.inl sec), some (.inl (vt_some u i)), some (.inl s), some (.inl (i : Int)), z] [] M2 K := by
  intro k
  obtain ⟨⟨n1, n2, n3, n4⟩, n5, n6, n7, n8, n9, n10, n11⟩ := id hM
  induction k with
  | zero =>
    intro i z M2 hi hI
    have : i = n := by omega
    subst this
    have hn : M2.1 0 41 0 = i := (hI.1.2.2 0 (by omega) (by omega) (by omega)).trans n1
    refine am_go 60 [118, 74] (by decide) ?_
    refine And.intro ⟨⟨(by first | omega | (dsimp only [am_own]; omega)), (by first | omega | (dsimp only [am_own]; omega))⟩, (show am_R (M2.1 0 41 0) from ⟨(by first | omega | (dsimp only [am_own]; omega)), (by first | omega | (dsimp only [am_own]; omega))⟩)⟩ (And.intro (fun h => ?_) (fun h => ?_))
    · exfalso
      have h : (i : Int) < M2.1 0 41 0 := h
      omega
    · exact hK z M2 hI
  | succ k ih =>
    intro i z M2 hi hI
    have hn : M2.1 0 41 0 = n := (hI.1.2.2 0 (by omega) (by omega) (by omega)).trans n1
    obtain ⟨i1, ⟨i2, i3, i4⟩, i5, i6⟩ := id hI
    obtain ⟨c1, c2, c3⟩ := i6 i (by omega) (by omega)
    obtain ⟨b1, b2, b3⟩ := hbd i (by omega)
    have hwni := hwn i (by omega)
    have hui := hu i (by omega)
    have u01 : u i = 0 ∨ u i = 1 := by rw [hui]; split <;> simp
    have wnb : 0 ≤ wn i ∧ wn i ≤ 99 := by rw [hwni]; split <;> omega
    have hp := n6 i (by omega)
    have hw := n8 i m (by omega) hm
    have e42 : M2.1 0 42 (4 * (i : Int)).toNat = M.1 0 42 (i * 4) := (i1.2.1 0 42 _ (by omega) (by omega)).trans (congrArg (M.1 0 42) (by omega))
    have e30 : M2.1 0 41 30 = M.1 0 41 30 := i1.2.2 30 (by omega) (by omega) (by omega)
    have hkd : mkd M i = if (i : Int) = M.1 0 41 30 then 3 else M.1 0 42 (i * 4) := rfl
    have hsm : vt_some u (i + 1) = if vt_some u i = 1 ∨ u i = 1 then 1 else 0 := rfl
    have s01 := vt_some_01 u i
    have a1 : vt_add 1 u (mfor M m) (mct M) (i + 1) = vt_add 1 u (mfor M m) (mct M) i + (if u i = 1 ∧ mfor M m i = 1 then mct M i else 0) := rfl
    have a0 : vt_add 0 u (mfor M m) (mct M) (i + 1) = vt_add 0 u (mfor M m) (mct M) i + (if u i = 1 ∧ mfor M m i = 0 then mct M i else 0) := rfl
    have hfr : mfor M m i = if 0 < M.1 0 44 (i * 5 + m) then 1 else 0 := rfl
    generalize hM3 : am_set (am_set M2 0 52 i (wn i)) 0 54 i (u i) = M3
    have m3s : msame M M3 := by rw [← hM3]; exact (i1.setV (by omega)).setV (by omega)
    have m3f : ∀ k, M3.1 0 41 k = M2.1 0 41 k := fun k => by rw [← hM3, set_p (by decide), set_p (by decide)]
    have m353 : ∀ j, M3.1 0 53 j = M2.1 0 53 j := fun j => by rw [← hM3, set_p (by decide), set_p (by decide)]
    have m354 : M3.1 0 54 i = u i := by rw [← hM3]; exact set_eq
    have m354' : ∀ j, j ≠ i → M3.1 0 54 j = M2.1 0 54 j := fun j hj => by rw [← hM3, set_k hj, set_p (by decide)]
    have m352 : M3.1 0 52 i = wn i := by rw [← hM3, set_p (by decide)]; exact set_eq
    have m352' : ∀ j, j ≠ i → M3.1 0 52 j = M2.1 0 52 j := fun j hj => by rw [← hM3, set_p (by decide), set_k hj]
    -- somebody up: the sums
    have st219 : am_At Γ (d + 3) n_M_layVote 219 [some (.inr (.inr (0, 41))), some (.inl (m : Int)), some (.inl sec), some (.inl (vt_some u i)), some (.inl s), some (.inl (i : Int)), z] [] M3 K → True := fun _ => trivial
    have go219 : ∀ z : Option Am_V, am_At Γ (d + 3) n_M_layVote 219 [some (.inr (.inr (0, 41))), some (.inl (m : Int)), some (.inl sec), some (.inl (vt_some u i)), some (.inl s), some (.inl (i : Int)), z] [] M3 K := by
      intro z
      refine am_go 60 [118, 276] (by decide) ?_
      refine And.intro ⟨(by first | omega | (dsimp only [am_own]; omega)), (by first | omega | (dsimp only [am_own]; omega))⟩ ?_
      refine And.intro (show am_R (M3.1 0 54 i) from ⟨(by first | omega | (dsimp only [am_own]; omega)), (by first | omega | (dsimp only [am_own]; omega))⟩) (And.intro (fun h1 => ?_) (fun h1 => ?_))
      · have h1 : M3.1 0 54 i = 0 := h1
        have hu0 : u i = 0 := by omega
        have hs2 : vt_some u (i + 1) = vt_some u i := by
          rw [hsm]
          rcases s01 with q | q
          · rw [q, if_neg (by omega)]
          · rw [q, if_pos (Or.inl rfl)]
        have go := ih (i + 1) z M3 (by omega) ⟨m3s, ⟨?_, ?_, ?_⟩, fun j hj => ?_, fun j hj hjn => ?_⟩
        · rw [hs2] at go
          exact go
        · rw [m3f, i2, a1, if_neg (by omega)]; omega
        · rw [m3f, i3, a0, if_neg (by omega)]; omega
        · rw [m3f]; exact i4
        · by_cases hji : j = i
          · subst hji
            rw [m352, m353, m354, c2, hu0]
            exact ⟨rfl, by omega, rfl⟩
          · rw [m352' j hji, m353, m354' j hji]
            exact i5 j (by omega)
        · rw [m352' j (by omega), m353, m354' j (by omega)]
          exact i6 j (by omega) hjn
      · have h1 : ¬ M3.1 0 54 i = 0 := h1
        have hu1 : u i = 1 := by omega
        have hne0 := hne i (by omega) hu1
        have hs2 : vt_some u (i + 1) = 1 := by rw [hsm, if_pos (Or.inr hu1)]
        refine And.intro ⟨(by first | omega | (dsimp only [am_own]; omega)), (by first | omega | (dsimp only [am_own]; omega))⟩ ?_
        refine And.intro ⟨(by first | omega | (dsimp only [am_own]; omega)), (by first | omega | (dsimp only [am_own]; omega))⟩ ?_
        refine And.intro ⟨(by first | omega | (dsimp only [am_own]; omega)), (by first | omega | (dsimp only [am_own]; omega))⟩ ?_
        generalize hM4 : am_set M3 0 53 i (M3.1 0 53 i + 1) = M4
        have m4s : msame M M4 := by rw [← hM4]; exact m3s.setV (by omega)
        have m4f : ∀ k, M4.1 0 41 k = M2.1 0 41 k := fun k => by rw [← hM4, set_p (by decide)]; exact m3f k
        have m444 : M4.1 0 44 (5 * (i : Int) + (m : Int)).toNat = M.1 0 44 (i * 5 + m) := (m4s.2.1 0 44 _ (by omega) (by omega)).trans (congrArg (M.1 0 44) (by omega))
        have m442 : M4.1 0 42 (4 * (i : Int) + 3).toNat = mct M i := (m4s.2.1 0 42 _ (by omega) (by omega)).trans (congrArg (M.1 0 42) (by omega))
        have fin : ∀ (M5 : Am_M), msame M M5 → M5.1 0 41 24 = f + vt_add 1 u (mfor M m) (mct M) (i + 1) → M5.1 0 41 25 = a + vt_add 0 u (mfor M m) (mct M) (i + 1) → M5.1 0 41 26 = set' → (∀ p j, 52 ≤ p → p ≤ 54 → M5.1 0 p j = M4.1 0 p j) → am_At Γ (d + 3) n_M_layVote 118 [some (.inr (.inr (0, 41))), some (.inl (m : Int)), some (.inl sec), some (.inl 1), some (.inl s), some (.inl ((i : Int) + 1)), z] [] M5 K := by
          intro M5 q1 q2 q3 q4 q5
          have go := ih (i + 1) z M5 (by omega) ⟨q1, ⟨q2, q3, q4⟩, fun j hj => ?_, fun j hj hjn => ?_⟩
          · rw [hs2] at go
            exact go
          · rw [q5 52 j (by omega) (by omega), q5 53 j (by omega) (by omega), q5 54 j (by omega) (by omega)]
            by_cases hji : j = i
            · subst hji
              rw [← hM4, set_p (by decide), set_eq, set_p (by decide), m352, m353, m354, c2, hu1]
              exact ⟨rfl, rfl, rfl⟩
            · rw [← hM4, set_p (by decide), set_k hji, set_p (by decide), m352' j hji, m353, m354' j hji]
              exact i5 j (by omega)
          · rw [q5 52 j (by omega) (by omega), q5 53 j (by omega) (by omega), q5 54 j (by omega) (by omega)]
            rw [← hM4, set_p (by decide), set_k (by omega), set_p (by decide), m352' j (by omega), m353, m354' j (by omega)]
            exact i6 j (by omega) hjn
        have go276 : ∀ v : Int, v = (if mfor M m i = 1 then mct M i else 0) → am_At Γ (d + 3) n_M_layVote 276 [some (.inr (.inr (0, 41))), some (.inl (m : Int)), some (.inl sec), some (.inl 1), some (.inl s), some (.inl (i : Int)), z] [.inl v, .inl (M4.1 0 41 24), .inr (.inr (0, 41))] M4 K := by
          intro v hv
          have m544 : (am_set M4 0 41 24 (M4.1 0 41 24 + v)).1 0 44 (5 * (i : Int) + (m : Int)).toNat = M.1 0 44 (i * 5 + m) := by rw [set_p (by decide)]; exact m444
          have m542 : (am_set M4 0 41 24 (M4.1 0 41 24 + v)).1 0 42 (4 * (i : Int) + 3).toNat = mct M i := by rw [set_p (by decide)]; exact m442
          have go314 : ∀ w : Int, w = (if mfor M m i = 0 then mct M i else 0) → am_At Γ (d + 3) n_M_layVote 314 [some (.inr (.inr (0, 41))), some (.inl (m : Int)), some (.inl sec), some (.inl 1), some (.inl s), some (.inl (i : Int)), z] [.inl w, .inl ((am_set M4 0 41 24 (M4.1 0 41 24 + v)).1 0 41 25), .inr (.inr (0, 41))] (am_set M4 0 41 24 (M4.1 0 41 24 + v)) K := by
            intro w hw2
            refine am_go 60 [118] (by decide) ?_
            refine fin (am_set (am_set M4 0 41 24 (M4.1 0 41 24 + v)) 0 41 25 ((am_set M4 0 41 24 (M4.1 0 41 24 + v)).1 0 41 25 + w)) ((m4s.setF (by omega)).setF (by omega)) ?_ ?_ ?_ ?_
            · rw [set_k (by decide), set_eq, m4f, i2, a1, hv]
              by_cases q : mfor M m i = 1
              · rw [if_pos q, if_pos ⟨hu1, q⟩]; omega
              · rw [if_neg q, if_neg (fun z => q z.2)]; omega
            · rw [set_eq, set_k (by decide), m4f, i3, a0, hw2]
              by_cases q : mfor M m i = 0
              · rw [if_pos q, if_pos ⟨hu1, q⟩]; omega
              · rw [if_neg q, if_neg (fun z => q z.2)]; omega
            · rw [set_k (by decide), set_k (by decide), m4f]; exact i4
            · intro p j h52 h54
              rw [set_p (by omega), set_p (by omega)]
          refine am_go 60 [118, 314] (by decide) ?_
          refine And.intro ⟨(by first | omega | (dsimp only [am_own]; omega)), (by first | omega | (dsimp only [am_own]; omega))⟩ ?_
          refine And.intro (am_Re m544 ⟨(by first | omega | (dsimp only [am_own]; omega)), (by first | omega | (dsimp only [am_own]; omega))⟩) (And.intro (fun h4 => ?_) (fun h4 => ?_))
          · have h4 : (am_set M4 0 41 24 (M4.1 0 41 24 + v)).1 0 44 (5 * (i : Int) + (m : Int)).toNat < 0 := h4
            rw [m544] at h4
            refine And.intro ⟨(by first | omega | (dsimp only [am_own]; omega)), (by first | omega | (dsimp only [am_own]; omega))⟩ ?_
            refine go314 _ ?_
            rw [if_pos (by rw [hfr, if_neg (by omega)])]
            exact m542
          · have h4 : ¬ (am_set M4 0 41 24 (M4.1 0 41 24 + v)).1 0 44 (5 * (i : Int) + (m : Int)).toNat < 0 := h4
            rw [m544] at h4
            refine go314 0 ?_
            rw [if_neg (by rw [hfr, if_pos (by omega)]; omega)]
        refine And.intro (am_Re (show (am_set M3 0 53 i (M3.1 0 53 i + 1)).1 0 44 (5 * (i : Int) + (m : Int)).toNat = M.1 0 44 (i * 5 + m) by rw [hM4]; exact m444) ⟨(by first | omega | (dsimp only [am_own]; omega)), (by first | omega | (dsimp only [am_own]; omega))⟩) (And.intro (fun h4 => ?_) (fun h4 => ?_))
        · have h4 : 0 < (am_set M3 0 53 i (M3.1 0 53 i + 1)).1 0 44 (5 * (i : Int) + (m : Int)).toNat := h4
          rw [hM4, m444] at h4
          refine And.intro ⟨(by first | omega | (dsimp only [am_own]; omega)), (by first | omega | (dsimp only [am_own]; omega))⟩ ?_
          have go := go276 (M4.1 0 42 (4 * (i : Int) + 3).toNat) (by rw [if_pos (by rw [hfr, if_pos h4])]; exact m442)
          rw [← hM4] at go
          exact go
        · have h4 : ¬ 0 < (am_set M3 0 53 i (M3.1 0 53 i + 1)).1 0 44 (5 * (i : Int) + (m : Int)).toNat := h4
          rw [hM4, m444] at h4
          have go := go276 0 (by rw [if_neg (by rw [hfr, if_neg h4]; omega)])
          rw [← hM4] at go
          exact go
    have go189 : ∀ (v : Int) (z : Option Am_V), v = wn i → am_At Γ (d + 3) n_M_layVote 189 [some (.inr (.inr (0, 41))), some (.inl (m : Int)), some (.inl sec), some (.inl (vt_some u i)), some (.inl s), some (.inl (i : Int)), z] [.inl v, .inl (i : Int), .inr (.inr (0, 52))] M2 K := by
      intro v z hv
      subst hv
      have x53 : (am_set M2 0 52 i (wn i)).1 0 53 i = held i := by rw [set_p (by decide)]; exact c2
      have x52 : (am_set M2 0 52 i (wn i)).1 0 52 i = wn i := set_eq
      have go218 : ∀ b : Int, b = u i → am_At Γ (d + 3) n_M_layVote 218 [some (.inr (.inr (0, 41))), some (.inl (m : Int)), some (.inl sec), some (.inl (vt_some u i)), some (.inl s), some (.inl (i : Int)), z] [.inl b, .inl (i : Int), .inr (.inr (0, 54))] (am_set M2 0 52 i (wn i)) K := by
        intro b hb
        subst hb
        refine am_go 5 [219] (by decide) ?_
        refine And.intro ⟨⟨(by first | omega | (dsimp only [am_own]; omega)), (by first | omega | (dsimp only [am_own]; omega))⟩, u01⟩ ?_
        have go := go219 z
        rw [← hM3] at go
        exact go
      refine am_go 60 [118, 218] (by decide) ?_
      refine And.intro ⟨(by first | omega | (dsimp only [am_own]; omega)), (by first | omega | (dsimp only [am_own]; omega))⟩ ?_
      refine And.intro ⟨(by first | omega | (dsimp only [am_own]; omega)), (by first | omega | (dsimp only [am_own]; omega))⟩ ?_
      refine And.intro ⟨(by first | omega | (dsimp only [am_own]; omega)), (by first | omega | (dsimp only [am_own]; omega))⟩ ?_
      refine And.intro ⟨(am_Re x53 ⟨(by first | omega | (dsimp only [am_own]; omega)), (by first | omega | (dsimp only [am_own]; omega))⟩), (am_Re x52 ⟨(by first | omega | (dsimp only [am_own]; omega)), (by first | omega | (dsimp only [am_own]; omega))⟩)⟩ (And.intro (fun h4 => ?_) (fun h4 => ?_))
      · have h4 : (am_set M2 0 52 i (wn i)).1 0 53 i < (am_set M2 0 52 i (wn i)).1 0 52 i := h4
        rw [x53, x52] at h4
        exact go218 1 (by rw [hui, if_pos h4])
      · have h4 : ¬ (am_set M2 0 52 i (wn i)).1 0 53 i < (am_set M2 0 52 i (wn i)).1 0 52 i := h4
        rw [x53, x52] at h4
        exact go218 0 (by rw [hui, if_neg h4])
    have go159 : ∀ (lw : Int) (z : Option Am_V), lw = (if s = 1 ∧ mkd M i = 1 then 1 else 0) → am_At Γ (d + 3) n_M_layVote 159 [some (.inr (.inr (0, 41))), some (.inl (m : Int)), some (.inl sec), some (.inl (vt_some u i)), some (.inl s), some (.inl (i : Int)), z] [.inl lw] M2 K := by
      intro lw z hlw
      have l01 : lw = 0 ∨ lw = 1 := by rw [hlw]; split <;> simp
      refine am_go 60 [118, 189] (by decide) ?_
      refine And.intro ⟨(by first | omega | (dsimp only [am_own]; omega)), (by first | omega | (dsimp only [am_own]; omega))⟩ (And.intro (fun h4 => ?_) (fun h4 => ?_))
      · refine And.intro ⟨(by first | omega | (dsimp only [am_own]; omega)), (by first | omega | (dsimp only [am_own]; omega))⟩ ?_
        refine go189 _ _ ?_
        rw [hwni, if_neg (fun q => by rw [if_pos q] at hlw; omega)]
        exact c1
      · refine And.intro ⟨(by first | omega | (dsimp only [am_own]; omega)), (by first | omega | (dsimp only [am_own]; omega))⟩ ?_
        refine go189 _ _ ?_
        rw [hwni, if_pos (by
          by_cases q : s = 1 ∧ mkd M i = 1
          · exact q
          · rw [if_neg q] at hlw
            exact absurd hlw h4)]
        exact c2
    refine am_go 60 [118, 159, 74] (by decide) ?_
    refine And.intro ⟨⟨(by first | omega | (dsimp only [am_own]; omega)), (by first | omega | (dsimp only [am_own]; omega))⟩, (show am_R (M2.1 0 41 0) from ⟨(by first | omega | (dsimp only [am_own]; omega)), (by first | omega | (dsimp only [am_own]; omega))⟩)⟩ (And.intro (fun h => ?_) (fun h => ?_))
    · refine And.intro ⟨(by first | omega | (dsimp only [am_own]; omega)), (by first | omega | (dsimp only [am_own]; omega))⟩ (And.intro (fun h4 => ?_) (fun h4 => ?_))
      · exact go159 0 _ (by rw [if_neg (by omega)])
      · refine And.intro ⟨(by first | omega | (dsimp only [am_own]; omega)), (by first | omega | (dsimp only [am_own]; omega))⟩ ?_
        refine And.intro ⟨(am_Re e42 ⟨(by first | omega | (dsimp only [am_own]; omega)), (by first | omega | (dsimp only [am_own]; omega))⟩), ⟨(by first | omega | (dsimp only [am_own]; omega)), (by first | omega | (dsimp only [am_own]; omega))⟩⟩ (And.intro (fun h5 => ?_) (fun h5 => ?_))
        · have h5 : M2.1 0 42 (4 * (i : Int)).toNat = 1 := h5
          rw [e42] at h5
          refine And.intro ⟨⟨(by first | omega | (dsimp only [am_own]; omega)), (by first | omega | (dsimp only [am_own]; omega))⟩, (show am_R (M2.1 0 41 30) from ⟨(by first | omega | (dsimp only [am_own]; omega)), (by first | omega | (dsimp only [am_own]; omega))⟩)⟩ (And.intro (fun h6 => ?_) (fun h6 => ?_))
          · have h6 : (i : Int) = M2.1 0 41 30 := h6
            refine go159 0 _ ?_
            rw [if_neg]
            rintro ⟨-, q⟩
            rw [hkd, if_pos (by omega)] at q
            omega
          · have h6 : ¬ (i : Int) = M2.1 0 41 30 := h6
            refine go159 1 _ ?_
            rw [if_pos]
            refine ⟨by omega, ?_⟩
            rw [hkd, if_neg (by omega)]
            exact h5
        · have h5 : ¬ M2.1 0 42 (4 * (i : Int)).toNat = 1 := h5
          rw [e42] at h5
          refine go159 0 _ ?_
          rw [if_neg]
          rintro ⟨-, q⟩
          rw [hkd] at q
          split at q <;> omega
    · exfalso
      have h : ¬ (i : Int) < M2.1 0 41 0 := h
      omega
