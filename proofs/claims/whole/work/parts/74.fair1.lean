/-! fair: the class -/
theorem c_ctr {Γ : Am_G} {d : Nat} {M : Am_M} {arm l : Int} (ha : 0 ≤ arm ∧ arm ≤ 30) (hl : 0 ≤ l ∧ l ≤ 270) : am_Ev Γ (d + 1) n_Foresight_countsToReach [.inl arm, .inl l] M (fun r M' => r = some (.inl (ctF arm l)) ∧ M' = M) := by
  have loop : ∀ (k : Nat) (c : Int), c + k = 10 → 1 ≤ c → am_At Γ (d + 1) n_Foresight_countsToReach 2 [some (.inl arm), some (.inl l), some (.inl c)] [] M (fun r M' => r = some (.inl (ctr arm l k c)) ∧ M' = M) := by
    intro k
    induction k with
    | zero =>
      intro c hc h1
      refine am_go 60 [2] (by decide) ?_
      refine And.intro ⟨⟨(by first | omega | (dsimp only [am_own]; omega)), (by first | omega | (dsimp only [am_own]; omega))⟩, ⟨(by first | omega | (dsimp only [am_own]; omega)), (by first | omega | (dsimp only [am_own]; omega))⟩⟩ (And.intro (fun h => ⟨rfl, rfl⟩) (fun h => ?_))
      exfalso; omega
    | succ k ih =>
      intro c hc h1
      have hb := mul_b (a := c) (b := arm) (A := 9) (B := 30) (by omega) ha
      rw [ctr]
      refine am_go 60 [2] (by decide) ?_
      refine And.intro ⟨⟨(by first | omega | (dsimp only [am_own]; omega)), (by first | omega | (dsimp only [am_own]; omega))⟩, ⟨(by first | omega | (dsimp only [am_own]; omega)), (by first | omega | (dsimp only [am_own]; omega))⟩⟩ (And.intro (fun h => ?_) (fun h => ?_))
      · exfalso; omega
      refine And.intro ⟨⟨(by first | omega | (dsimp only [am_own]; omega)), (by first | omega | (dsimp only [am_own]; omega))⟩, ⟨(by first | omega | (dsimp only [am_own]; omega)), (by first | omega | (dsimp only [am_own]; omega))⟩⟩ (And.intro (fun h2 => ?_) (fun h2 => ?_))
      · rw [if_neg (by omega)]
        exact ih (c + 1) (by omega) (by omega)
      · rw [if_pos (by omega)]
        exact ⟨rfl, rfl⟩
  refine am_ev_of (by decide) (am_le rfl) (am_go 60 [2] (by decide) ?_)
  exact loop 9 1 (by omega) (by omega)
/-- how far the class has sought -/
def fS (M : Am_M) (arm : Nat → Int) (n : Nat) (Seen : Int → Prop) : Prop := (M.1 0 34 12 = 0 ∧ ∀ l, Seen l → ¬ okF arm n l) ∨ (M.1 0 34 12 = 1 ∧ ∃ l0, fairC arm n l0 Seen ∧ M.1 0 34 10 = grF arm l0 n - l0 ∧ M.1 0 34 11 = l0 ∧ ∀ i, i < n → M.1 0 40 i = ctF (arm i) l0)
def fX (e p : Nat) : Prop := e = 0 ∧ (p = 34 ∨ p = 39 ∨ p = 40)
theorem c_tryLeast {Γ : Am_G} {d : Nat} {M : Am_M} {n : Nat} {l : Int} {Seen : Int → Prop} (hn : M.1 9 1 4 = n) (hn6 : n ≤ 6) (ha : ∀ i, i < n → 0 ≤ M.1 9 3 i ∧ M.1 9 3 i ≤ 30) (hl : ∃ j c, j < n ∧ 1 ≤ c ∧ c ≤ 9 ∧ l = c * M.1 9 3 j) (hS : fS M (M.1 9 3) n Seen) : am_Ev Γ (d + 2) n_Foresight_tryLeast [.inr (.inr (0, 34)), .inr (.inr (9, 1)), .inl l] M (fun r M' => r = none ∧ am_same fX M M' ∧ fS M' (M.1 9 3) n (fun x => Seen x ∨ x = l)) := by
  have vb : ∀ (c : Int) i, i < n → 1 ≤ c → c ≤ 9 → 0 ≤ c * M.1 9 3 i ∧ c * M.1 9 3 i ≤ 270 := fun c i hi h1 h9 => by
    have := ha i hi
    have := mul_b (a := c) (b := M.1 9 3 i) (A := 9) (B := 30) (by omega) (by omega)
    omega
  have hlb : 0 ≤ l ∧ l ≤ 270 := by
    obtain ⟨j, c, hj, h1, h9, rfl⟩ := hl
    exact vb c j hj h1 h9
  have gb : ∀ k, k ≤ n → okF (M.1 9 3) k l → 0 ≤ grF (M.1 9 3) l k ∧ grF (M.1 9 3) l k ≤ 270 := fun k hk hok => by
    obtain ⟨g1, g2, g3⟩ := grF_spec (M.1 9 3) l k
    rcases g3 with g | ⟨i, hi, g⟩
    · omega
    · have h1 := ctF_b (hok i hi)
      have := vb _ i (by omega) h1.1 h1.2.1
      omega
  have keep : ∀ M1 : Am_M, am_same (fun e p => e = 0 ∧ p = 39) M M1 → (okF (M.1 9 3) n l → M.1 0 34 12 = 1 ∧ ¬ (grF (M.1 9 3) l n - l < M.1 0 34 10) ∧ (grF (M.1 9 3) l n - l = M.1 0 34 10 → M.1 0 34 11 ≤ l)) → am_same fX M M1 ∧ fS M1 (M.1 9 3) n (fun x => Seen x ∨ x = l) := by
    intro M1 hs hk
    refine ⟨hs.wk (fun e p h => ⟨h.1, Or.inr (Or.inl h.2)⟩), ?_⟩
    have e34 : ∀ k, M1.1 0 34 k = M.1 0 34 k := fun k => hs.2 0 34 k (by omega)
    have e40 : ∀ k, M1.1 0 40 k = M.1 0 40 k := fun k => hs.2 0 40 k (by omega)
    rcases hS with ⟨s1, s2⟩ | ⟨s1, l0, s2, s3, s4, s5⟩
    · refine Or.inl ⟨by rw [e34]; exact s1, fun x hx => ?_⟩
      rcases hx with hx | rfl
      · exact s2 x hx
      · intro hok
        have := (hk hok).1
        omega
    · refine Or.inr ⟨by rw [e34]; exact s1, l0, ⟨s2.1, fun x hx hok => ?_⟩, by rw [e34]; exact s3, by rw [e34]; exact s4, fun i hi => by rw [e40]; exact s5 i hi⟩
      rcases hx with hx | rfl
      · exact s2.2 x hx hok
      · obtain ⟨-, k2, k3⟩ := hk hok
        rw [s3, s4] at k3
        rw [s3] at k2
        omega
  have tail : ∀ M1 : Am_M, am_same (fun e p => e = 0 ∧ p = 39) M M1 → okF (M.1 9 3) n l → (∀ i, i < n → M1.1 0 39 i = ctF (M.1 9 3 i) l) → (M.1 0 34 12 = 0 ∨ grF (M.1 9 3) l n - l < M.1 0 34 10 ∨ (grF (M.1 9 3) l n - l = M.1 0 34 10 ∧ l < M.1 0 34 11)) → ∀ z : Option Am_V, am_At Γ (d + 2) n_Foresight_tryLeast 102 [some (.inr (.inr (0, 34))), some (.inr (.inr (9, 1))), some (.inl l), some (.inl (grF (M.1 9 3) l n)), some (.inl (grF (M.1 9 3) l n - l)), z] [] M1 (fun r M' => r = none ∧ am_same fX M M' ∧ fS M' (M.1 9 3) n (fun x => Seen x ∨ x = l)) := by
    intro M1 hs hok h39 hbet z
    refine am_go 60 [] (by decide) ?_
    refine And.intro (Or.inr rfl) ?_
    refine And.intro ⟨⟨(by first | omega | (dsimp only [am_own]; omega)), (by first | omega | (dsimp only [am_own]; omega)), (by first | omega | (dsimp only [am_own]; omega))⟩, ⟨by omega, by omega⟩, by omega, am_le rfl⟩ ?_
    show none = none ∧ am_same fX M (am_cpy (am_set (am_set (am_set M1 0 34 12 1) 0 34 10 (grF (M.1 9 3) l n - l)) 0 34 11 l) 0 39 0 40 6) ∧ fS (am_cpy (am_set (am_set (am_set M1 0 34 12 1) 0 34 10 (grF (M.1 9 3) l n - l)) 0 34 11 l) 0 39 0 40 6) (M.1 9 3) n (fun x => Seen x ∨ x = l)
    refine ⟨rfl, ((((hs.wk (fun e p h => ⟨h.1, Or.inr (Or.inl h.2)⟩)).set ⟨rfl, Or.inl rfl⟩).set ⟨rfl, Or.inl rfl⟩).set ⟨rfl, Or.inl rfl⟩).cpy ⟨rfl, Or.inr (Or.inr rfl)⟩, Or.inr ⟨?_, l, ⟨⟨hok, hl⟩, fun x hx hokx => ?_⟩, ?_, ?_, fun i hi => ?_⟩⟩
    · rw [cpy_p (by decide), set_k (by decide), set_k (by decide)]; exact set_eq
    · rcases hx with hx | rfl
      · rcases hS with ⟨s1, s2⟩ | ⟨s1, l0, s2, s3, s4, s5⟩
        · exact absurd hokx (s2 x hx)
        · have := s2.2 x hx hokx
          rw [s3, s4] at hbet
          omega
      · exact Or.inr ⟨rfl, Int.le_refl _⟩
    · rw [cpy_p (by decide), set_k (by decide)]; exact set_eq
    · rw [cpy_p (by decide)]; exact set_eq
    · rw [cpy_in (by omega), set_p (by decide), set_p (by decide), set_p (by decide)]; exact h39 i hi
  have loop : ∀ (k i : Nat) (z : Option Am_V) (M1 : Am_M), i + k = n → am_same (fun e p => e = 0 ∧ p = 39) M M1 → okF (M.1 9 3) i l → (∀ j, j < i → M1.1 0 39 j = ctF (M.1 9 3 j) l) → am_At Γ (d + 2) n_Foresight_tryLeast 5 [some (.inr (.inr (0, 34))), some (.inr (.inr (9, 1))), some (.inl l), some (.inl (grF (M.1 9 3) l i)), some (.inl (i : Int)), z] [] M1 (fun r M' => r = none ∧ am_same fX M M' ∧ fS M' (M.1 9 3) n (fun x => Seen x ∨ x = l)) := by
    intro k
    induction k with
    | zero =>
      intro i z M1 hi hs hok h39
      have : i = n := by omega
      subst this
      have e4 : M1.1 9 1 4 = i := (hs.2 9 1 4 (by omega)).trans hn
      have e34 : ∀ k, M1.1 0 34 k = M.1 0 34 k := fun k => hs.2 0 34 k (by omega)
      have hg := gb i (Nat.le_refl i) hok
      have rng : (M.1 0 34 12 = 0 ∨ M.1 0 34 12 = 1) ∧ (M.1 0 34 12 = 1 → am_R (M.1 0 34 10) ∧ am_R (M.1 0 34 11)) := by
        rcases hS with ⟨s1, s2⟩ | ⟨s1, l0, s2, s3, s4, s5⟩
        · exact ⟨Or.inl s1, fun q => by omega⟩
        · refine ⟨Or.inr s1, fun _ => ?_⟩
          obtain ⟨⟨x1, j, c, hj, h1, h9, x2⟩, -⟩ := s2
          have x3 := vb c j hj h1 h9
          obtain ⟨g1, g2, g3⟩ := grF_spec (M.1 9 3) l0 i
          have x4 : grF (M.1 9 3) l0 i ≤ 270 := by
            rcases g3 with g | ⟨j2, hj2, g⟩
            · omega
            · have h1 := ctF_b (x1 j2 hj2)
              have := vb _ j2 hj2 h1.1 h1.2.1
              omega
          exact ⟨⟨by omega, by omega⟩, ⟨by omega, by omega⟩⟩
      refine am_go 60 [5, 102] (by decide) ?_
      refine And.intro ⟨⟨(by first | omega | (dsimp only [am_own]; omega)), (by first | omega | (dsimp only [am_own]; omega))⟩, (show am_R (M1.1 9 1 4) from ⟨(by first | omega | (dsimp only [am_own]; omega)), (by first | omega | (dsimp only [am_own]; omega))⟩)⟩ (And.intro (fun h => ?_) (fun h => ?_))
      · exfalso
        have h : (i : Int) < M1.1 9 1 4 := h
        omega
      refine And.intro (am_Re (e34 12) ⟨(by first | omega | (dsimp only [am_own]; omega)), (by first | omega | (dsimp only [am_own]; omega))⟩) (And.intro (fun h2 => ?_) (fun h2 => ?_))
      · have h2 : M1.1 0 34 12 = 0 := h2
        rw [e34] at h2
        exact tail M1 hs hok h39 (Or.inl h2) _
      have h2 : ¬ M1.1 0 34 12 = 0 := h2
      rw [e34] at h2
      obtain ⟨r10, r11⟩ := rng.2 (by omega)
      refine And.intro ⟨⟨by omega, by omega⟩, am_Re (e34 10) r10⟩ (And.intro (fun h3 => ?_) (fun h3 => ?_))
      · have h3 : grF (M.1 9 3) l i - l < M1.1 0 34 10 := h3
        rw [e34] at h3
        exact tail M1 hs hok h39 (Or.inr (Or.inl h3)) _
      have h3 : ¬ grF (M.1 9 3) l i - l < M1.1 0 34 10 := h3
      rw [e34] at h3
      refine And.intro ⟨⟨by omega, by omega⟩, am_Re (e34 10) r10⟩ (And.intro (fun h4 => ?_) (fun h4 => ?_))
      · have h4 : grF (M.1 9 3) l i - l = M1.1 0 34 10 := h4
        rw [e34] at h4
        refine And.intro ⟨⟨by omega, by omega⟩, am_Re (e34 11) r11⟩ (And.intro (fun h5 => ?_) (fun h5 => ?_))
        · have h5 : l < M1.1 0 34 11 := h5
          rw [e34] at h5
          exact tail M1 hs hok h39 (Or.inr (Or.inr ⟨h4, h5⟩)) _
        · have h5 : ¬ l < M1.1 0 34 11 := h5
          rw [e34] at h5
          exact ⟨rfl, keep M1 hs (fun _ => ⟨by omega, h3, fun _ => by omega⟩)⟩
      · have h4 : ¬ grF (M.1 9 3) l i - l = M1.1 0 34 10 := h4
        rw [e34] at h4
        exact ⟨rfl, keep M1 hs (fun _ => ⟨by omega, h3, fun q => absurd q h4⟩)⟩
    | succ k ih =>
      intro i z M1 hi hs hok h39
      have e4 : M1.1 9 1 4 = n := (hs.2 9 1 4 (by omega)).trans hn
      have e3 : ∀ k, M1.1 9 3 k = M.1 9 3 k := fun k => hs.2 9 3 k (by omega)
      have hg := gb i (by omega) hok
      refine am_go 60 [5, 102] (by decide) ?_
      refine And.intro ⟨⟨(by first | omega | (dsimp only [am_own]; omega)), (by first | omega | (dsimp only [am_own]; omega))⟩, (show am_R (M1.1 9 1 4) from ⟨(by first | omega | (dsimp only [am_own]; omega)), (by first | omega | (dsimp only [am_own]; omega))⟩)⟩ (And.intro (fun h => ?_) (fun h => ?_))
      rotate_left
      · exfalso
        have h : ¬ (i : Int) < M1.1 9 1 4 := h
        omega
      refine And.intro ⟨(by first | omega | (dsimp only [am_own]; omega)), (by first | omega | (dsimp only [am_own]; omega))⟩ ?_
      have hc := c_ctr (Γ := Γ) (d := d) (M := M1) (ha i (by omega)) hlb
      rw [← e3] at hc
      refine am_by hc (by omega) ?_
      rintro r M2 ⟨rfl, rfl⟩
      rw [e3]
      have cb := ctr_spec (M.1 9 3 i) l 9 1 (by omega)
      have cb2 : -1 ≤ ctF (M.1 9 3 i) l ∧ ctF (M.1 9 3 i) l ≤ 9 := by unfold ctF; omega
      refine And.intro ⟨⟨(by first | omega | (dsimp only [am_own]; omega)), (by first | omega | (dsimp only [am_own]; omega))⟩, ⟨(by first | omega | (dsimp only [am_own]; omega)), (by first | omega | (dsimp only [am_own]; omega))⟩⟩ (And.intro (fun h2 => ?_) (fun h2 => ?_))
      · have h2 : ctF (M.1 9 3 i) l = -1 := h2
        exact ⟨rfl, keep M2 hs (fun q => absurd h2 (q i (by omega)))⟩
      have h2 : ¬ ctF (M.1 9 3 i) l = -1 := h2
      have h3 := ctF_b h2
      have hv := vb _ i (by omega) h3.1 h3.2.1
      refine And.intro ⟨(by first | omega | (dsimp only [am_own]; omega)), (by first | omega | (dsimp only [am_own]; omega))⟩ ?_
      refine And.intro ⟨(by first | omega | (dsimp only [am_own]; omega)), (by first | omega | (dsimp only [am_own]; omega))⟩ ?_
      have e3' : ∀ v, (am_set M2 0 39 i v).1 9 3 i = M.1 9 3 i := fun v => by rw [set_p (by decide)]; exact e3 i
      have mb : am_R (ctF (M.1 9 3 i) l * M.1 9 3 i) := ⟨by omega, by omega⟩
      have mb2 : am_R (ctF (M.1 9 3 i) l * (am_set M2 0 39 i (ctF (M.1 9 3 i) l)).1 9 3 i) := by rw [e3']; exact mb
      refine And.intro ⟨⟨⟨(by first | omega | (dsimp only [am_own]; omega)), (by first | omega | (dsimp only [am_own]; omega))⟩, mb2⟩, by omega, am_le rfl⟩ ?_
      have go := ih (i + 1) (some (.inl (ctF (M.1 9 3 i) l))) (am_set M2 0 39 i (ctF (M.1 9 3 i) l)) (by omega) (hs.set ⟨rfl, rfl⟩) (fun j hj => by
        by_cases q : j = i
        · rw [q]; exact h2
        · exact hok j (by omega)) (fun j hj => by
        by_cases q : j = i
        · rw [q]; exact set_eq
        · rw [set_k q]; exact h39 j (by omega))
      have eg : grF (M.1 9 3) l (i + 1) = if grF (M.1 9 3) l i < ctF (M.1 9 3 i) l * (am_set M2 0 39 i (ctF (M.1 9 3 i) l)).1 9 3 i then ctF (M.1 9 3 i) l * (am_set M2 0 39 i (ctF (M.1 9 3 i) l)).1 9 3 i else grF (M.1 9 3) l i := by rw [e3', grF]
      rw [eg] at go
      exact go
  refine am_ev_of (by decide) (am_le rfl) (am_go 60 [5] (by decide) ?_)
  exact loop n 0 _ M (by omega) am_same.rf (fun i hi => absurd hi (Nat.not_lt_zero i)) (fun j hj => absurd hj (Nat.not_lt_zero j))
