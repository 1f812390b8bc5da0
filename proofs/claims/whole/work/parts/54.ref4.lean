/-! the reference: turn, bought -/
/-- the first place of x among n; n: none -/
def posO (f : Nat → Int) (x : Int) : Nat → Nat
  | 0 => 0
  | k + 1 => if posO f x k < k then posO f x k else if f k = x then k else k + 1
theorem posO_spec (f : Nat → Int) (x : Int) : ∀ n, posO f x n ≤ n ∧ (∀ k, k < posO f x n → f k ≠ x) ∧ (posO f x n < n → f (posO f x n) = x)
  | 0 => ⟨Nat.le_refl 0, fun k h => absurd h (Nat.not_lt_zero k), fun h => absurd h (Nat.lt_irrefl 0)⟩
  | n + 1 => by
    obtain ⟨h1, h2, h3⟩ := posO_spec f x n
    have e : posO f x (n + 1) = if posO f x n < n then posO f x n else if f n = x then n else n + 1 := rfl
    rw [e]
    by_cases q : posO f x n < n
    · rw [if_pos q]
      exact ⟨by omega, h2, fun _ => h3 q⟩
    · rw [if_neg q]
      have e2 : posO f x n = n := by omega
      rw [e2] at h2
      by_cases q2 : f n = x
      · rw [if_pos q2]
        exact ⟨by omega, h2, fun _ => q2⟩
      · rw [if_neg q2]
        refine ⟨Nat.le_refl _, fun k hk => ?_, fun h => absurd h (Nat.lt_irrefl _)⟩
        by_cases q3 : k = n
        · rw [q3]; exact q2
        · exact h2 k (by omega)
theorem posO_lt {f : Nat → Int} {x : Int} {n : Nat} (h : ∃ k, k < n ∧ f k = x) : posO f x n < n := by
  obtain ⟨h1, h2, h3⟩ := posO_spec f x n
  obtain ⟨k, hk, hx⟩ := h
  rcases Nat.lt_or_ge (posO f x n) n with q | q
  · exact q
  · exact absurd hx (h2 k (by omega))
theorem posO_congr {f g : Nat → Int} {x : Int} : ∀ n, (∀ k, k < n → f k = g k) → posO f x n = posO g x n
  | 0, _ => rfl
  | n + 1, h => by
    have ih := posO_congr (x := x) n (fun k hk => h k (by omega))
    show (if posO f x n < n then posO f x n else if f n = x then n else n + 1) = (if posO g x n < n then posO g x n else if g n = x then n else n + 1)
    rw [ih, h n (by omega)]
theorem posO_uniq {f : Nat → Int} {x : Int} {n q : Nat} (hq : q < n) (hx : f q = x) (hf : ∀ k, k < q → f k ≠ x) : posO f x n = q := by
  obtain ⟨h1, h2, h3⟩ := posO_spec f x n
  have hlt := posO_lt (f := f) (x := x) (n := n) ⟨q, hq, hx⟩
  rcases Nat.lt_trichotomy (posO f x n) q with h | h | h
  · exact absurd (h3 hlt) (hf _ h)
  · exact h
  · exact absurd hx (h2 q h)
theorem hasI_pos {f : Nat → Int} {x : Int} {pu n : Nat} (h : pu ≤ n) : hasI f x pu = if posO f x n < pu then 1 else 0 := by
  obtain ⟨h1, h2, h3⟩ := posO_spec f x n
  by_cases q : posO f x n < pu
  · rw [if_pos q]
    exact hasI_1.mpr ⟨_, q, h3 (by omega)⟩
  · rw [if_neg q]
    rcases hasI_01 f x pu with z | z
    · exact z
    · obtain ⟨k, hk, hx⟩ := hasI_1.mp z
      exact absurd hx (h2 k (by omega))
def permO (ord : Nat → Int) (mt : Nat) : Prop := ∀ m : Nat, m < mt → ∃ k, k < mt ∧ ord k = m
/-- the reference's order -/
def oM (M : Am_M) : Nat → Int := fun k => M.1 0 47 (1 + k)
theorem rF.rf {M : Am_M} : rF M M := ⟨rfl, fun _ _ _ _ _ _ _ => rfl, fun _ _ _ _ => rfl, fun _ _ => rfl⟩
/-- behind a try with other counts -/
def tG (i : Nat) (M M1 : Am_M) : Prop := M1.2 = M.2 ∧ (∀ e p k, p ≠ 41 → p ≠ 42 → p ≠ 47 → p ≠ 48 → ¬ (52 ≤ p ∧ p ≤ 54) → M1.1 e p k = M.1 e p k) ∧ (∀ k, k ≠ 24 → k ≠ 25 → k ≠ 26 → M1.1 0 41 k = M.1 0 41 k) ∧ (∀ e k, (e ≠ 0 ∨ k ≠ i * 4 + 3) → M1.1 e 42 k = M.1 e 42 k) ∧ (∀ k, k < 92 → M1.1 0 47 k = M.1 0 47 k) ∧ (∀ k, k < 92 → M1.1 0 48 k = M.1 0 47 k)
theorem tG_view {M M1 : Am_M} {n mt i : Nat} {c : Int} (hM : wfM M n mt) (h : tG i M M1) (hi : i < n) (hc : 1 ≤ c ∧ c ≤ 9) : wfM (am_set M1 0 42 (i * 4 + 3) c) n mt ∧ veq n mt (rV (am_set M1 0 42 (i * 4 + 3) c)) (tV (rV M) i c) := by
  obtain ⟨⟨n1, n2, n3, n4⟩, n5, n6, n7, n8, n9, n10, n11⟩ := hM
  obtain ⟨h1, h2, h3, h4, h5, h6⟩ := h
  generalize hM2 : am_set M1 0 42 (i * 4 + 3) c = M2
  have f : ∀ k, k ≠ 24 → k ≠ 25 → k ≠ 26 → M2.1 0 41 k = M.1 0 41 k := fun k a b c => by rw [← hM2, set_p (by omega)]; exact h3 k a b c
  have g : ∀ p k, 43 ≤ p → p ≤ 44 → M2.1 0 p k = M.1 0 p k := fun p k a b => by rw [← hM2, set_p (by omega)]; exact h2 0 p k (by omega) (by omega) (by omega) (by omega) (by omega)
  have g7 : ∀ k, k < 92 → M2.1 0 47 k = M.1 0 47 k := fun k hk => by rw [← hM2, set_p (by omega)]; exact h5 k hk
  have g2 : ∀ k, k ≠ i * 4 + 3 → M2.1 0 42 k = M.1 0 42 k := fun k hk => by rw [← hM2, set_k hk]; exact h4 0 k (Or.inr hk)
  have g3 : ∀ j, M2.1 0 42 (j * 4 + 3) = if (4 : Nat) = 4 ∧ j = i then c else M.1 0 42 (j * 4 + 3) := fun j => by
    by_cases q : j = i
    · rw [if_pos ⟨rfl, q⟩, q, ← hM2]; exact set_eq
    · rw [if_neg (fun z => q z.2)]; exact g2 _ (by omega)
  refine ⟨⟨⟨by rw [f 0 (by omega) (by omega) (by omega)]; exact n1, n2, by rw [f 2 (by omega) (by omega) (by omega)]; exact n3, n4⟩, by rw [f 5 (by omega) (by omega) (by omega)]; exact n5, fun j hj => ?_, fun m hm => ?_, fun j m hj hm => ?_, fun k hk => ?_, by rw [f 30 (by omega) (by omega) (by omega)]; exact n10, by rw [f 31 (by omega) (by omega) (by omega)]; exact n11⟩, ⟨fun k hk => ?_, fun j hj => ⟨?_, ?_, ?_, g3 j, g7 _ (by omega)⟩, fun m2 hm2 => ⟨g 43 m2 (by omega) (by omega), g7 _ (by omega)⟩, fun j m2 hj hm2 => ⟨g 44 _ (by omega) (by omega), g7 _ (by omega)⟩⟩⟩
  · rw [g2 _ (by omega), g2 _ (by omega), g2 _ (by omega), g3, g7 _ (by omega)]
    obtain ⟨a, b, c1, d, e⟩ := n6 j hj
    exact ⟨a, b, c1, by split <;> assumption, e⟩
  · rw [g 43 _ (by omega) (by omega)]; exact n7 m hm
  · rw [g 44 _ (by omega) (by omega), g7 _ (by omega)]; exact n8 j m hj hm
  · rw [g7 _ (by omega)]; exact n9 k hk
  · rcases (show k = 0 ∨ k = 1 ∨ k = 2 ∨ k = 3 by omega) with rfl | rfl | rfl | rfl
    · exact f 0 (by omega) (by omega) (by omega)
    · exact f 2 (by omega) (by omega) (by omega)
    · exact f 5 (by omega) (by omega) (by omega)
    · exact g7 0 (by omega)
  · show mkd M2 j = mkd M j
    unfold mkd
    rw [f 30 (by omega) (by omega) (by omega), g2 _ (by omega)]
  · show (if M2.1 0 41 31 = 1 then 99 else M2.1 0 42 (j * 4 + 1)) = if M.1 0 41 31 = 1 then 99 else M.1 0 42 (j * 4 + 1)
    rw [f 31 (by omega) (by omega) (by omega), g2 _ (by omega)]
  · show (if M2.1 0 41 31 = 1 then 0 else M2.1 0 42 (j * 4 + 2)) = if M.1 0 41 31 = 1 then 0 else M.1 0 42 (j * 4 + 2)
    rw [f 31 (by omega) (by omega) (by omega), g2 _ (by omega)]
theorem c_M_turn {Γ : Am_G} {d : Nat} {M : Am_M} {n mt pu : Nat} {x y : Int} (hx : am_R x) (hy : am_R y) (hM : wfM M n mt) (hp : M.1 0 47 0 = pu) (hpm : pu ≤ mt) (hperm : permO (oM M) mt) : am_Ev Γ (d + 6) n_M_turn [.inr (.inr (0, 41)), .inl x, .inl y] M (fun r M' => r = some (.inl (if (0 ≤ x ∧ x < n) ∧ (0 ≤ y ∧ y < mt) then (if posO (oM M) y mt < pu then -4 else turnS (rV M) n x.toNat (posO (oM M) y mt - pu) 9 1) else -2)) ∧ rF M M') := by
  obtain ⟨⟨n1, n2, n3, n4⟩, n5, n6, n7, n8, n9, n10, n11⟩ := id hM
  refine am_ev_of (by decide) (am_le rfl) (am_go 80 [51] (by decide) ?_)
  refine am_by (c_M_isPerson (d := d) x hx (by omega)) (by omega) ?_
  rintro r M1 ⟨rfl, rfl⟩
  rw [n1]
  by_cases qx : 0 ≤ x ∧ x < n
  rotate_left
  · rw [if_neg qx, if_neg (fun z => qx z.1)]
    refine And.intro ⟨(by first | omega | (dsimp only [am_own]; omega)), (by first | omega | (dsimp only [am_own]; omega))⟩ (And.intro (fun _ => ⟨rfl, rF.rf⟩) (fun h => absurd rfl h))
  rw [if_pos qx]
  refine And.intro ⟨(by first | omega | (dsimp only [am_own]; omega)), (by first | omega | (dsimp only [am_own]; omega))⟩ (And.intro (fun h => absurd h (by decide)) (fun _ => ?_))
  refine am_by (c_M_isMatter (d := d) y hy (by omega)) (by omega) ?_
  rintro r M2 ⟨rfl, rfl⟩
  rw [n3]
  by_cases qy : 0 ≤ y ∧ y < mt
  rotate_left
  · rw [if_neg qy, if_neg (fun z => qy z.2)]
    refine And.intro ⟨(by first | omega | (dsimp only [am_own]; omega)), (by first | omega | (dsimp only [am_own]; omega))⟩ (And.intro (fun _ => ⟨rfl, rF.rf⟩) (fun h => absurd rfl h))
  rw [if_pos qy, if_pos ⟨qx, qy⟩]
  refine And.intro ⟨(by first | omega | (dsimp only [am_own]; omega)), (by first | omega | (dsimp only [am_own]; omega))⟩ (And.intro (fun h => absurd h (by decide)) (fun _ => ?_))
  obtain ⟨i, rfl⟩ : ∃ i : Nat, x = i := ⟨x.toNat, by omega⟩
  obtain ⟨m, rfl⟩ : ∃ m : Nat, y = m := ⟨y.toNat, by omega⟩
  have hQ := posO_lt (hperm m (by omega))
  obtain ⟨-, hQf, hQx⟩ := posO_spec (oM M2) (m : Int) mt
  have hQx := hQx hQ
  generalize posO (oM M2) (m : Int) mt = Q at *
  refine am_by (c_M_wasPut (d := d) (q := Q) (by omega) hQx hQf (fun k hk => by have := n9 k (by omega); exact ⟨by omega, by omega⟩) ⟨by omega, by omega⟩) (by omega) ?_
  rintro r M3 ⟨rfl, rfl⟩
  rw [hp]
  by_cases qQ : Q < pu
  · rw [if_pos qQ, if_pos (by omega)]
    refine And.intro ⟨(by first | omega | (dsimp only [am_own]; omega)), (by first | omega | (dsimp only [am_own]; omega))⟩ (And.intro (fun h => absurd h (by decide)) (fun _ => ⟨rfl, rF.rf⟩))
  rw [if_neg qQ, if_neg (by omega)]
  obtain ⟨q, rfl⟩ : ∃ q, Q = pu + q := ⟨Q - pu, by omega⟩
  rw [show pu + q - pu = q by omega, show ((i : Int)).toNat = i from rfl]
  have e3 : (4 * (i : Int) + 3).toNat = i * 4 + 3 := by omega
  refine And.intro ⟨(by first | omega | (dsimp only [am_own]; omega)), (by first | omega | (dsimp only [am_own]; omega))⟩ (And.intro (fun _ => ?_) (fun h => absurd rfl h))
  refine And.intro ⟨(by first | omega | (dsimp only [am_own]; omega)), (by first | omega | (dsimp only [am_own]; omega))⟩ ?_
  refine am_by (c_M_putAside (d := d + 3)) (by omega) ?_
  rintro r M4 ⟨rfl, hA⟩
  have hT0 : tG i M3 M4 := ⟨hA.1.1, fun e p k a b c d1 f => hA.1.2 e p k (by omega), fun k _ _ _ => hA.1.2 0 41 k (by omega), fun e k _ => hA.1.2 e 42 k (by omega), fun k _ => hA.1.2 0 47 k (by omega), fun k hk => by have := hA.2.1 k hk; rw [Nat.zero_add] at this; exact this⟩
  have fin : ∀ (had v : Int) (c : Int) (M5 : Am_M), had = M3.1 0 42 (i * 4 + 3) → tG i M3 M5 → am_At Γ (d + 6) n_M_turn 102 [some (.inr (.inr (0, 41))), some (.inl (i : Int)), some (.inl (m : Int)), some (.inl had), some (.inl v), some (.inl c)] [] M5 (fun r M' => r = some (.inl v) ∧ rF M3 M') := by
    intro had v c M5 hh h
    subst hh
    refine am_go 60 [] (by decide) ?_
    refine And.intro ⟨(by first | omega | (dsimp only [am_own]; omega)), (by first | omega | (dsimp only [am_own]; omega))⟩ ?_
    refine ⟨rfl, h.1, fun e p k a b c d1 => ?_, fun k a b c => ?_, fun k hk => ?_⟩
    · by_cases q2 : p = 42
      · subst q2
        by_cases q3 : e = 0 ∧ k = i * 4 + 3
        · obtain ⟨rfl, rfl⟩ := q3
          rw [e3]; exact set_eq
        · by_cases q4 : k = i * 4 + 3
          · have : e ≠ 0 := fun z => q3 ⟨z, q4⟩
            show (am_set M5 0 42 (4 * (i : Int) + 3).toNat _).1 e 42 k = _
            simp only [am_set, this, and_false, if_false]
            exact h.2.2.2.1 e k (Or.inl this)
          · rw [e3, set_k q4]; exact h.2.2.2.1 e k (Or.inr q4)
      · rw [set_p q2]; exact h.2.1 e p k a q2 b c d1
    · rw [set_p (by decide)]; exact h.2.2.1 k a b c
    · rw [set_p (by decide)]; exact h.2.2.2.2.1 k hk
  have loop : ∀ (had : Int), had = M3.1 0 42 (i * 4 + 3) → ∀ (k : Nat) (c : Int) (M5 : Am_M), c + k = 10 → 1 ≤ c → tG i M3 M5 → am_At Γ (d + 6) n_M_turn 51 [some (.inr (.inr (0, 41))), some (.inl (i : Int)), some (.inl (m : Int)), some (.inl had), some (.inl (-1)), some (.inl c)] [] M5 (fun r M' => r = some (.inl (turnS (rV M3) n i q k c)) ∧ rF M3 M') := by
    intro had hhad k
    induction k with
    | zero =>
      intro c M5 hc h1 hT
      refine am_go 60 [51, 102] (by decide) ?_
      refine And.intro ⟨⟨(by first | omega | (dsimp only [am_own]; omega)), (by first | omega | (dsimp only [am_own]; omega))⟩, ⟨(by first | omega | (dsimp only [am_own]; omega)), (by first | omega | (dsimp only [am_own]; omega))⟩⟩ (And.intro (fun h => ?_) (fun h => ?_))
      · exfalso; omega
      · exact fin had (-1) c M5 hhad hT
    | succ k ih =>
      intro c M5 hc h1 hT
      refine am_go 60 [51, 102] (by decide) ?_
      refine And.intro ⟨⟨(by first | omega | (dsimp only [am_own]; omega)), (by first | omega | (dsimp only [am_own]; omega))⟩, ⟨(by first | omega | (dsimp only [am_own]; omega)), (by first | omega | (dsimp only [am_own]; omega))⟩⟩ (And.intro (fun h => ?_) (fun h => ?_))
      rotate_left
      · exfalso; omega
      refine And.intro ⟨⟨(by first | omega | (dsimp only [am_own]; omega)), (by first | omega | (dsimp only [am_own]; omega))⟩, ⟨(by first | omega | (dsimp only [am_own]; omega)), (by first | omega | (dsimp only [am_own]; omega))⟩⟩ (And.intro (fun _ => ?_) (fun h => absurd rfl h))
      refine And.intro ⟨(by first | omega | (dsimp only [am_own]; omega)), (by first | omega | (dsimp only [am_own]; omega))⟩ ?_
      rw [e3]
      obtain ⟨hM6, hv6⟩ := tG_view (c := c) hM hT (by omega) (by omega)
      have w47 : ∀ k, k < 92 → (am_set M5 0 42 (i * 4 + 3) c).1 0 47 k = M3.1 0 47 k := fun k hk => by rw [set_p (by decide)]; exact hT.2.2.2.2.1 k hk
      refine am_by (c_M_putTo (d := d) (M := am_set M5 0 42 (i * 4 + 3) c) (pu := pu) (q := q) (x := m) hM6 ((w47 0 (by omega)).trans hp) (by omega) ((w47 _ (by omega)).trans hQx) (fun k hk => by rw [w47 _ (by omega)]; exact hQf k hk)) (by omega) ?_
      rintro r M7 ⟨rfl, hO⟩
      have hwT : wfV (tV (rV M3) i c) n mt := tV_wf (rV_wf hM (by omega)) (by omega)
      have hw6 := veq_wf hv6.symm hwT
      have h03 : rV (am_set M5 0 42 (i * 4 + 3) c) 0 3 = pu := (w47 0 (by omega)).trans hp
      have hit := iterV_congr q _ _ hv6 hw6 (by omega)
      have hcar : carV (iterV n q (rV (am_set M5 0 42 (i * 4 + 3) c))) n = carV (iterV n q (tV (rV M3) i c)) n := carV_congr hit (iterV_wf q _ hw6 (by omega)) (by rw [iterV_03]; omega)
      rw [hcar, turnS]
      have c01 := carV_01 (iterV n q (tV (rV M3) i c)) n
      have back : ∀ M8, cpO M7 48 0 47 0 M8 → tG i M3 M8 := by
        intro M8 hB
        have k48 : ∀ k, k < 92 → M7.1 0 48 k = M3.1 0 47 k := fun k hk => by rw [hO.1.2.1 0 48 k (by omega) (by omega) (by omega), set_p (by decide)]; exact hT.2.2.2.2.2 k hk
        refine ⟨hB.1.1.trans (hO.1.1.trans hT.1), fun e p k a b c d1 f => ?_, fun k a b c => ?_, fun e k hk => ?_, fun k hk => ?_, fun k hk => ?_⟩
        · rw [hB.1.2 e p k (by omega), hO.1.2.1 e p k a (by omega) f, set_p b]; exact hT.2.1 e p k a b c d1 f
        · rw [hB.1.2 0 41 k (by omega), hO.1.2.2 k a b c, set_p (by decide)]; exact hT.2.2.1 k a b c
        · rw [hB.1.2 e 42 k (by omega), hO.1.2.1 e 42 k (by omega) (by omega) (by omega)]
          rcases hk with hk | hk
          · simp only [am_set, hk, and_false, if_false]; exact hT.2.2.2.1 e k (Or.inl hk)
          · rw [set_k hk]; exact hT.2.2.2.1 e k (Or.inr hk)
        · have := hB.2.1 k hk
          rw [Nat.zero_add] at this
          rw [this]; exact k48 k hk
        · rw [hB.1.2 0 48 k (by omega)]; exact k48 k hk
      refine And.intro ⟨(by first | omega | (dsimp only [am_own]; omega)), (by first | omega | (dsimp only [am_own]; omega))⟩ (And.intro (fun h2 => ?_) (fun h2 => ?_))
      · have h2 : carV (iterV n q (tV (rV M3) i c)) n = 0 := h2
        rw [if_neg (by omega)]
        refine am_by (c_M_putBack (d := d + 3)) (by omega) ?_
        rintro r M8 ⟨rfl, hB⟩
        exact ih (c + 1) M8 (by omega) (by omega) (back M8 hB)
      · have h2 : ¬ carV (iterV n q (tV (rV M3) i c)) n = 0 := h2
        rw [if_pos (by omega)]
        refine am_by (c_M_putBack (d := d + 3)) (by omega) ?_
        rintro r M8 ⟨rfl, hB⟩
        refine am_go 60 [102] (by decide) ?_
        refine And.intro ⟨⟨(by first | omega | (dsimp only [am_own]; omega)), (by first | omega | (dsimp only [am_own]; omega))⟩, ⟨(by first | omega | (dsimp only [am_own]; omega)), (by first | omega | (dsimp only [am_own]; omega))⟩⟩ (And.intro (fun _ => ?_) (fun _ => fin had c _ M8 hhad (back M8 hB)))
        refine And.intro ⟨⟨(by first | omega | (dsimp only [am_own]; omega)), (by first | omega | (dsimp only [am_own]; omega))⟩, ⟨(by first | omega | (dsimp only [am_own]; omega)), (by first | omega | (dsimp only [am_own]; omega))⟩⟩ (And.intro (fun h => ?_) (fun _ => fin had c _ M8 hhad (back M8 hB)))
        exfalso; omega
  exact loop _ (congrArg _ e3) 9 1 M4 (by omega) (by omega) hT0
