/-! orders: the reference lays one -/
theorem c_M_comeSet {Γ : Am_G} {d : Nat} {M : Am_M} {n mt pu : Nat} (hM : wfM M n mt) (hp : M.1 0 47 0 = pu) (hpm : pu ≤ mt) : am_Ev Γ (d + 1) n_M_comeSet [.inr (.inr (0, 41))] M (fun r M' => r = some (.inl (comeL (oM M) (mt - pu) pu 0)) ∧ M' = M) := by
  obtain ⟨⟨n1, n2, n3, n4⟩, n5, n6, n7, n8, n9, n10, n11⟩ := id hM
  have loop : ∀ (k i : Nat) (acc : Int), i + k = mt → am_At Γ (d + 1) n_M_comeSet 9 [some (.inr (.inr (0, 41))), some (.inl acc), some (.inl (i : Int))] [] M (fun r M' => r = some (.inl (comeL (oM M) k i acc)) ∧ M' = M) := by
    intro k
    induction k with
    | zero =>
      intro i acc hi
      refine am_go 60 [9] (by decide) ?_
      refine And.intro ⟨⟨(by first | omega | (dsimp only [am_own]; omega)), (by first | omega | (dsimp only [am_own]; omega))⟩, (show am_R (M.1 0 41 2) from ⟨(by first | omega | (dsimp only [am_own]; omega)), (by first | omega | (dsimp only [am_own]; omega))⟩)⟩ (And.intro (fun h => ?_) (fun h => ⟨rfl, rfl⟩))
      exfalso
      have h : (i : Int) < M.1 0 41 2 := h
      omega
    | succ k ih =>
      intro i acc hi
      refine am_go 60 [9] (by decide) ?_
      refine And.intro ⟨⟨(by first | omega | (dsimp only [am_own]; omega)), (by first | omega | (dsimp only [am_own]; omega))⟩, (show am_R (M.1 0 41 2) from ⟨(by first | omega | (dsimp only [am_own]; omega)), (by first | omega | (dsimp only [am_own]; omega))⟩)⟩ (And.intro (fun h => ?_) (fun h => ?_))
      · refine And.intro ⟨(by first | omega | (dsimp only [am_own]; omega)), (by first | omega | (dsimp only [am_own]; omega))⟩ ?_
        rw [show (1 + (i : Int)).toNat = 1 + i by omega]
        exact ih (i + 1) _ (by omega)
      · exfalso
        have h : ¬ (i : Int) < M.1 0 41 2 := h
        omega
  refine am_ev_of (by decide) (am_le rfl) (am_go 60 [9] (by decide) ?_)
  refine And.intro ⟨(by first | omega | (dsimp only [am_own]; omega)), (by first | omega | (dsimp only [am_own]; omega))⟩ ?_
  have go := loop (mt - pu) pu 0 (by omega)
  rw [← hp] at go
  exact go
theorem comeL_bt {ord : Nat → Int} : ∀ (k i : Nat) (acc : Int), (∀ j, i ≤ j → j < i + k → 0 ≤ ord j ∧ ord j < 5) → ∀ b, b < 32 → (bt (comeL ord k i acc) b = true ↔ bt acc b = true ∨ ∃ j, i ≤ j ∧ j < i + k ∧ ord j = b)
  | 0, i, acc, _, b, _ => ⟨Or.inl, fun h => h.elim id (fun ⟨j, a, c, _⟩ => by omega)⟩
  | k + 1, i, acc, ho, b, hb => by
    have hi := ho i (Nat.le_refl i) (by omega)
    rw [comeL, comeL_bt k (i + 1) _ (fun j a c => ho j (by omega) (by omega)) b hb, bt_or, Bool.or_eq_true]
    have e : bt (am_shl 1 (ord i)) b = true ↔ ord i = b := by
      have := bt_shl1 (ord i).toNat (by omega) b hb
      rw [show (((ord i).toNat : Nat) : Int) = ord i by omega] at this
      rw [this]
      exact ⟨fun z => by have := of_decide_eq_true z; omega, fun z => decide_eq_true (by omega)⟩
    rw [e]
    constructor
    · rintro ((h | h) | ⟨j, a, c, h⟩)
      · exact Or.inl h
      · exact Or.inr ⟨i, Nat.le_refl i, by omega, h⟩
      · exact Or.inr ⟨j, by omega, by omega, h⟩
    · rintro (h | ⟨j, a, c, h⟩)
      · exact Or.inl (Or.inl h)
      · by_cases q : j = i
        · subst q; exact Or.inl (Or.inr h)
        · exact Or.inr ⟨j, by omega, by omega, h⟩
theorem comeL_R {ord : Nat → Int} : ∀ (k i : Nat) (acc : Int), am_R acc → am_R (comeL ord k i acc)
  | 0, _, _, h => h
  | k + 1, i, acc, _ => comeL_R k (i + 1) _ (am_R_or _ _)
/-- place p of a code's order -/
def dgP (mt code p : Nat) : Nat := code / mt ^ (mt - 1 - p) % mt
theorem dgP_lt {mt code p : Nat} (h : 0 < mt) : dgP mt code p < mt := Nat.mod_lt _ h
/-- an order laid -/
def loL (M : Am_M) (mt pu code : Nat) (M' : Am_M) : Prop := am_same (fun e p => e = 0 ∧ p = 47) M M' ∧ (∀ p, pu ≤ p → p < mt → M'.1 0 47 (1 + p) = dgP mt code p) ∧ (∀ k, (k < 1 + pu ∨ 1 + mt ≤ k) → M'.1 0 47 k = M.1 0 47 k)
theorem c_M_layOrder {Γ : Am_G} {d : Nat} {M : Am_M} {n mt pu code : Nat} {o : Nat → Int} (hM : wfM M n mt) (hpm : pu ≤ mt) (hp : M.1 0 48 0 = pu) (ho : ∀ k, k < mt → M.1 0 48 (1 + k) = o k) (hob : ∀ k, k < mt → 0 ≤ o k ∧ o k < mt) (hc : code < mt ^ (mt - pu)) (hc5 : code < 3126) : am_Ev Γ (d + 1) n_M_layOrder [.inr (.inr (0, 41)), .inl (code : Int)] M (fun r M' => loL M mt pu code M' ∧ ((r = some (.inl 1) ∧ ∀ b : Nat, (∃ p, pu ≤ p ∧ p < mt ∧ dgP mt code p = b) ↔ ∃ p, pu ≤ p ∧ p < mt ∧ o p = b) ∨ (r = some (.inl 0) ∧ ¬ ∀ b : Nat, (∃ p, pu ≤ p ∧ p < mt ∧ dgP mt code p = b) ↔ ∃ p, pu ≤ p ∧ p < mt ∧ o p = b))) := by
  obtain ⟨⟨n1, n2, n3, n4⟩, n5, n6, n7, n8, n9, n10, n11⟩ := id hM
  -- those that come
  have second : ∀ (M1 : Am_M) (left met : Int), loL M mt pu code M1 → am_R met → (∀ b, b < 32 → (bt met b = true ↔ ∃ p, pu ≤ p ∧ p < mt ∧ dgP mt code p = b)) → ∀ (k i : Nat) (acc : Int), i + k = mt → pu ≤ i → am_R acc → (∀ b, b < 32 → (bt acc b = true ↔ ∃ p, pu ≤ p ∧ p < i ∧ o p = b)) → am_At Γ (d + 1) n_M_layOrder 76 [some (.inr (.inr (0, 41))), some (.inl (code : Int)), some (.inl left), some (.inl met), some (.inl acc), some (.inl (i : Int))] [] M1 (fun r M' => loL M mt pu code M' ∧ ((r = some (.inl 1) ∧ ∀ b : Nat, (∃ p, pu ≤ p ∧ p < mt ∧ dgP mt code p = b) ↔ ∃ p, pu ≤ p ∧ p < mt ∧ o p = b) ∨ (r = some (.inl 0) ∧ ¬ ∀ b : Nat, (∃ p, pu ≤ p ∧ p < mt ∧ dgP mt code p = b) ↔ ∃ p, pu ≤ p ∧ p < mt ∧ o p = b))) := by
    intro M1 left met hL hmR hmb k
    have e2 : M1.1 0 41 2 = mt := (hL.1.2 0 41 2 (by omega)).trans n3
    induction k with
    | zero =>
      intro i acc hi hpi hR hb
      have : i = mt := by omega
      subst this
      refine am_go 60 [76] (by decide) ?_
      refine And.intro ⟨⟨(by first | omega | (dsimp only [am_own]; omega)), (by first | omega | (dsimp only [am_own]; omega))⟩, (show am_R (M1.1 0 41 2) from ⟨(by first | omega | (dsimp only [am_own]; omega)), (by first | omega | (dsimp only [am_own]; omega))⟩)⟩ (And.intro (fun h => ?_) (fun h => ?_))
      · exfalso
        have h : (i : Int) < M1.1 0 41 2 := h
        omega
      have small : ∀ b : Nat, (∃ p, pu ≤ p ∧ p < i ∧ dgP i code p = b) → b < 32 := fun b ⟨p, a1, a2, a3⟩ => by have := dgP_lt (mt := i) (code := code) (p := p) (by omega); omega
      have small2 : ∀ b : Nat, (∃ p, pu ≤ p ∧ p < i ∧ o p = b) → b < 32 := fun b ⟨p, a1, a2, a3⟩ => by have := hob p a2; omega
      refine And.intro ⟨hmR, hR⟩ (And.intro (fun h2 => ?_) (fun h2 => ?_))
      · have h2 : met = acc := h2
        refine And.intro (Or.inr rfl) ⟨hL, Or.inl ⟨rfl, fun b => ⟨fun hz => ?_, fun hz => ?_⟩⟩⟩
        · have hb32 := small b hz
          rw [← hb b hb32, ← h2]
          exact (hmb b hb32).mpr hz
        · have hb32 := small2 b hz
          rw [← hmb b hb32, h2]
          exact (hb b hb32).mpr hz
      · have h2 : ¬ met = acc := h2
        refine And.intro (Or.inl rfl) ⟨hL, Or.inr ⟨rfl, fun hall => h2 (bt_ext hmR hR (fun b hb32 => ?_))⟩⟩
        have q1 := hmb b hb32
        have q2 := hb b hb32
        rw [hall b, ← q2] at q1
        exact Bool.eq_iff_iff.mpr q1
    | succ k ih =>
      intro i acc hi hpi hR hb
      have e48 : M1.1 0 48 (1 + i) = o i := (hL.1.2 0 48 _ (by omega)).trans (ho i (by omega))
      have hoi := hob i (by omega)
      refine am_go 60 [76] (by decide) ?_
      refine And.intro ⟨⟨(by first | omega | (dsimp only [am_own]; omega)), (by first | omega | (dsimp only [am_own]; omega))⟩, (show am_R (M1.1 0 41 2) from ⟨(by first | omega | (dsimp only [am_own]; omega)), (by first | omega | (dsimp only [am_own]; omega))⟩)⟩ (And.intro (fun h => ?_) (fun h => ?_))
      · refine And.intro ⟨(by first | omega | (dsimp only [am_own]; omega)), (by first | omega | (dsimp only [am_own]; omega))⟩ ?_
        have go := ih (i + 1) (am_or acc (am_shl 1 (o i))) (by omega) (by omega) (am_R_or _ _) (fun b hb32 => by
          have h1 := comeL_bt (ord := o) 1 i acc (fun j a c => by have := hob j (by omega); omega) b hb32
          have h2 : comeL o 1 i acc = am_or acc (am_shl 1 (o i)) := rfl
          rw [h2] at h1
          rw [h1, hb b hb32]
          constructor
          · rintro (⟨p, a1, a2, a3⟩ | ⟨p, a1, a2, a3⟩)
            · exact ⟨p, a1, by omega, a3⟩
            · exact ⟨p, by omega, by omega, a3⟩
          · rintro ⟨p, a1, a2, a3⟩
            by_cases q : p = i
            · exact Or.inr ⟨p, by omega, by omega, a3⟩
            · exact Or.inl ⟨p, a1, by omega, a3⟩)
        have e48' : M1.1 0 48 (1 + (i : Int)).toNat = o i := by rw [show (1 + (i : Int)).toNat = 1 + i by omega]; exact e48
        rw [← e48'] at go
        exact go
      · exfalso
        have h : ¬ (i : Int) < M1.1 0 41 2 := h
        omega
  have first : ∀ (k left : Nat) (met : Int) (z : Option Am_V) (M1 : Am_M), pu + k ≤ mt → left = code / mt ^ (mt - pu - k) → am_R met → (∀ b, b < 32 → (bt met b = true ↔ ∃ p, pu + k ≤ p ∧ p < mt ∧ dgP mt code p = b)) → am_same (fun e p => e = 0 ∧ p = 47) M M1 → (∀ p, pu + k ≤ p → p < mt → M1.1 0 47 (1 + p) = dgP mt code p) → (∀ j, (j < 1 + (pu + k) ∨ 1 + mt ≤ j) → M1.1 0 47 j = M.1 0 47 j) → am_At Γ (d + 1) n_M_layOrder 12 [some (.inr (.inr (0, 41))), some (.inl (code : Int)), some (.inl (left : Int)), some (.inl met), some (.inl (((pu + k : Nat) : Int) - 1)), z] [] M1 (fun r M' => loL M mt pu code M' ∧ ((r = some (.inl 1) ∧ ∀ b : Nat, (∃ p, pu ≤ p ∧ p < mt ∧ dgP mt code p = b) ↔ ∃ p, pu ≤ p ∧ p < mt ∧ o p = b) ∨ (r = some (.inl 0) ∧ ¬ ∀ b : Nat, (∃ p, pu ≤ p ∧ p < mt ∧ dgP mt code p = b) ↔ ∃ p, pu ≤ p ∧ p < mt ∧ o p = b))) := by
    intro k
    induction k with
    | zero =>
      intro left met z M1 hk hl hmR hmb hs hd hr
      have e48 : M1.1 0 48 0 = pu := (hs.2 0 48 0 (by omega)).trans hp
      refine am_go 60 [12, 76] (by decide) ?_
      refine And.intro ⟨(by first | omega | (dsimp only [am_own]; omega)), (by first | omega | (dsimp only [am_own]; omega))⟩ ?_
      refine And.intro ⟨⟨by omega, by omega⟩, (show am_R (M1.1 0 48 0) from ⟨(by first | omega | (dsimp only [am_own]; omega)), (by first | omega | (dsimp only [am_own]; omega))⟩)⟩ (And.intro (fun h => ?_) (fun h => ?_))
      · refine And.intro ⟨(by first | omega | (dsimp only [am_own]; omega)), (by first | omega | (dsimp only [am_own]; omega))⟩ ?_
        have go := second M1 (left : Int) met ⟨hs, hd, hr⟩ hmR hmb (mt - pu) pu 0 (by omega) (Nat.le_refl pu) am_R0 (fun b _ => by rw [bt_0]; exact ⟨fun z => absurd z Bool.false_ne_true, fun ⟨p, a1, a2, _⟩ => by omega⟩)
        rw [← e48] at go
        exact go
      · exfalso
        have h : ¬ (((pu + 0 : Nat) : Int) - 1 < M1.1 0 48 0) := h
        omega
    | succ k ih =>
      intro left met z M1 hk hl hmR hmb hs hd hr
      have e48 : M1.1 0 48 0 = pu := (hs.2 0 48 0 (by omega)).trans hp
      have e2 : M1.1 0 41 2 = mt := (hs.2 0 41 2 (by omega)).trans n3
      have hmt : 0 < mt := by omega
      have hlc : left ≤ code := by rw [hl]; exact Nat.div_le_self _ _
      have x1 : (1 + (((pu + (k + 1) : Nat) : Int) - 1)).toNat = 1 + (pu + k) := by omega
      have edg : left % mt = dgP mt code (pu + k) := by
        unfold dgP
        rw [hl, show mt - pu - (k + 1) = mt - 1 - (pu + k) by omega]
      have st38 : ∀ (M2 : Am_M), M2 = am_set M1 0 47 (1 + (pu + k)) ((left % mt : Nat) : Int) → am_At Γ (d + 1) n_M_layOrder 38 [some (.inr (.inr (0, 41))), some (.inl (code : Int)), some (.inl (left : Int)), some (.inl met), some (.inl (((pu + (k + 1) : Nat) : Int) - 1)), z] [] M2 (fun r M' => loL M mt pu code M' ∧ ((r = some (.inl 1) ∧ ∀ b : Nat, (∃ p, pu ≤ p ∧ p < mt ∧ dgP mt code p = b) ↔ ∃ p, pu ≤ p ∧ p < mt ∧ o p = b) ∨ (r = some (.inl 0) ∧ ¬ ∀ b : Nat, (∃ p, pu ≤ p ∧ p < mt ∧ dgP mt code p = b) ↔ ∃ p, pu ≤ p ∧ p < mt ∧ o p = b))) := by
        intro M2 hM2
        have e22 : M2.1 0 41 2 = mt := by rw [hM2, set_p (by decide)]; exact e2
        have e47 : M2.1 0 47 (1 + (pu + k)) = ((left % mt : Nat) : Int) := by rw [hM2]; exact set_eq
        have hdl : left % mt < mt := Nat.mod_lt _ hmt
        refine am_go 60 [12] (by decide) ?_
        refine And.intro (show 0 ≤ (left : Int) ∧ am_R (left : Int) ∧ 0 < M2.1 0 41 2 ∧ am_R (M2.1 0 41 2) from ⟨by omega, ⟨by omega, by omega⟩, by omega, ⟨by omega, by omega⟩⟩) ?_
        refine And.intro ⟨(by first | omega | (dsimp only [am_own]; omega)), (by first | omega | (dsimp only [am_own]; omega))⟩ ?_
        have go := ih (left / mt) (am_or met (am_shl 1 ((left % mt : Nat) : Int))) z M2 (by omega) (by rw [hl, Nat.div_div_eq_div_mul, ← Nat.pow_succ, show (mt - pu - (k + 1)).succ = mt - pu - k by omega]) (am_R_or _ _) (fun b hb32 => by
          rw [bt_or, Bool.or_eq_true, bt_shl1 _ (by omega) b hb32, hmb b hb32, edg]
          constructor
          · rintro (⟨p, a1, a2, a3⟩ | h)
            · exact ⟨p, by omega, a2, a3⟩
            · exact ⟨pu + k, Nat.le_refl _, by omega, (of_decide_eq_true h).symm⟩
          · rintro ⟨p, a1, a2, a3⟩
            by_cases q : p = pu + k
            · exact Or.inr (decide_eq_true (by rw [← q]; exact a3.symm))
            · exact Or.inl ⟨p, by omega, a2, a3⟩) (by rw [hM2]; exact hs.set ⟨rfl, rfl⟩) (fun p a1 a2 => by
          by_cases q : p = pu + k
          · rw [q, e47, edg]
          · rw [hM2, set_k (by omega)]; exact hd p (by omega) a2) (fun j hj => by rw [hM2, set_k (by omega)]; exact hr j (by omega))
        have ed : (((left / mt : Nat)) : Int) = (left : Int) / M2.1 0 41 2 := by rw [e22]; exact Int.natCast_ediv left mt
        have e47' : M2.1 0 47 (1 + (((pu + (k + 1) : Nat) : Int) - 1)).toNat = ((left % mt : Nat) : Int) := by rw [x1]; exact e47
        rw [ed, ← e47', show (((pu + k : Nat)) : Int) - 1 = (((pu + (k + 1) : Nat) : Int) - 1) + -1 by push_cast; omega] at go
        exact go
      refine am_go 60 [38, 76] (by decide) ?_
      refine And.intro ⟨(by first | omega | (dsimp only [am_own]; omega)), (by first | omega | (dsimp only [am_own]; omega))⟩ ?_
      refine And.intro ⟨⟨by omega, by omega⟩, (show am_R (M1.1 0 48 0) from ⟨(by first | omega | (dsimp only [am_own]; omega)), (by first | omega | (dsimp only [am_own]; omega))⟩)⟩ (And.intro (fun h => ?_) (fun h => ?_))
      · exfalso
        have h : (((pu + (k + 1) : Nat) : Int) - 1 < M1.1 0 48 0) := h
        omega
      refine And.intro (show 0 ≤ (left : Int) ∧ am_R (left : Int) ∧ 0 < M1.1 0 41 2 ∧ am_R (M1.1 0 41 2) from ⟨by omega, ⟨by omega, by omega⟩, by omega, ⟨by omega, by omega⟩⟩) ?_
      refine And.intro (show 0 ≤ 1 + (((pu + (k + 1) : Nat) : Int) - 1) ∧ 1 + (((pu + (k + 1) : Nat) : Int) - 1) < 92 from ⟨by omega, by omega⟩) ?_
      refine st38 _ ?_
      show am_set M1 0 47 (1 + (((pu + (k + 1) : Nat) : Int) - 1)).toNat ((left : Int) % M1.1 0 41 2) = _
      rw [x1, e2]
      rfl
  refine am_ev_of (by decide) (am_le rfl) (am_go 60 [12] (by decide) ?_)
  have go := first (mt - pu) code 0 none M (by omega) (by rw [Nat.sub_self, Nat.pow_zero, Nat.div_one]) am_R0 (fun b _ => by rw [bt_0]; exact ⟨fun z => absurd z Bool.false_ne_true, fun ⟨p, a1, a2, _⟩ => by omega⟩) am_same.rf (fun p a1 a2 => by omega) (fun j hj => rfl)
  rw [show pu + (mt - pu) = mt by omega, ← n3] at go
  exact go
