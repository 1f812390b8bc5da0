/-! the class's vote: wanted, begin -/
theorem mul_b {a b A B : Int} (h : 0 ≤ a ∧ a ≤ A) (h' : 0 ≤ b ∧ b ≤ B) : 0 ≤ a * b ∧ a * b ≤ A * B := ⟨Int.mul_nonneg h.1 h'.1, Int.mul_le_mul h.2 h'.2 h'.1 (by omega)⟩
/-- memory is the same but in some cells -/
def am_same (P : Nat → Nat → Prop) (M M' : Am_M) : Prop := M'.2 = M.2 ∧ ∀ e p k, ¬ P e p → M'.1 e p k = M.1 e p k
theorem am_same.rf {P : Nat → Nat → Prop} {M : Am_M} : am_same P M M := ⟨rfl, fun _ _ _ _ => rfl⟩
theorem am_same.tr {P : Nat → Nat → Prop} {M M' M'' : Am_M} (h : am_same P M M') (h' : am_same P M' M'') : am_same P M M'' := ⟨h'.1.trans h.1, fun e p k hp => (h'.2 e p k hp).trans (h.2 e p k hp)⟩
theorem am_same.wk {P Q : Nat → Nat → Prop} {M M' : Am_M} (h : am_same P M M') (hq : ∀ e p, P e p → Q e p) : am_same Q M M' := ⟨h.1, fun e p k hp => h.2 e p k (fun z => hp (hq e p z))⟩
theorem am_same.set {P : Nat → Nat → Prop} {M M' : Am_M} {e p k : Nat} {v : Int} (h : am_same P M M') (hp : P e p) : am_same P M (am_set M' e p k v) := ⟨h.1, fun e' p' k' hn => by
  rw [← h.2 e' p' k' hn]
  unfold am_set
  dsimp only
  rw [if_neg]
  rintro ⟨-, rfl, rfl⟩
  exact hn hp⟩
theorem set_eq {M : Am_M} {e p k : Nat} {v : Int} : (am_set M e p k v).1 e p k = v := by simp [am_set]
theorem set_p {M : Am_M} {e p k e' p' k' : Nat} {v : Int} (h : p' ≠ p) : (am_set M e p k v).1 e' p' k' = M.1 e' p' k' := by simp [am_set, h]
theorem set_k {M : Am_M} {e p k e' p' k' : Nat} {v : Int} (h : k' ≠ k) : (am_set M e p k v).1 e' p' k' = M.1 e' p' k' := by simp [am_set, h]
theorem set_e {M : Am_M} {e p k e' p' k' : Nat} {v : Int} (h : e' ≠ e) : (am_set M e p k v).1 e' p' k' = M.1 e' p' k' := by simp [am_set, h]
theorem vt_wish {hold wo left told : Int} {k : Nat} (h : wo ≠ 0) : (if wishS k hold (if 0 ≤ wo then wo else 0 - wo) left told < left then wishS k hold (if 0 ≤ wo then wo else 0 - wo) left told else left) = vt_want hold wo left (k : Int) told := by
  unfold vt_want wishS
  rw [if_neg h]
  have e1 : ((k : Int) < 2) = (k < 2) := by simp; omega
  have e2 : ((k : Int) = 2) = (k = 2) := by simp; omega
  simp only [e1, e2]
theorem c_wanted {Γ : Am_G} {d : Nat} {M : Am_M} {e : Nat} {x y : Int} (hx : 0 ≤ x ∧ x < 6) (hy : 0 ≤ y ∧ y < 5) (hk : 0 ≤ M.1 e 2 x.toNat ∧ M.1 e 2 x.toNat ≤ 3) (hw : -9 ≤ M.1 0 20 (x * 5 + y).toNat ∧ M.1 0 20 (x * 5 + y).toNat ≤ 9) (hh : 1 ≤ M.1 0 18 4 ∧ M.1 0 18 4 ≤ 9) (hl : 0 ≤ M.1 e 7 x.toNat ∧ M.1 e 7 x.toNat ≤ 99) (ht : 0 ≤ M.1 e 8 (x * 5 + y).toNat ∧ M.1 e 8 (x * 5 + y).toNat ≤ 99) :
    am_Ev Γ (d + 3) n_Vote_wanted [.inr (.inr (0, 25)), .inr (.inr (e, 0)), .inl x, .inl y] M (fun r M' => r = some (.inl (vt_want (M.1 0 18 4) (M.1 0 20 (x * 5 + y).toNat) (M.1 e 7 x.toNat) (M.1 e 2 x.toNat) (M.1 e 8 (x * 5 + y).toNat))) ∧ M' = M) := by
  refine am_ev_of (by decide) (am_le rfl) (am_go 60 [] (by decide) ?_)
  refine am_by (c_place (d := d + 1) x y) (by omega) ?_
  rintro r M' ⟨rfl, rfl⟩
  refine And.intro ⟨(by first | omega | (dsimp only [am_own]; omega)), (by first | omega | (dsimp only [am_own]; omega))⟩ ?_
  refine And.intro ⟨(by first | omega | (dsimp only [am_own]; omega)), (by first | omega | (dsimp only [am_own]; omega))⟩ (And.intro (fun h0 => ?_) (fun h0 => ?_))
  · have h0 : M'.1 0 20 (x * 5 + y).toNat = 0 := h0
    exact ⟨by rw [vt_want, if_pos h0], rfl⟩
  · have h0 : ¬ M'.1 0 20 (x * 5 + y).toNat = 0 := h0
    refine And.intro ⟨(by first | omega | (dsimp only [am_own]; omega)), (by first | omega | (dsimp only [am_own]; omega))⟩ ?_
    refine And.intro ⟨(by first | omega | (dsimp only [am_own]; omega)), (by first | omega | (dsimp only [am_own]; omega))⟩ ?_
    obtain ⟨k, hk0⟩ : ∃ k : Nat, M'.1 e 2 x.toNat = k := ⟨(M'.1 e 2 x.toNat).toNat, by omega⟩
    have hv := c_voterOf (Γ := Γ) (d := d + 1) (M := M') (k := k) (by omega)
    rw [← hk0] at hv
    refine am_by hv (by omega) ?_
    rintro r M'' ⟨rfl, rfl⟩
    refine And.intro ⟨⟨(by first | omega | (dsimp only [am_own]; omega)), (by first | omega | (dsimp only [am_own]; omega))⟩, by omega, am_le rfl⟩ ?_
    refine And.intro ⟨(by first | omega | (dsimp only [am_own]; omega)), (by first | omega | (dsimp only [am_own]; omega))⟩ ?_
    refine am_wish (d := d + 1) (k := k) (by omega) (am_le rfl) ?_
    refine am_go 10 [] (by decide) ?_
    have hb := mul_b (a := M''.1 0 18 4) (b := if 0 ≤ M''.1 0 20 (x * 5 + y).toNat then M''.1 0 20 (x * 5 + y).toNat else 0 - M''.1 0 20 (x * 5 + y).toNat) (A := 9) (B := 9) (by omega) (by split <;> omega)
    have hR : 0 ≤ wishS k (M''.1 0 18 4) (if 0 ≤ M''.1 0 20 (x * 5 + y).toNat then M''.1 0 20 (x * 5 + y).toNat else 0 - M''.1 0 20 (x * 5 + y).toNat) (M''.1 e 7 x.toNat) (M''.1 e 8 (x * 5 + y).toNat) ∧ wishS k (M''.1 0 18 4) (if 0 ≤ M''.1 0 20 (x * 5 + y).toNat then M''.1 0 20 (x * 5 + y).toNat else 0 - M''.1 0 20 (x * 5 + y).toNat) (M''.1 e 7 x.toNat) (M''.1 e 8 (x * 5 + y).toNat) ≤ 99 := by
      unfold wishS
      by_cases h1 : k < 2
      · rw [if_pos h1]; omega
      · rw [if_neg h1]
        by_cases h2 : k = 2
        · rw [if_pos h2]; omega
        · rw [if_neg h2]; omega
    refine And.intro ⟨⟨⟨(by first | omega | (dsimp only [am_own]; omega)), (by first | omega | (dsimp only [am_own]; omega))⟩, (show am_R (wishS k (M''.1 0 18 4) (if 0 ≤ M''.1 0 20 (x * 5 + y).toNat then M''.1 0 20 (x * 5 + y).toNat else 0 - M''.1 0 20 (x * 5 + y).toNat) (M''.1 e 7 x.toNat) (M''.1 e 8 (x * 5 + y).toNat)) from ⟨by omega, by omega⟩)⟩, by omega, am_le rfl⟩ ?_
    refine ⟨?_, rfl⟩
    rw [hk0]
    exact congrArg (fun z => some (Sum.inl z)) (vt_wish h0)
