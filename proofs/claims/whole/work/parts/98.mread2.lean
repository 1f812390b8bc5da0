/-! texts: the reference reads to the first fault -/
def rmS (j p k : Nat) : Prop := (p = 41 ∧ 8 ≤ k ∧ k ≤ 16) ∨ (p = 46 ∧ j * 4 ≤ k ∧ k < 48)
def rmK (j : Nat) (M1 : Am_M) (o : Int × List (Int × List Int)) (r : Option Am_V) (M' : Am_M) : Prop := r = some (.inl (if o.1 = -1 then 1 else 0)) ∧ tX (rmS j) M1 M' ∧ (o.1 ≠ -1 → M'.1 0 41 13 = o.1) ∧ (o.1 = -1 → M'.1 0 41 14 = ((j + o.2.length : Nat) : Int)) ∧ ∀ x w l, o.2[x]? = some (w, l) → M'.1 0 46 ((j + x) * 4) = rcW w ∧ ∀ i v, l[i]? = some v → i < 3 → M'.1 0 46 ((j + x) * 4 + 1 + i) = v
theorem c_M_readLoop {Γ : Am_G} {d n : Nat} {t : Nat → Int} : ∀ (k j p : Nat) (pe ma : Int) (M1 : Am_M), j + (k + 1) = 12 → (0 ≤ pe ∧ pe ≤ 6) → (0 ≤ ma ∧ ma ≤ 5) → p ≤ n → mW M1 n → M1.1 0 45 = t → M1.1 0 41 8 = p → M1.1 0 41 15 = pe → M1.1 0 41 16 = ma → M1.1 0 41 14 = (j : Int) → am_At Γ (d + 6) n_M_isRead 28 [some (.inr (.inr (0, 41))), some (.inl 1)] [] M1 (rmK j M1 (tread t n (k + 1) pe ma p)) := by
  have body : ∀ (k j p : Nat) (pe ma : Int) (M1 : Am_M), (k ≠ 0 → ∀ (p : Nat) (pe ma : Int) (M1 : Am_M), (0 ≤ pe ∧ pe ≤ 6) → (0 ≤ ma ∧ ma ≤ 5) → p ≤ n → mW M1 n → M1.1 0 45 = t → M1.1 0 41 8 = p → M1.1 0 41 15 = pe → M1.1 0 41 16 = ma → M1.1 0 41 14 = ((j + 1 : Nat) : Int) → am_At Γ (d + 6) n_M_isRead 28 [some (.inr (.inr (0, 41))), some (.inl 1)] [] M1 (rmK (j + 1) M1 (tread t n k pe ma p))) → j + (k + 1) = 12 → (0 ≤ pe ∧ pe ≤ 6) → (0 ≤ ma ∧ ma ≤ 5) → p ≤ n → mW M1 n → M1.1 0 45 = t → M1.1 0 41 8 = p → M1.1 0 41 15 = pe → M1.1 0 41 16 = ma → M1.1 0 41 14 = (j : Int) → am_At Γ (d + 6) n_M_isRead 28 [some (.inr (.inr (0, 41))), some (.inl 1)] [] M1 (rmK j M1 (tread t n (k + 1) pe ma p)) := by
    intro k j p pe ma M1 next hjk hpe hma hpn hW ht h8 h15 h16 h14
    have eR : tread t n (k + 1) pe ma p = match tline t n pe ma p with
      | .inl f => ((f : Int), [])
      | .inr q => if tkS t n q.1 = n then (-1, [(q.2.1, q.2.2)]) else if t (tkS t n q.1) = 59 ∧ k ≠ 0 then ((tread t n k (tcP q.2.1 pe) (tcM q.2.1 ma) (tkS t n q.1 + 1)).1, (q.2.1, q.2.2) :: (tread t n k (tcP q.2.1 pe) (tcM q.2.1 ma) (tkS t n q.1 + 1)).2) else ((tkS t n q.1 : Int), [(q.2.1, q.2.2)]) := rfl
    have hLb := tline_b t (pe := pe) (ma := ma) hpn
    refine am_go 60 [28] (by decide) ?_
    refine And.intro ⟨(by first | omega | (dsimp only [am_own]; omega)), (by first | omega | (dsimp only [am_own]; omega))⟩ (And.intro (fun h => absurd h (by decide)) (fun _ => ?_))
    have hc := c_M_isLine (Γ := Γ) (d := d) (n := n) (b := j * 4) (t := t) (M1 := M1) (by omega) hpe hma hpn hW ht h8 h15 h16
    rw [show ((j * 4 : Nat) : Int) = 4 * M1.1 0 41 14 by omega] at hc
    refine am_by hc (by omega) ?_
    rintro r M2 ⟨k1, k2, k3⟩
    obtain ⟨hW2, ht2⟩ := hW.fr k1 (by unfold mlS; omega) (fun k => by unfold mlS; omega)
    rw [ht] at ht2
    have k1' : tX (rmS j) M1 M2 := k1.wk (fun p k h => by unfold mlS at h; unfold rmS; omega)
    cases ho : tline t n pe ma p with
    | inl f =>
      obtain ⟨rfl, e13⟩ := k2 f ho
      refine And.intro ⟨(by first | omega | (dsimp only [am_own]; omega)), (by first | omega | (dsimp only [am_own]; omega))⟩ (And.intro (fun _ => ?_) (fun h => absurd rfl h))
      rw [ho] at eR
      rw [eR]
      refine ⟨Or.inl rfl, ?_, k1', fun _ => e13, fun z => ?_, fun x w l hx => by simp at hx⟩
      · show some (Sum.inl (0 : Int)) = some (Sum.inl (if (f : Int) = -1 then 1 else 0))
        rw [if_neg (by omega)]
      · exfalso
        have z : (f : Int) = -1 := z
        omega
    | inr q =>
      obtain ⟨rfl, e8, e15, e16, e46, e47⟩ := k3 q ho
      obtain ⟨b1, b2, b3, b4, b5⟩ := hLb.2 q ho
      have hcb := tc_b hpe hma b3
      rw [ho] at eR
      dsimp only at eR
      refine And.intro ⟨(by first | omega | (dsimp only [am_own]; omega)), (by first | omega | (dsimp only [am_own]; omega))⟩ (And.intro (fun h => absurd h (by decide)) (fun _ => ?_))
      have e14 : M2.1 0 41 14 = (j : Int) := (k1 0 41 14 (by unfold mlS; omega)).trans h14
      have hX3 : tX (fun p k => p = 41 ∧ k = 14) M2 (am_set M2 0 41 14 (M2.1 0 41 14 + 1)) := tX.rf.set ⟨rfl, rfl⟩
      obtain ⟨hW3, ht3⟩ := hW2.fr hX3 (by omega) (fun k => by omega)
      rw [ht2] at ht3
      have g14 : (am_set M2 0 41 14 (M2.1 0 41 14 + 1)).1 0 41 14 = (j : Int) + 1 := by rw [set_eq, e14]
      refine am_by (c_M_nextToken (d := d) (M := am_set M2 0 41 14 (M2.1 0 41 14 + 1)) (n := n) (p := q.1) hW3 ht3 ((hX3 0 41 8 (by omega)).trans e8) b1) (by omega) ?_
      rintro r M4 ⟨rfl, hX4, f9, f8, fv, -⟩
      obtain ⟨hW4, ht4⟩ := hW3.fr hX4 (by unfold mS; omega) (fun k => by unfold mS; omega)
      rw [ht3] at ht4
      have hsb := tkS_b t b1
      have htb := ttok_b t hsb.2
      have htk := ttok_kind t hsb.2
      generalize hsE : tkS t n q.1 = s at *
      have hX14 : tX (rmS j) M1 M4 := (k1'.tr (hX3.wk (fun p k h => Or.inl ⟨h.1, by omega, by omega⟩))).tr (hX4.wk (fun p k h => Or.inl ⟨h.1, h.2.1, by have := h.2.2; omega⟩))
      have f14 : M4.1 0 41 14 = (j : Int) + 1 := (hX4 0 41 14 (by unfold mS; omega)).trans g14
      have f46 : M4.1 0 46 (j * 4) = rcW q.2.1 := ((hX4 0 46 _ (by unfold mS; omega)).trans (hX3 0 46 _ (by omega))).trans e46
      have f47 : ∀ i v, q.2.2[i]? = some v → M4.1 0 46 (j * 4 + 1 + i) = v := fun i v hv => ((hX4 0 46 _ (by unfold mS; omega)).trans (hX3 0 46 _ (by omega))).trans (e47 i v hv)
      have eq64 : ∀ x : Int, -4 ≤ x ∧ x < 7625597484987 → (M4.2 = Int64.ofInt x ↔ ttok t n s = x) := fun x hx => by rw [fv]; exact of64 htb hx
      have rows : ∀ M5 : Am_M, (∀ k, M5.1 0 46 k = M4.1 0 46 k) → ∀ x w l, [(q.2.1, q.2.2)][x]? = some (w, l) → M5.1 0 46 ((j + x) * 4) = rcW w ∧ ∀ i v, l[i]? = some v → i < 3 → M5.1 0 46 ((j + x) * 4 + 1 + i) = v := fun M5 h5 x w l hx => by
        cases x with
        | zero =>
          simp at hx
          obtain ⟨rfl, rfl⟩ := hx
          exact ⟨(h5 _).trans f46, fun i v hv _ => (h5 _).trans (f47 i v hv)⟩
        | succ x => simp at hx
      have fin : ¬ (s ≠ n ∧ t s = 59 ∧ k ≠ 0) → am_At Γ (d + 6) n_M_isRead 28 [some (.inr (.inr (0, 41))), some (.inl 0)] [] M4 (rmK j M1 (tread t n (k + 1) pe ma p)) := by
        intro hq
        rw [eR]
        refine am_go 60 [] (by decide) ?_
        refine And.intro ⟨(by first | omega | (dsimp only [am_own]; omega)), (by first | omega | (dsimp only [am_own]; omega))⟩ (And.intro (fun _ => ?_) (fun h => absurd rfl h))
        refine And.intro (lc_b _ _) (And.intro (fun h => ?_) (fun h => ?_))
        · have h : ttok t n s = -2 := (eq64 _ (by omega)).mp ((lc_0 _ _).mp h)
          have hsn := htk.1.mp h
          rw [if_pos hsn]
          exact ⟨Or.inr rfl, rfl, hX14, fun z => absurd rfl z, fun _ => f14, rows M4 (fun _ => rfl)⟩
        · have h : ¬ ttok t n s = -2 := fun z => h ((lc_0 _ _).mpr ((eq64 (-2) (by omega)).mpr z))
          have hsn : ¬ s = n := fun z => h (htk.1.mpr z)
          rw [if_neg hsn, if_neg (fun z => hq ⟨hsn, z.1, z.2⟩)]
          refine am_by (c_M_fails (d := d)) (by omega) ?_
          rintro r M5 ⟨rfl, rfl⟩
          refine And.intro ⟨(by first | omega | (dsimp only [am_own]; omega)), (by first | omega | (dsimp only [am_own]; omega))⟩ (And.intro (fun _ => ?_) (fun h => absurd rfl h))
          refine ⟨Or.inl rfl, ?_, hX14.set (Or.inl ⟨rfl, by omega, by omega⟩), fun _ => ?_, fun z => ?_, rows _ (fun k => set_p (by decide))⟩
          · show some (Sum.inl (0 : Int)) = some (Sum.inl (if (s : Int) = -1 then 1 else 0))
            rw [if_neg (by omega)]
          · rw [set_eq]; exact f9
          · exfalso
            have z : (s : Int) = -1 := z
            omega
      refine And.intro (lc_b _ _) (And.intro (fun h => ?_) (fun h => ?_))
      rotate_left
      · have h : ¬ ttok t n s = -3 := fun z => h ((lc_0 _ _).mpr ((eq64 (-3) (by omega)).mpr z))
        exact fin (fun z => h (htk.2.1.mpr ⟨by omega, z.2.1⟩))
      have h : ttok t n s = -3 := (eq64 _ (by omega)).mp ((lc_0 _ _).mp h)
      have hsn := htk.2.1.mp h
      refine And.intro ⟨(show am_R (M4.1 0 41 14) from ⟨by omega, by omega⟩), ⟨(by first | omega | (dsimp only [am_own]; omega)), (by first | omega | (dsimp only [am_own]; omega))⟩⟩ (And.intro (fun h2 => ?_) (fun h2 => ?_))
      rotate_left
      · have h2 : ¬ M4.1 0 41 14 < 12 := h2
        exact fin (by omega)
      have h2 : M4.1 0 41 14 < 12 := h2
      have hk : k ≠ 0 := by omega
      have hE : tkE t n s = s + 1 := by
        unfold tkE
        rw [if_neg (by omega), if_pos]
        unfold tsort
        rw [if_neg (by omega), if_neg (by omega)]
      rw [eR, if_neg (by omega), if_pos ⟨hsn.2, hk⟩]
      have go := next hk (s + 1) (tcP q.2.1 pe) (tcM q.2.1 ma) M4 hcb.1 hcb.2 (by omega) hW4 ht4 (by rw [f8, hE]) (((hX4 0 41 15 (by unfold mS; omega)).trans (hX3 0 41 15 (by omega))).trans e15) (((hX4 0 41 16 (by unfold mS; omega)).trans (hX3 0 41 16 (by omega))).trans e16) (by rw [f14]; rfl)
      refine am_at_mono go (fun r M' hK => ?_)
      obtain ⟨x1, x2, x3, x4, x5⟩ := hK
      refine ⟨x1, hX14.tr (x2.wk (fun p k h => by unfold rmS at h ⊢; omega)), x3, fun z => ?_, fun x w l hx => ?_⟩
      · rw [x4 z, List.length_cons]
        congr 1
        omega
      · cases x with
        | zero =>
          simp at hx
          obtain ⟨rfl, rfl⟩ := hx
          rw [Nat.add_zero, x2 0 46 (j * 4) (by unfold rmS; omega)]
          exact ⟨f46, fun i v hv hi => by rw [x2 0 46 _ (by unfold rmS; omega)]; exact f47 i v hv⟩
        | succ x =>
          have := x5 x w l (by simpa using hx)
          rw [show j + (x + 1) = j + 1 + x by omega]
          exact this
  intro k
  induction k with
  | zero => exact fun j p pe ma M1 hjk => body 0 j p pe ma M1 (fun h => absurd rfl h) hjk
  | succ k ih => exact fun j p pe ma M1 hjk => body (k + 1) j p pe ma M1 (fun _ p pe ma M1 => ih (j + 1) p pe ma M1 (by omega)) hjk
theorem c_M_isRead {Γ : Am_G} {d n : Nat} {pe ma : Int} {M : Am_M} (hpe : 0 ≤ pe ∧ pe ≤ 6) (hma : 0 ≤ ma ∧ ma ≤ 5) (h0 : M.1 0 41 0 = pe) (h2 : M.1 0 41 2 = ma) (hW : mW M n) : am_Ev Γ (d + 6) n_M_isRead [.inr (.inr (0, 41))] M (rmK 0 M (tread (M.1 0 45) n 12 pe ma 0)) := by
  refine am_ev_of (by decide) (am_le rfl) (am_go 60 [28] (by decide) ?_)
  have hX : tX (fun p k => p = 41 ∧ (k = 8 ∨ k = 14 ∨ k = 15 ∨ k = 16)) M (am_set (am_set (am_set (am_set M 0 41 8 0) 0 41 14 0) 0 41 15 (M.1 0 41 0)) 0 41 16 (M.1 0 41 2)) := (((tX.rf.set ⟨rfl, Or.inl rfl⟩).set ⟨rfl, Or.inr (Or.inl rfl)⟩).set ⟨rfl, Or.inr (Or.inr (Or.inl rfl))⟩).set ⟨rfl, Or.inr (Or.inr (Or.inr rfl))⟩
  obtain ⟨hW2, ht2⟩ := hW.fr hX (by omega) (fun k => by omega)
  have go := c_M_readLoop (Γ := Γ) (d := d) (n := n) (t := M.1 0 45) 11 0 0 pe ma (am_set (am_set (am_set (am_set M 0 41 8 0) 0 41 14 0) 0 41 15 (M.1 0 41 0)) 0 41 16 (M.1 0 41 2)) (by omega) hpe hma (Nat.zero_le n) hW2 ht2 (by rw [set_k (by decide), set_k (by decide), set_k (by decide)]; exact set_eq) (by rw [set_k (by decide), set_eq]; exact h0) (by rw [set_eq]; exact h2) (by rw [set_k (by decide), set_k (by decide), set_eq]; rfl)
  refine am_at_mono go (fun r M' hK => ?_)
  obtain ⟨x1, x2, x3, x4, x5⟩ := hK
  exact ⟨x1, (hX.wk (fun p k h => Or.inl ⟨h.1, by omega, by omega⟩)).tr x2, x3, x4, x5⟩
