/-! texts: the reference reads lines -/
def mlS (b p k : Nat) : Prop := (p = 41 ∧ 8 ≤ k ∧ k ≤ 16 ∧ k ≠ 14) ∨ (p = 46 ∧ b ≤ k ∧ k < b + 4)
def mlK (b : Nat) (pe ma : Int) (M1 : Am_M) (o : Nat ⊕ (Nat × Int × List Int)) (r : Option Am_V) (M' : Am_M) : Prop := tX (mlS b) M1 M' ∧ (∀ f, o = .inl f → r = some (.inl 0) ∧ M'.1 0 41 13 = (f : Nat)) ∧ (∀ q, o = .inr q → r = some (.inl 1) ∧ M'.1 0 41 8 = (q.1 : Nat) ∧ M'.1 0 41 15 = tcP q.2.1 pe ∧ M'.1 0 41 16 = tcM q.2.1 ma ∧ M'.1 0 46 b = rcW q.2.1 ∧ ∀ i v, q.2.2[i]? = some v → M'.1 0 46 (b + 1 + i) = v)
theorem ml_of_nu {t : Nat → Int} {n b p : Nat} {w pe ma : Int} {M1 M2 M' : Am_M} {r : Option Am_V} {o : Nat ⊕ (Nat × Int × List Int)} (ho : o = (match tnums t n w pe ma (tmany w) 0 p with
    | .inl f => .inl f
    | .inr q => .inr (q.1, w, q.2))) (hX : tX (mlS b) M1 M2) (h15 : M2.1 0 41 15 = tcP w pe) (h16 : M2.1 0 41 16 = tcM w ma) (h46 : M2.1 0 46 b = rcW w) (hN : nuK b 0 M2 (tnums t n w pe ma (tmany w) 0 p) r M') : mlK b pe ma M1 o r M' := by
  obtain ⟨g1, g2, g3⟩ := hN
  subst ho
  refine ⟨hX.tr (g1.wk (fun p k h => by unfold nuS at h; unfold mlS; omega)), fun f hf => ?_, fun q hq => ?_⟩
  · cases hr : tnums t n w pe ma (tmany w) 0 p with
    | inl f' =>
      rw [hr] at hf
      have e : f' = f := Sum.inl.inj hf
      rw [← e]
      exact g2 f' hr
    | inr q' => rw [hr] at hf; cases hf
  · cases hr : tnums t n w pe ma (tmany w) 0 p with
    | inl f' => rw [hr] at hq; cases hq
    | inr q' =>
      rw [hr] at hq
      cases hq
      obtain ⟨l1, l2, l3⟩ := g3 q' hr
      refine ⟨l1, l2, (g1 0 41 15 (by unfold nuS; omega)).trans h15, (g1 0 41 16 (by unfold nuS; omega)).trans h16, (g1 0 46 b (by unfold nuS; omega)).trans h46, fun i v hv => ?_⟩
      have := l3 i v hv
      rw [Nat.zero_add] at this
      exact this
theorem c_M_isLine {Γ : Am_G} {d n b p : Nat} {pe ma : Int} {t : Nat → Int} {M1 : Am_M} (hb : b + 4 ≤ 48) (hpe : 0 ≤ pe ∧ pe ≤ 6) (hma : 0 ≤ ma ∧ ma ≤ 5) (hpn : p ≤ n) (hW : mW M1 n) (ht : M1.1 0 45 = t) (h8 : M1.1 0 41 8 = p) (h15 : M1.1 0 41 15 = pe) (h16 : M1.1 0 41 16 = ma) : am_Ev Γ (d + 5) n_M_isLine [.inr (.inr (0, 41)), .inl (b : Int)] M1 (mlK b pe ma M1 (tline t n pe ma p)) := by
  have hsb := tkS_b t hpn
  have heb := tkE_b t hsb.2
  have hwb := twd_b t (tkS t n p) (tkE t n (tkS t n p))
  have eL : tline t n pe ma p = if twd t (tkS t n p) (tkE t n (tkS t n p)) = -1 ∨ (twd t (tkS t n p) (tkE t n (tkS t n p)) ≤ 3 ∧ pe = 6) ∨ (twd t (tkS t n p) (tkE t n (tkS t n p)) = 4 ∧ ma = 5) then .inl (tkS t n p) else (match tnums t n (twd t (tkS t n p) (tkE t n (tkS t n p))) pe ma (tmany (twd t (tkS t n p) (tkE t n (tkS t n p)))) 0 (tkE t n (tkS t n p)) with
    | .inl f => .inl f
    | .inr q => .inr (q.1, twd t (tkS t n p) (tkE t n (tkS t n p)), q.2)) := rfl
  have hco := code_of t hsb.2
  have htb := ttok_b t hsb.2
  refine am_ev_of (by decide) (am_le rfl) (am_go 60 [4] (by decide) ?_)
  refine am_by (c_M_nextToken (d := d) hW ht h8 hpn) (by omega) ?_
  rintro r M2 ⟨rfl, hX2, e9, e8, ev, -⟩
  obtain ⟨hW2, ht2⟩ := hW.fr hX2 (by unfold mS; omega) (fun k => by unfold mS; omega)
  rw [ht] at ht2
  have hX2' : tX (mlS b) M1 M2 := hX2.wk (fun p k h => Or.inl ⟨h.1, h.2.1, by have := h.2.2; omega, by have := h.2.2; omega⟩)
  have g15 : M2.1 0 41 15 = pe := (hX2 0 41 15 (by unfold mS; omega)).trans h15
  have g16 : M2.1 0 41 16 = ma := (hX2 0 41 16 (by unfold mS; omega)).trans h16
  generalize twd t (tkS t n p) (tkE t n (tkS t n p)) = w at *
  generalize tkS t n p = s at *
  generalize tkE t n s = e at *
  generalize ttok t n s = tok at *
  generalize tline t n pe ma p = o at *
  -- the word is known
  have st178 : am_At Γ (d + 5) n_M_isLine 178 [some (.inr (.inr (0, 41))), some (.inl (b : Int)), some (.inl (acode tok)), some (.inl (bcode tok))] [] (am_set M2 0 46 b (rcW w)) (mlK b pe ma M1 o) := by
    have hX3 : tX (fun p k => p = 46 ∧ k = b) M2 (am_set M2 0 46 b (rcW w)) := tX.rf.set ⟨rfl, rfl⟩
    obtain ⟨hW3, ht3⟩ := hW2.fr hX3 (by omega) (fun k => by omega)
    rw [ht2] at ht3
    have e46 : (am_set M2 0 46 b (rcW w)).1 0 46 b = rcW w := set_eq
    have e41 : ∀ k, (am_set M2 0 46 b (rcW w)).1 0 41 k = M2.1 0 41 k := fun k => set_p (by decide)
    generalize am_set M2 0 46 b (rcW w) = M3 at *
    have hX3' : tX (mlS b) M1 M3 := hX2'.tr (hX3.wk (fun p k h => Or.inr ⟨h.1, by omega, by omega⟩))
    have q8 := (e41 8).trans e8
    have q9 := (e41 9).trans e9
    have q15 := (e41 15).trans g15
    have q16 := (e41 16).trans g16
    have bad : (w = -1 ∨ (w ≤ 3 ∧ pe = 6) ∨ (w = 4 ∧ ma = 5)) → mlK b pe ma M1 o (some (.inl 0)) (am_set M3 0 41 13 (M3.1 0 41 9)) := fun q => by
      rw [if_pos q] at eL
      refine ⟨hX3'.set (Or.inl ⟨rfl, by omega, by omega, by omega⟩), fun f hf => ?_, fun q hq => ?_⟩
      · rw [eL] at hf
        cases hf
        exact ⟨rfl, by rw [set_eq]; exact q9⟩
      · rw [eL] at hq
        cases hq
    have good : ¬ (w = -1 ∨ (w ≤ 3 ∧ pe = 6) ∨ (w = 4 ∧ ma = 5)) → ∀ (M4 M' : Am_M) (r : Option Am_V), tX (fun p k => p = 41 ∧ (k = 15 ∨ k = 16)) M3 M4 → M4.1 0 41 15 = tcP w pe → M4.1 0 41 16 = tcM w ma → nuK b 0 M4 (tnums t n w pe ma (tmany w) 0 e) r M' → mlK b pe ma M1 o r M' := fun q M4 M' r hX4 a15 a16 hN => by
      rw [if_neg q] at eL
      exact ml_of_nu eL (hX3'.tr (hX4.wk (fun p k h => Or.inl ⟨h.1, by omega, by omega, by omega⟩))) a15 a16 ((hX4 0 46 b (by omega)).trans e46) hN
    have st240 : 0 ≤ w → w ≤ 3 → am_At Γ (d + 5) n_M_isLine 240 [some (.inr (.inr (0, 41))), some (.inl (b : Int)), some (.inl (acode tok)), some (.inl (bcode tok))] [] M3 (mlK b pe ma M1 o) := by
      intro a1 a2
      refine am_go 60 [] (by decide) ?_
      refine am_by (c_M_isOne (d := d) (w := w) (ma := ma) hb hW3 ht3 q8 heb.2.1 q15 hpe ⟨a1, a2⟩) (by omega) ?_
      rintro r M4 ⟨k1, k2⟩
      have em : tmany w = 2 := by unfold tmany; rw [if_neg (by omega), if_neg (by omega), if_neg (by omega)]
      by_cases q : pe = 6
      · obtain ⟨rfl, rfl⟩ := k1 q
        exact ⟨Or.inl rfl, bad (Or.inr (Or.inl ⟨a2, q⟩))⟩
      · have hN := k2 q
        have res : mlK b pe ma M1 o r M4 := by
          refine good (by omega) (oneM M3) M4 r (tX.rf.set ⟨rfl, Or.inl rfl⟩) ?_ ?_ (by rw [em]; exact hN)
          · unfold oneM tcP
            rw [if_neg (by omega), if_neg (by omega), if_pos a2, set_eq, q15]
          · unfold oneM tcM
            rw [if_neg (by omega), if_neg (by omega), set_k (by decide), q16]
        rcases ho : tnums t n w pe ma 2 0 e with f | q'
        · obtain ⟨rfl, -⟩ := hN.2.1 f ho
          exact ⟨Or.inl rfl, res⟩
        · obtain ⟨rfl, -⟩ := hN.2.2 q' ho
          exact ⟨Or.inr rfl, res⟩
    have st264 : (w = 5 ∨ w = 6) → am_At Γ (d + 5) n_M_isLine 264 [some (.inr (.inr (0, 41))), some (.inl (b : Int)), some (.inl (acode tok)), some (.inl (bcode tok))] [] M3 (mlK b pe ma M1 o) := by
      intro a1
      have em : tmany w = 3 := by unfold tmany; rw [if_neg (by omega), if_neg (by omega), if_pos a1]
      have l0 : ∀ i : Nat, (0 : Int) = tleast w (i : Int) := fun i => by unfold tleast; rw [if_neg (by omega), if_neg (by omega)]
      have m0 : pe - 1 = tmost w ((0 : Nat) : Int) pe ma := by unfold tmost; rw [if_neg (by omega), if_neg (by omega), if_pos a1, if_pos (by decide)]
      have m1 : ma - 1 = tmost w ((1 : Nat) : Int) pe ma := by unfold tmost; rw [if_neg (by omega), if_neg (by omega), if_pos a1, if_neg (by decide), if_pos (by decide)]
      have m2 : (9 : Int) = tmost w ((2 : Nat) : Int) pe ma := by unfold tmost; rw [if_neg (by omega), if_neg (by omega), if_pos a1, if_neg (by decide), if_neg (by decide)]
      have res : ∀ r M', nuK b 0 M3 (tnums t n w pe ma 3 0 e) r M' → mlK b pe ma M1 o r M' := fun r M' hN => by
        refine good (by omega) M3 M' r tX.rf ?_ ?_ (by rw [em]; exact hN)
        · unfold tcP
          rw [if_neg (by omega), if_neg (by omega), if_neg (by omega), q15]
        · unfold tcM
          rw [if_neg (by omega), if_neg (by omega), q16]
      refine am_go 60 [] (by decide) ?_
      refine am_num (d := d + 1) (M1 := M3) (t := t) (n := n) (b := b) (i := 0) (k := 2) (p := e) (w := w) (pe := pe) (ma := ma) (by omega) (by omega) hb hW3 ht3 q8 heb.2.1 (l0 0) (by rw [← m0]; exact congrArg (· - 1) q15) (by omega) (show -1 ≤ M3.1 0 41 15 - 1 ∧ M3.1 0 41 15 - 1 ≤ 30 by omega) (fun M4 hN => ?_) (fun M4 hW4 ht4 h84 hp4 hX4 hN => ?_)
      · refine And.intro ⟨(by first | omega | (dsimp only [am_own]; omega)), (by first | omega | (dsimp only [am_own]; omega))⟩ (And.intro (fun _ => ?_) (fun h => absurd rfl h))
        exact ⟨Or.inl rfl, res _ _ hN⟩
      refine And.intro ⟨(by first | omega | (dsimp only [am_own]; omega)), (by first | omega | (dsimp only [am_own]; omega))⟩ (And.intro (fun h => absurd h (by decide)) (fun _ => ?_))
      have p16 : M4.1 0 41 16 = ma := (hX4 0 41 16 (by unfold nuS; omega)).trans q16
      refine am_num (d := d + 1) (M1 := M4) (t := t) (n := n) (b := b) (i := 1) (k := 1) (w := w) (pe := pe) (ma := ma) (by omega) (by omega) hb hW4 ht4 h84 hp4 (l0 1) (by rw [← m1]; exact congrArg (· - 1) p16) (by omega) (show -1 ≤ M4.1 0 41 16 - 1 ∧ M4.1 0 41 16 - 1 ≤ 30 by omega) (fun M5 hN5 => ?_) (fun M5 hW5 ht5 h85 hp5 hX5 hN5 => ?_)
      · refine And.intro ⟨(by first | omega | (dsimp only [am_own]; omega)), (by first | omega | (dsimp only [am_own]; omega))⟩ (And.intro (fun _ => ?_) (fun h => absurd rfl h))
        exact ⟨Or.inl rfl, res _ _ (hN _ _ hN5)⟩
      refine And.intro ⟨(by first | omega | (dsimp only [am_own]; omega)), (by first | omega | (dsimp only [am_own]; omega))⟩ (And.intro (fun h => absurd h (by decide)) (fun _ => ?_))
      refine am_num (d := d + 1) (M1 := M5) (t := t) (n := n) (b := b) (i := 2) (k := 0) (w := w) (pe := pe) (ma := ma) (by omega) (by omega) hb hW5 ht5 h85 hp5 (l0 2) m2 (by omega) (by omega) (fun M6 hN6 => ?_) (fun M6 hW6 ht6 h86 hp6 hX6 hN6 => ?_)
      · refine And.intro ⟨(by first | omega | (dsimp only [am_own]; omega)), (by first | omega | (dsimp only [am_own]; omega))⟩ (And.intro (fun _ => ?_) (fun h => absurd rfl h))
        exact ⟨Or.inl rfl, res _ _ (hN _ _ (hN5 _ _ hN6))⟩
      refine And.intro ⟨(by first | omega | (dsimp only [am_own]; omega)), (by first | omega | (dsimp only [am_own]; omega))⟩ (And.intro (fun h => absurd h (by decide)) (fun _ => ?_))
      exact ⟨Or.inr rfl, res _ _ (hN _ _ (hN5 _ _ (hN6 _ _ (nu_end h86))))⟩
    refine am_go 60 [240, 264] (by decide) ?_
    refine And.intro ⟨by omega, by omega⟩ ?_
    have ex : M3.1 0 46 ((b : Int)).toNat = rcW w := e46
    have hrb : am_R (rcW w) := by
      unfold rcW
      split
      · exact ⟨by omega, by omega⟩
      · split <;> exact ⟨by omega, by omega⟩
    have rc3 : w ≤ 3 → rcW w = w := fun q => by unfold rcW; rw [if_pos q]
    have rc9 : w = 9 → rcW w = 4 := fun q => by unfold rcW; rw [if_neg (by omega), if_pos q]
    have rc4 : 4 ≤ w → w ≠ 9 → rcW w = w + 1 := fun q q2 => by unfold rcW; rw [if_neg (by omega), if_neg q2]
    have sm : ∀ x : Int, rcW w = x → 0 ≤ x → x ≤ 3 → 0 ≤ w ∧ w ≤ 3 := fun x hx a b => by
      by_cases q : w ≤ 3
      · have := rc3 q; omega
      · by_cases q2 : w = 9
        · have := rc9 q2; omega
        · have := rc4 (by omega) q2; omega
    have hi4 : rcW w = 4 → w = 9 := fun hx => by
      by_cases q : w ≤ 3
      · have := rc3 q; omega
      · by_cases q2 : w = 9
        · exact q2
        · have := rc4 (by omega) q2; omega
    have hi5 : ∀ x : Int, rcW w = x → 5 ≤ x → w = x - 1 := fun x hx a => by
      by_cases q : w ≤ 3
      · have := rc3 q; omega
      · by_cases q2 : w = 9
        · have := rc9 q2; omega
        · have := rc4 (by omega) q2; omega
    have hi0 : (rcW w < 0 ∨ 9 < rcW w) → w = -1 := fun hx => by
      by_cases q : w ≤ 3
      · have := rc3 q; omega
      · by_cases q2 : w = 9
        · have := rc9 q2; omega
        · have := rc4 (by omega) q2; omega
    refine And.intro ⟨am_Re ex hrb, rfl⟩ (And.intro (fun hz => ?_) (And.intro (fun hz => ?_) (And.intro (fun hz => ?_) (And.intro (fun hz => ?_) (And.intro (fun hz => ?_) (And.intro (fun hz => ?_) (And.intro (fun hz => ?_) (And.intro (fun hz => ?_) (And.intro (fun hz => ?_) (And.intro (fun hz => ?_) (And.intro (fun hz => ?_) trivial)))))))))))
    · have hz : M3.1 0 46 ((b : Int)).toNat < 0 ∨ 9 < M3.1 0 46 ((b : Int)).toNat := hz
      rw [ex] at hz
      refine am_by (c_M_fails (d := d)) (by omega) ?_
      rintro r M4 ⟨rfl, rfl⟩
      exact ⟨Or.inl rfl, bad (Or.inl (hi0 hz))⟩
    · have hz := sm 0 (ex.symm.trans hz) (by omega) (by omega)
      exact st240 hz.1 hz.2
    · have hz := sm 1 (ex.symm.trans hz) (by omega) (by omega)
      exact st240 hz.1 hz.2
    · have hz := sm 2 (ex.symm.trans hz) (by omega) (by omega)
      exact st240 hz.1 hz.2
    · have hz := sm 3 (ex.symm.trans hz) (by omega) (by omega)
      exact st240 hz.1 hz.2
    · have hz : w = 9 := hi4 (ex.symm.trans hz)
      have em : tmany w = 0 := by unfold tmany; rw [if_pos hz]
      refine ⟨Or.inr rfl, good (by omega) (am_set (am_set M3 0 41 15 0) 0 41 16 0) _ _ ((tX.rf.set ⟨rfl, Or.inl rfl⟩).set ⟨rfl, Or.inr rfl⟩) ?_ ?_ ?_⟩
      · unfold tcP
        rw [if_pos hz, set_k (by decide), set_eq]
      · unfold tcM
        rw [if_pos hz, set_eq]
      · rw [em]
        exact nu_end (by rw [set_k (by decide), set_k (by decide)]; exact q8)
    · have hz : w = 4 := hi5 5 (ex.symm.trans hz) (by omega)
      subst hz
      refine am_by (c_M_isMatterLine (d := d) (pe := pe) hb hW3 ht3 q8 heb.2.1 q16 hma) (by omega) ?_
      rintro r M4 ⟨k1, k2⟩
      by_cases q : ma = 5
      · obtain ⟨rfl, rfl⟩ := k1 q
        exact ⟨Or.inl rfl, bad (Or.inr (Or.inr ⟨rfl, q⟩))⟩
      · have hN := k2 q
        have res : mlK b pe ma M1 o r M4 := by
          refine good (by omega) (matM M3) M4 r (tX.rf.set ⟨rfl, Or.inr rfl⟩) ?_ ?_ hN
          · show (am_set M3 0 41 16 (M3.1 0 41 16 + 1)).1 0 41 15 = pe
            rw [set_k (by decide), q15]
          · show (am_set M3 0 41 16 (M3.1 0 41 16 + 1)).1 0 41 16 = ma + 1
            rw [set_eq, q16]
        rcases ho : tnums t n 4 pe ma 1 0 e with f | q'
        · obtain ⟨rfl, -⟩ := hN.2.1 f ho
          exact ⟨Or.inl rfl, res⟩
        · obtain ⟨rfl, -⟩ := hN.2.2 q' ho
          exact ⟨Or.inr rfl, res⟩
    · exact st264 (Or.inl (hi5 6 (ex.symm.trans hz) (by omega)))
    · exact st264 (Or.inr (hi5 7 (ex.symm.trans hz) (by omega)))
    · have hz : w = 7 := hi5 8 (ex.symm.trans hz) (by omega)
      subst hz
      have res : ∀ r M', nuK b 0 M3 (tnums t n 7 pe ma 2 0 e) r M' → mlK b pe ma M1 o r M' := fun r M' hN => good (by omega) M3 M' r tX.rf q15 q16 hN
      refine am_num (d := d + 1) (M1 := M3) (t := t) (n := n) (b := b) (i := 0) (k := 1) (p := e) (w := 7) (pe := pe) (ma := ma) (by omega) (by omega) hb hW3 ht3 q8 heb.2.1 rfl (show M3.1 0 41 15 - 1 = pe - 1 by omega) (by omega) (show -1 ≤ M3.1 0 41 15 - 1 ∧ M3.1 0 41 15 - 1 ≤ 30 by omega) (fun M4 hN => ?_) (fun M4 hW4 ht4 h84 hp4 hX4 hN => ?_)
      · refine And.intro ⟨(by first | omega | (dsimp only [am_own]; omega)), (by first | omega | (dsimp only [am_own]; omega))⟩ (And.intro (fun _ => ?_) (fun h => absurd rfl h))
        exact ⟨Or.inl rfl, res _ _ hN⟩
      refine And.intro ⟨(by first | omega | (dsimp only [am_own]; omega)), (by first | omega | (dsimp only [am_own]; omega))⟩ (And.intro (fun h => absurd h (by decide)) (fun _ => ?_))
      refine am_num (d := d + 1) (M1 := M4) (t := t) (n := n) (b := b) (i := 1) (k := 0) (w := 7) (pe := pe) (ma := ma) (by omega) (by omega) hb hW4 ht4 h84 hp4 rfl rfl (by omega) (by omega) (fun M5 hN5 => ?_) (fun M5 hW5 ht5 h85 hp5 hX5 hN5 => ?_)
      · refine And.intro ⟨(by first | omega | (dsimp only [am_own]; omega)), (by first | omega | (dsimp only [am_own]; omega))⟩ (And.intro (fun _ => ?_) (fun h => absurd rfl h))
        exact ⟨Or.inl rfl, res _ _ (hN _ _ hN5)⟩
      refine And.intro ⟨(by first | omega | (dsimp only [am_own]; omega)), (by first | omega | (dsimp only [am_own]; omega))⟩ (And.intro (fun h => absurd h (by decide)) (fun _ => ?_))
      exact ⟨Or.inr rfl, res _ _ (hN _ _ (hN5 _ _ (nu_end h85)))⟩
    · have hz : w = 8 := hi5 9 (ex.symm.trans hz) (by omega)
      subst hz
      have res : ∀ r M', nuK b 0 M3 (tnums t n 8 pe ma 1 0 e) r M' → mlK b pe ma M1 o r M' := fun r M' hN => good (by omega) M3 M' r tX.rf q15 q16 hN
      refine am_num (d := d + 1) (M1 := M3) (t := t) (n := n) (b := b) (i := 0) (k := 0) (p := e) (w := 8) (pe := pe) (ma := ma) (by omega) (by omega) hb hW3 ht3 q8 heb.2.1 rfl rfl (by omega) (by omega) (fun M4 hN => ?_) (fun M4 hW4 ht4 h84 hp4 hX4 hN => ?_)
      · exact ⟨Or.inl rfl, res _ _ hN⟩
      · exact ⟨Or.inr rfl, res _ _ (hN _ _ (nu_end h84))⟩
  have eq64 : ∀ x : Int, -4 ≤ x ∧ x < 7625597484987 → (M2.2 = Int64.ofInt x ↔ tok = x) := fun x hx => by rw [ev]; exact of64 htb hx
  have ab := acode_b tok
  have bb := bcode_b tok
  have st161 : am_At Γ (d + 5) n_M_isLine 161 [some (.inr (.inr (0, 41))), some (.inl (b : Int)), some (.inl (acode tok)), none] [.inl (bcode tok)] M2 (mlK b pe ma M1 o) := by
    refine am_go 60 [178] (by decide) ?_
    refine And.intro ⟨⟨by omega, by omega⟩, ⟨(by first | omega | (dsimp only [am_own]; omega)), (by first | omega | (dsimp only [am_own]; omega))⟩⟩ (And.intro (fun h => ?_) (fun h => ?_))
    · have h : acode tok = -1 := h
      rw [if_pos h] at hco
      refine And.intro ⟨by omega, by omega⟩ ?_
      rw [← hco] at st178
      exact st178
    · have h : ¬ acode tok = -1 := h
      rw [if_neg h] at hco
      refine And.intro ⟨by omega, by omega⟩ ?_
      rw [← hco] at st178
      exact st178
  have st81 : am_At Γ (d + 5) n_M_isLine 80 [some (.inr (.inr (0, 41))), some (.inl (b : Int)), none, none] [.inl (acode tok)] M2 (mlK b pe ma M1 o) := by
    refine am_go 60 [161] (by decide) ?_
    refine And.intro (lc_b _ _) (And.intro (fun h => ?_) (fun h => ?_))
    · have h : tok = 187475625 := (eq64 _ (by omega)).mp ((lc_0 _ _).mp h)
      have eb : bcode tok = 5 := by unfold bcode; rw [if_pos h]
      rw [eb] at st161
      exact st161
    have h : ¬ tok = 187475625 := fun z => h ((lc_0 _ _).mpr ((eq64 (187475625) (by omega)).mpr z))
    refine And.intro (lc_b _ _) (And.intro (fun h2 => ?_) (fun h2 => ?_))
    · have h2 : tok = 4797 := (eq64 _ (by omega)).mp ((lc_0 _ _).mp h2)
      have eb : bcode tok = 6 := by unfold bcode; rw [if_neg h, if_pos h2]
      rw [eb] at st161
      exact st161
    have h2 : ¬ tok = 4797 := fun z => h2 ((lc_0 _ _).mpr ((eq64 (4797) (by omega)).mpr z))
    refine And.intro (lc_b _ _) (And.intro (fun h3 => ?_) (fun h3 => ?_))
    · have h3 : tok = 488582165 := (eq64 _ (by omega)).mp ((lc_0 _ _).mp h3)
      have eb : bcode tok = 7 := by unfold bcode; rw [if_neg h, if_neg h2, if_pos h3]
      rw [eb] at st161
      exact st161
    have h3 : ¬ tok = 488582165 := fun z => h3 ((lc_0 _ _).mpr ((eq64 (488582165) (by omega)).mpr z))
    refine And.intro (lc_b _ _) (And.intro (fun h4 => ?_) (fun h4 => ?_))
    · have h4 : tok = 51442444 := (eq64 _ (by omega)).mp ((lc_0 _ _).mp h4)
      have eb : bcode tok = 8 := by unfold bcode; rw [if_neg h, if_neg h2, if_neg h3, if_pos h4]
      rw [eb] at st161
      exact st161
    have h4 : ¬ tok = 51442444 := fun z => h4 ((lc_0 _ _).mpr ((eq64 (51442444) (by omega)).mpr z))
    refine And.intro (lc_b _ _) (And.intro (fun h5 => ?_) (fun h5 => ?_))
    · have h5 : tok = 168727 := (eq64 _ (by omega)).mp ((lc_0 _ _).mp h5)
      have eb : bcode tok = 9 := by unfold bcode; rw [if_neg h, if_neg h2, if_neg h3, if_neg h4, if_pos h5]
      rw [eb] at st161
      exact st161
    have h5 : ¬ tok = 168727 := fun z => h5 ((lc_0 _ _).mpr ((eq64 (168727) (by omega)).mpr z))
    have eb : bcode tok = -1 := by unfold bcode; rw [if_neg h, if_neg h2, if_neg h3, if_neg h4, if_neg h5]
    rw [eb] at st161
    exact st161
  refine am_go 60 [80] (by decide) ?_
  refine And.intro (lc_b _ _) (And.intro (fun h => ?_) (fun h => ?_))
  · have h : tok = 8740238 := (eq64 _ (by omega)).mp ((lc_0 _ _).mp h)
    have eb : acode tok = 0 := by unfold acode; rw [if_pos h]
    rw [eb] at st81
    exact st81
  have h : ¬ tok = 8740238 := fun z => h ((lc_0 _ _).mpr ((eq64 (8740238) (by omega)).mpr z))
  refine And.intro (lc_b _ _) (And.intro (fun h2 => ?_) (fun h2 => ?_))
  · have h2 : tok = 12257495 := (eq64 _ (by omega)).mp ((lc_0 _ _).mp h2)
    have eb : acode tok = 1 := by unfold acode; rw [if_neg h, if_pos h2]
    rw [eb] at st81
    exact st81
  have h2 : ¬ tok = 12257495 := fun z => h2 ((lc_0 _ _).mpr ((eq64 (12257495) (by omega)).mpr z))
  refine And.intro (lc_b _ _) (And.intro (fun h3 => ?_) (fun h3 => ?_))
  · have h3 : tok = 10502561 := (eq64 _ (by omega)).mp ((lc_0 _ _).mp h3)
    have eb : acode tok = 2 := by unfold acode; rw [if_neg h, if_neg h2, if_pos h3]
    rw [eb] at st81
    exact st81
  have h3 : ¬ tok = 10502561 := fun z => h3 ((lc_0 _ _).mpr ((eq64 (10502561) (by omega)).mpr z))
  refine And.intro (lc_b _ _) (And.intro (fun h4 => ?_) (fun h4 => ?_))
  · have h4 : tok = 404923 := (eq64 _ (by omega)).mp ((lc_0 _ _).mp h4)
    have eb : acode tok = 3 := by unfold acode; rw [if_neg h, if_neg h2, if_neg h3, if_pos h4]
    rw [eb] at st81
    exact st81
  have h4 : ¬ tok = 404923 := fun z => h4 ((lc_0 _ _).mpr ((eq64 (404923) (by omega)).mpr z))
  refine And.intro (lc_b _ _) (And.intro (fun h5 => ?_) (fun h5 => ?_))
  · have h5 : tok = 158529 := (eq64 _ (by omega)).mp ((lc_0 _ _).mp h5)
    have eb : acode tok = 4 := by unfold acode; rw [if_neg h, if_neg h2, if_neg h3, if_neg h4, if_pos h5]
    rw [eb] at st81
    exact st81
  have h5 : ¬ tok = 158529 := fun z => h5 ((lc_0 _ _).mpr ((eq64 (158529) (by omega)).mpr z))
  have eb : acode tok = -1 := by unfold acode; rw [if_neg h, if_neg h2, if_neg h3, if_neg h4, if_neg h5]
  rw [eb] at st81
  exact st81
