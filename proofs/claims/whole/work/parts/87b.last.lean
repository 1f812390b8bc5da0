/-! one's best seconds: the last matter -/
theorem c_tryLast {Γ : Am_G} {d : Nat} {V0 W : Vw} {n mt i b many j mo : Nat} {pre : List Nat} {w : Int} {M : Am_M} (hi : i < n) (hV0 : wfV V0 n mt) (hpm : V0 0 3 + (many : Int) ≤ mt) (hm3 : many ≤ 3) (hb31 : b ≤ 31) (hb1 : 0 < b) (hWv : wfV W n mt) (hWp : W 0 3 < mt) (W1 : W 1 i = 3) (W8 : W 8 i < b) (hjm : j + 1 = many) (hpl : pre.length = j) (hpb : ∀ m, m ∈ pre → m < b) (hev : evB n i pre V0 0 = some w) (hW : W = vwB n i pre V0) (hmo : (mo = 0 ∧ W 6 (i * 5 + mV W) = 0) ∨ (mo : Int) = W 8 i) (hH : wfH M mt) (hN : nodeX M W n mt i j pre) (hB : bM M V0 n i b many (cdH b pre * b)) : am_Ev Γ (d + 6) n_Foresight_tryLast [.inr (.inr (0, 34)), .inl (j : Int), .inl (i : Int), .inl (mo : Int), .inl w, .inl (smL pre)] M (fun r M' => r = none ∧ am_same (gF j) M M' ∧ (∀ q, q < j → M'.1 0 37 q = M.1 0 37 q) ∧ bM M' V0 n i b many (cdH b pre * b + b)) := by
  have hWm := mV_lt hWv hWp
  have hn6 := hWv.1.2.1
  have hm5 := hWv.1.2.2.2.1
  have W03 := hWv.1.2.2.2.2.1
  have W8n := (hWv.2.2.1 i hi).2.2.2.2
  have hWb := (hWv.2.2.2.2 i (mV W) hi hWm).1
  have hcl := cdH_lt pre hpb
  rw [hpl] at hcl
  have hpw : b ^ j * b = b ^ many := by rw [← hjm, Nat.pow_succ]
  have hCb : cdH b pre * b + b ≤ b ^ many := by
    rw [← hpw, ← Nat.succ_mul]
    exact Nat.mul_le_mul_right _ hcl
  have hmob : (mo : Int) ≤ W 8 i := by omega
  have hwb := evB_b (mt := mt) hi _ _ _ _ hV0 (by rw [hpl]; omega) hev
  have hsb := smL_nn pre
  have hsb2 := smL_le pre hpb
  rw [hpl] at hwb hsb2
  have q4 := mul_b (a := (b : Int)) (b := (j : Int)) (A := 31) (B := 3) (by omega) (by omega)
  have ct := fun (t : Nat) (ht : t < b) => code_t (t := t) hb1 hpl hpb hjm hev hW ht
  have mono := fun (s t : Nat) (hst : s ≤ t) (ht : (t : Int) ≤ W 8 i) => caB_mono (mt := mt) hi hWv hWp W1 hst ht
  have cut := fun (s t : Nat) (hst : s ≤ t) (ht : (t : Int) ≤ W 8 i) (he : caB n i W t = caB n i W 0) => caB_cut (mt := mt) hi hWv hWp W1 hst ht he
  have c01 := fun t : Nat => caB_01 n i W t
  obtain ⟨wo, hwo⟩ : ∃ wo, wo = W 6 (i * 5 + mV W) := ⟨_, rfl⟩
  rw [← hwo] at hmo hWb
  rw [← hwo] at ct mono
  generalize cdH b pre * b = C at *
  have val : ∀ t : Nat, (t : Int) ≤ W 8 i → evX V0 n i b many (C + t) = some (w + caB n i W t * wo) := fun t h => by
    rw [(ct t (by omega)).2.1, if_pos h]
  have run : ∀ (M1 : Am_M) (t0 t1 t2 : Nat), t0 < t1 → t1 ≤ t2 → t2 ≤ b → (t0 : Int) ≤ W 8 i → (∀ t : Nat, t1 ≤ t → t < t2 → (t : Int) ≤ W 8 i → caB n i W t * wo = caB n i W t0 * wo) → bM M1 V0 n i b many (C + t1) → bM M1 V0 n i b many (C + t2) := by
    intro M1 t0 t1 t2 h01 h12 h2b h0 heq hB1
    obtain ⟨g1, g2⟩ := hB1.has (x := C + t0) (by omega) (val t0 h0)
    refine hB1.skip (by omega) (fun x hx1 hx2 w' he => ⟨g1, ?_⟩)
    obtain ⟨t, rfl⟩ : ∃ t, x = C + t := ⟨x - C, by omega⟩
    have htb : t < b := by omega
    rw [(ct t htb).2.1] at he
    rw [(ct t htb).2.2]
    rw [(ct t0 (by omega)).2.2] at g2
    by_cases q : (t : Int) ≤ W 8 i
    · rw [if_pos q] at he
      have he := Option.some.inj he
      have := heq t (by omega) (by omega) q
      omega
    · rw [if_neg q] at he; cases he
  have cw : ∀ (M1 : Am_M) (s : Nat), okT M W n mt i j pre M1 → (s : Int) ≤ W 8 i → am_Ev Γ (d + 5) n_Foresight_isCarriedWith [.inr (.inr (0, 34)), .inl (j : Int), .inl (i : Int), .inl (s : Int)] M1 (fun r M' => r = some (.inl (caB n i W s)) ∧ M' = tellM M1 j i (mV W) s) := by
    intro M1 s hok hs
    obtain ⟨⟨f1, f2, f3, f4⟩, f5⟩ := hok.2.1.f hi hWp hWv
    have h := c_isCarriedWith (Γ := Γ) (d := d) (M := M1) (j := j) (s := s) (by omega) hok.2.1.1 hok.1 hi (by omega) (by omega)
    rw [f2, (f5 s hs).2] at h
    exact h
  have bt : ∀ (M1 : Am_M) (s : Int) (c : Nat), bM M1 V0 n i b many c → bM (tellM M1 j i (mV W) s) V0 n i b many c := fun M1 s c h => h.fr (fun k => tellM_same.2 0 34 k (by omega)) (fun k => tellM_same.2 0 38 k (by omega))
  -- the fewest seconds by which it comes otherwise
  have st100 : ∀ (t : Nat) (M4 : Am_M), okT M W n mt i j pre M4 → bM M4 V0 n i b many (C + 1) → 1 ≤ t → t ≤ mo → (∀ t' : Nat, t' < t → caB n i W t' = caB n i W 0) → caB n i W t ≠ caB n i W 0 → am_At Γ (d + 6) n_Foresight_tryLast 100 [some (.inr (.inr (0, 34))), some (.inl (j : Int)), some (.inl (i : Int)), some (.inl (mo : Int)), some (.inl w), some (.inl (smL pre)), some (.inl wo), some (.inl (caB n i W 0)), some (.inl (t : Int))] [] M4 (fun r M' => r = none ∧ am_same (gF j) M M' ∧ (∀ q, q < j → M'.1 0 37 q = M.1 0 37 q) ∧ bM M' V0 n i b many (C + b)) := by
    intro t M4 hok hB4 h1 h2 hlt hne
    have hmo2 : (mo : Int) = W 8 i := by omega
    have ht8 : (t : Int) ≤ W 8 i := by omega
    have ca0 := c01 0
    have cat := c01 t
    obtain ⟨M5, hM5⟩ : ∃ M5, M5 = am_set M4 0 37 j (t : Int) := ⟨_, rfl⟩
    have hs5 : am_same (fun e p => e = 0 ∧ p = 37) M4 M5 := by rw [hM5]; exact am_same.rf.set ⟨rfl, rfl⟩
    have e5 : M5.1 0 37 j = t := by rw [hM5]; exact set_eq
    have ok5 : okT M W n mt i j pre M5 := hok.step hpl hs5 (fun e p hp => Or.inr (Or.inr (by omega))) (fun p hp => by omega) (fun p a c => by omega) (fun q hq => by rw [hM5]; exact set_k (by omega))
    have hB5 : bM M5 V0 n i b many (C + t) := by
      have h := run M4 0 1 t (by omega) h1 (by omega) (by omega) (fun t' a c _ => by rw [hlt t' c]) hB4
      exact h.fr (fun k => hs5.2 0 34 k (by omega)) (fun k => hs5.2 0 38 k (by omega))
    have st124 : ∀ v : Int, v = w + caB n i W t * wo → am_At Γ (d + 6) n_Foresight_tryLast 124 [some (.inr (.inr (0, 34))), some (.inl (j : Int)), some (.inl (i : Int)), some (.inl (mo : Int)), some (.inl w), some (.inl (smL pre)), some (.inl wo), some (.inl (caB n i W 0)), some (.inl (t : Int))] [.inl v, .inr (.inr (0, 34))] M5 (fun r M' => r = none ∧ am_same (gF j) M M' ∧ (∀ q, q < j → M'.1 0 37 q = M.1 0 37 q) ∧ bM M' V0 n i b many (C + b)) := by
      intro v hv
      refine am_go 60 [] (by decide) ?_
      refine am_by (c_noteB (d := d) (x := C + t) (w := v) (s := smL pre + (t : Int)) hi hV0 hpm hm3 hb1 (by omega) (by omega) hB5 (by rw [hv]; exact val t ht8) (ct t (by omega)).2.2 (by rw [(ct t (by omega)).1]; exact pre_t hpl ok5.2.1.2.2 e5)) (by omega) ?_
      rintro r M6 ⟨rfl, hs6, hB6⟩
      have ok6 := ok5.note hpl hs6
      refine ⟨rfl, ok6.2.2.1, ok6.2.2.2, run M6 t (t + 1) b (by omega) (by omega) (Nat.le_refl _) ht8 (fun t' a c h8 => ?_) hB6⟩
      have m1 := mono t t' (by omega) h8
      have m0 := mono 0 t (by omega) ht8
      have ca' := c01 t'
      rcases Int.lt_or_le wo 0 with q | q
      · have := m1.2 (by omega)
        have := m0.2 (by omega)
        rw [show caB n i W t' = caB n i W t by omega]
      · have := m1.1 q
        have := m0.1 q
        rw [show caB n i W t' = caB n i W t by omega]
    rw [hM5] at st124
    refine am_go 60 [124] (by decide) ?_
    refine And.intro (show 0 ≤ (j : Int) ∧ (j : Int) < 3 from ⟨by omega, by omega⟩) ?_
    refine And.intro ⟨by omega, by omega⟩ (And.intro (fun h => ?_) (fun h => ?_))
    · have h : caB n i W 0 = 0 := h
      exact st124 (w + wo) (by rw [show caB n i W t = 1 by omega, Int.one_mul])
    · have h : ¬ caB n i W 0 = 0 := h
      exact st124 w (by rw [show caB n i W t = 0 by omega, Int.zero_mul, Int.add_zero])
  have loop : caB n i W mo ≠ caB n i W 0 → ∀ (c t : Nat) (M4 : Am_M), t + c = mo → 1 ≤ t → okT M W n mt i j pre M4 → bM M4 V0 n i b many (C + 1) → (∀ t' : Nat, t' < t → caB n i W t' = caB n i W 0) → am_At Γ (d + 6) n_Foresight_tryLast 75 [some (.inr (.inr (0, 34))), some (.inl (j : Int)), some (.inl (i : Int)), some (.inl (mo : Int)), some (.inl w), some (.inl (smL pre)), some (.inl wo), some (.inl (caB n i W 0)), some (.inl (t : Int))] [] M4 (fun r M' => r = none ∧ am_same (gF j) M M' ∧ (∀ q, q < j → M'.1 0 37 q = M.1 0 37 q) ∧ bM M' V0 n i b many (C + b)) := by
    intro hne c
    induction c with
    | zero =>
      intro t M4 ht h1 hok hB4 hlt
      have : t = mo := by omega
      subst this
      refine am_go 60 [75, 100] (by decide) ?_
      refine And.intro ⟨⟨(by first | omega | (dsimp only [am_own]; omega)), (by first | omega | (dsimp only [am_own]; omega))⟩, ⟨(by first | omega | (dsimp only [am_own]; omega)), (by first | omega | (dsimp only [am_own]; omega))⟩⟩ (And.intro (fun h => ?_) (fun h => ?_))
      · have h : (t : Int) < (t : Int) := h
        exfalso; omega
      · exact st100 t M4 hok hB4 h1 (Nat.le_refl _) hlt hne
    | succ c ih =>
      intro t M4 ht h1 hok hB4 hlt
      have ca0 := c01 0
      have cat := c01 t
      refine am_go 60 [75, 100] (by decide) ?_
      refine And.intro ⟨⟨(by first | omega | (dsimp only [am_own]; omega)), (by first | omega | (dsimp only [am_own]; omega))⟩, ⟨(by first | omega | (dsimp only [am_own]; omega)), (by first | omega | (dsimp only [am_own]; omega))⟩⟩ (And.intro (fun h => ?_) (fun h => ?_))
      · refine am_by (cw M4 t hok (by omega)) (by omega) ?_
        rintro r M5 ⟨rfl, hM5⟩
        have ok5 : okT M W n mt i j pre M5 := by rw [hM5]; exact hok.tell hpl (by omega) (by omega)
        have hB5 : bM M5 V0 n i b many (C + 1) := by rw [hM5]; exact bt M4 _ _ hB4
        refine And.intro ⟨⟨by omega, by omega⟩, ⟨by omega, by omega⟩⟩ (And.intro (fun h2 => ?_) (fun h2 => ?_))
        · have h2 : caB n i W t = caB n i W 0 := h2
          exact ih (t + 1) M5 (by omega) (by omega) ok5 hB5 (fun t' ht' => by
            by_cases q : t' = t
            · rw [q]; exact h2
            · exact hlt t' (by omega))
        · exact st100 t M5 ok5 hB5 h1 (by omega) hlt h2
      · have h : ¬ (t : Int) < (mo : Int) := h
        exfalso; omega
  have st54 : ∀ (v : Int) (M1 : Am_M), v = w + caB n i W 0 * wo → okT M W n mt i j pre M1 → M1.1 0 37 j = 0 → bM M1 V0 n i b many C → am_At Γ (d + 6) n_Foresight_tryLast 54 [some (.inr (.inr (0, 34))), some (.inl (j : Int)), some (.inl (i : Int)), some (.inl (mo : Int)), some (.inl w), some (.inl (smL pre)), some (.inl wo), some (.inl (caB n i W 0)), none] [.inl v, .inr (.inr (0, 34))] M1 (fun r M' => r = none ∧ am_same (gF j) M M' ∧ (∀ q, q < j → M'.1 0 37 q = M.1 0 37 q) ∧ bM M' V0 n i b many (C + b)) := by
    intro v M1 hv hok e1 hB1
    have ca0 := c01 0
    have cam := c01 mo
    refine am_go 60 [75, 100] (by decide) ?_
    refine am_by (c_noteB (d := d) (x := C + 0) (w := v) (s := smL pre) hi hV0 hpm hm3 hb1 (by omega) (by omega) hB1 (by rw [hv]; exact val 0 (by omega)) (by rw [(ct 0 hb1).2.2]; exact Int.add_zero _) (by rw [(ct 0 hb1).1]; exact pre_t hpl hok.2.1.2.2 e1)) (by omega) ?_
    rintro r M2 ⟨rfl, hs2, hB2⟩
    have ok2 := hok.note hpl hs2
    refine am_by (cw M2 mo ok2 hmob) (by omega) ?_
    rintro r M3 ⟨rfl, hM3⟩
    have ok3 : okT M W n mt i j pre M3 := by rw [hM3]; exact ok2.tell hpl (by omega) (by omega)
    have hB3 : bM M3 V0 n i b many (C + 1) := by rw [hM3]; exact bt M2 _ _ hB2
    refine And.intro ⟨⟨by omega, by omega⟩, ⟨by omega, by omega⟩⟩ (And.intro (fun h => ?_) (fun h => ?_))
    · have h : caB n i W mo = caB n i W 0 := h
      refine ⟨rfl, ok3.2.2.1, ok3.2.2.2, run M3 0 1 b (by omega) (by omega) (Nat.le_refl _) (by omega) (fun t a c h8 => ?_) hB3⟩
      rcases hmo with q | q
      · rw [q.2, Int.mul_zero, Int.mul_zero]
      · rw [cut t mo (by omega) hmob h]
    · have h : ¬ caB n i W mo = caB n i W 0 := h
      have hm1 : 1 ≤ mo := by
        rcases Nat.eq_zero_or_pos mo with q | q
        · rw [q] at h; exact absurd rfl h
        · exact q
      exact loop h (mo - 1) 1 M3 (by omega) (Nat.le_refl _) ok3 hB3 (fun t' ht' => by rw [show t' = 0 by omega])
  -- from the beginning
  have hok : okT M W n mt i j pre M := ⟨hH, hN, am_same.rf, fun _ _ => rfl⟩
  obtain ⟨⟨f1, f2, f3, f4⟩, f5⟩ := hN.f hi hWp hWv
  have emW : M.1 (3 + j) 6 (M.1 (3 + j) 0 7).toNat = (mV W : Int) := by rw [em_c hN.1 (by omega), f2]
  refine am_ev_of (by decide) (am_le rfl) (am_go 60 [54] (by decide) ?_)
  refine And.intro ⟨(by first | omega | (dsimp only [am_own]; omega)), (by first | omega | (dsimp only [am_own]; omega))⟩ ?_
  refine And.intro ⟨(by first | omega | (dsimp only [am_own]; omega)), (by first | omega | (dsimp only [am_own]; omega))⟩ ?_
  refine And.intro (show 0 ≤ M.1 (3 + j) 0 7 ∧ M.1 (3 + j) 0 7 < 5 from ⟨by omega, by omega⟩) ?_
  have hw0 := c_worthTo (Γ := Γ) (d := d) (M := M) (i : Int) (mV W : Int) (by omega)
  have ewh : M.1 0 20 ((i : Int) * 5 + (mV W : Int)).toNat = wo := by
    rw [show ((i : Int) * 5 + (mV W : Int)).toNat = i * 5 + mV W by omega, f4, hwo]
  rw [ewh, ← emW] at hw0
  refine am_by hw0 (by omega) ?_
  rintro r M0 ⟨rfl, rfl⟩
  refine am_by (cw M0 0 hok (by omega)) (by omega) ?_
  rintro r M1 ⟨rfl, hM1⟩
  have ok1 : okT M0 W n mt i j pre M1 := by rw [hM1]; exact hok.tell hpl (by omega) (by omega)
  have e1 : M1.1 0 37 j = 0 := by rw [hM1]; exact tellM_37
  have hB1 : bM M1 V0 n i b many C := by rw [hM1]; exact bt M0 _ _ hB
  have ca0 := c01 0
  refine And.intro ⟨by omega, by omega⟩ (And.intro (fun h => ?_) (fun h => ?_))
  · have h : caB n i W 0 = 0 := h
    exact st54 w M1 (by rw [h, Int.zero_mul, Int.add_zero]) ok1 e1 hB1
  · have h : ¬ caB n i W 0 = 0 := h
    exact st54 (w + wo) M1 (by rw [show caB n i W 0 = 1 by omega, Int.one_mul]) ok1 e1 hB1
