/-! one's best seconds: the class's search, matter by matter -/
def seekP (Γ : Am_G) (d : Nat) (V0 : Vw) (n mt pu i b many k : Nat) : Prop := ∀ (j : Nat) (pre : List Nat) (w : Int) (M : Am_M), j + (k + 1) = many → pre.length = j → (∀ m, m ∈ pre → m < b) → evB n i pre V0 0 = some w → wfH M mt → nodeB M V0 n mt pu i j pre → bM M V0 n i b many (cdH b pre * b ^ (k + 1)) → am_Ev Γ (d + 7 + k) n_Foresight_seekBestFrom [.inr (.inr (0, 34)), .inl (j : Int), .inl (i : Int), .inl (many : Int), .inl w, .inl (smL pre)] M (fun r M' => r = none ∧ am_same (gF j) M M' ∧ (∀ q, q < j → M'.1 0 37 q = M.1 0 37 q) ∧ bM M' V0 n i b many ((cdH b pre + 1) * b ^ (k + 1)))
theorem c_seekStep {Γ : Am_G} {d : Nat} {V0 : Vw} {n mt pu i b many : Nat} (hi : i < n) (hV0 : wfV V0 n mt) (hpu : V0 0 3 = pu) (hpm : pu + many ≤ mt) (hm3 : many ≤ 3) (hk3 : V0 1 i = 3) (hb : (b : Int) = V0 2 i + 1) (hb31 : b ≤ 31) (hb1 : 0 < b) (hl0 : V0 8 i ≤ V0 2 i) (hinj : ∀ a c, a < mt → c < mt → V0 7 a = V0 7 c → a = c) (k : Nat) (ih : ∀ k', k = k' + 1 → seekP Γ d V0 n mt pu i b many k') : seekP Γ d V0 n mt pu i b many k := by
  have hn6 := hV0.1.2.1
  have hm5 := hV0.1.2.2.2.1
  intro j pre w M hjk hpl hpb hev hH hN hB
  have hcl := cdH_lt pre hpb
  rw [hpl] at hcl
  have hwb := evB_b (mt := mt) hi _ _ _ _ hV0 (by rw [hpl, hpu]; omega) hev
  have hsb := smL_nn pre
  have hsb2 := smL_le pre hpb
  rw [hpl] at hwb hsb2
  have q4 := mul_b (a := (b : Int)) (b := (j : Int)) (A := 31) (B := 3) (by omega) (by omega)
  have hpw : 0 < b ^ k := Nat.pow_pos hb1
  have hpj : b ^ j * b ^ (k + 1) = b ^ many := by rw [← Nat.pow_add, hjk]
  have hup : (cdH b pre + 1) * b ^ (k + 1) ≤ b ^ many := by
    rw [← hpj]
    exact Nat.mul_le_mul_right _ (by omega)
  have esplit : (cdH b pre + 1) * b ^ (k + 1) = (cdH b pre * b + b) * b ^ k := by
    rw [Nat.pow_succ, Nat.mul_comm (b ^ k) b, ← Nat.mul_assoc, Nat.add_mul, Nat.one_mul]
  have elow : cdH b pre * b ^ (k + 1) = (cdH b pre * b + 0) * b ^ k := by
    rw [Nat.pow_succ, Nat.mul_comm (b ^ k) b, ← Nat.mul_assoc, Nat.add_zero]
  obtain ⟨hNv, hNp, hNq, hNt⟩ := id hN
  obtain ⟨W, hW⟩ : ∃ W, W = vwB n i pre V0 := ⟨_, rfl⟩
  rw [← hW] at hNq
  have hWv : wfV W n mt := veq_wf hNq hNv
  have W03 : W 0 3 = ((pu + j : Nat) : Int) := by rw [hW, vwB_03, hpu, hpl]; push_cast; rfl
  have W7 : ∀ q, W 7 q = V0 7 q := fun q => by rw [hW]; exact vwB_c n i 7 q (by omega) pre V0
  have W1 : W 1 i = 3 := by rw [hW, vwB_c n i 1 i (by omega)]; exact hk3
  have W8 : W 8 i ≤ V0 2 i := by rw [hW]; exact vwB_8 n i pre V0 hl0
  have W8n := (hWv.2.2.1 i hi).2.2.2.2
  have hWp : W 0 3 < mt := by omega
  have hWm := mV_lt hWv hWp
  have hdist : ∀ q : Nat, W 0 3 < q → (q : Int) < mt → W 7 q ≠ mV W := fun q a c he => by
    have h1 : W 7 (pu + j) = (mV W : Int) := by
      have := (hWv.2.2.2.1 (pu + j) (by omega)).2
      unfold mV
      rw [W03, show (((pu + j : Nat) : Int)).toNat = pu + j from rfl]
      omega
    have := hinj q (pu + j) (by omega) (by omega) (by rw [← W7, ← W7, he, h1])
    omega
  have hWb := (hWv.2.2.2.2 i (mV W) hi hWm).1
  -- hope
  have hopE : hopF (hgV (cV M (3 + j)) i) (k + 1) = hopF (hgV W i) (k + 1) := by
    unfold hopF
    refine vt_sum_congr _ (fun q hq => ?_)
    unfold hgV
    have e3 : cV M (3 + j) 0 3 = W 0 3 := hNq.1 3 (by omega)
    have e7 := (hNq.2.2.1 ((W 0 3).toNat + q) (by omega)).2
    have hb7 := (hWv.2.2.2.1 ((W 0 3).toNat + q) (by omega)).2
    rw [e3, e7, (hNq.2.2.2 i _ hi (by omega)).1]
  have hopB : 0 ≤ hopF (hgV W i) (k + 1) ∧ hopF (hgV W i) (k + 1) ≤ 27 := by
    unfold hopF
    have hq : ∀ q, q < k + 1 → 0 ≤ mx0 (hgV W i q) ∧ mx0 (hgV W i q) ≤ 9 := fun q hq => by
      have hb7 := (hWv.2.2.2.1 ((W 0 3).toNat + q) (by omega)).2
      have := (hWv.2.2.2.2 i (W 7 ((W 0 3).toNat + q)).toNat hi (by omega)).1
      unfold mx0 hgV
      split <;> omega
    have h1 := vt_sum_nn (k + 1) (fun q hq2 => (hq q hq2).1)
    have h2 := vt_sum_le (c := 9) (k + 1) (fun q hq2 => (hq q hq2).2)
    push_cast at h2
    omega
  generalize hHo : hopF (hgV W i) (k + 1) = Ho at *
  -- a code below, by its list
  have below : ∀ x, cdH b pre * b ^ (k + 1) ≤ x → x < (cdH b pre + 1) * b ^ (k + 1) → ∃ (t : Nat) (l : List Nat), l.length = k ∧ t < b ∧ (∀ m, m ∈ l → m < b) ∧ x = (cdH b pre * b + t) * b ^ k + cdH b l ∧ cdH b l < b ^ k ∧ evX V0 n i b many x = evB n i (t :: l) W w ∧ smX b many x = smL pre + t + smL l := by
    intro x h1 h2
    obtain ⟨l, l1, l2, l3, l4⟩ := node_x hb1 hpl hpb hjk h1 h2
    cases l with
    | nil => cases l1
    | cons t l =>
      have hlk : l.length = k := by simpa using l1
      have hlb : ∀ m, m ∈ l → m < b := fun m hm => l2 m (List.mem_cons_of_mem _ hm)
      have hll := cdH_lt l hlb
      rw [hlk] at hll
      refine ⟨t, l, hlk, l2 t (List.mem_cons_self ..), hlb, ?_, hll, ?_, ?_⟩
      · rw [l3, cdH, hlk, elow, Nat.add_zero, Nat.add_mul]
        omega
      · unfold evX
        rw [l4, evB_app _ _ _ _ _ hev, ← hW]
      · unfold smX
        rw [l4, smL_app]
        show smL pre + ((t : Int) + smL l) = _
        omega
  -- leaving the loop
  have leave : ∀ (M1 : Am_M) (t : Nat), t ≤ b → bM M1 V0 n i b many ((cdH b pre * b + t) * b ^ k) → (¬ canB M1 (w + Ho) (smL pre + t) ∨ (1 ≤ t ∧ ∀ t' (l : List Nat), t ≤ t' → (t' : Int) ≤ W 8 i → l.length = k → evB n i (t' :: l) W w = evB n i (0 :: l) W w)) → bM M1 V0 n i b many ((cdH b pre + 1) * b ^ (k + 1)) := by
    intro M1 t htb hB1 hor
    have hlow : cdH b pre * b ^ (k + 1) ≤ (cdH b pre * b + t) * b ^ k := by
      rw [elow]
      exact Nat.mul_le_mul_right _ (by omega)
    refine hB1.skip (by rw [esplit]; exact Nat.mul_le_mul_right _ (by omega)) (fun x hx1 hx2 w' he => ?_)
    obtain ⟨t', l, hlk, ht'b, hlb, hxe, hll, hxev, hxsm⟩ := below x (by omega) hx2
    have htt : t ≤ t' := by
      rcases Nat.lt_or_ge t' t with q | q
      · exfalso
        have : (cdH b pre * b + t' + 1) * b ^ k ≤ (cdH b pre * b + t) * b ^ k := Nat.mul_le_mul_right _ (by omega)
        rw [Nat.add_mul (cdH b pre * b + t') 1, Nat.one_mul] at this
        omega
      · exact q
    have hln := smL_nn l
    rw [hxev] at he
    have hval : (t' : Int) ≤ W 8 i := by
      have he : (if (t' : Int) ≤ W 8 i then evB n i l (nxB n i W t') (w + caB n i W t' * W 6 (i * 5 + mV W)) else none) = some w' := he
      by_cases q : (t' : Int) ≤ W 8 i
      · exact q
      · rw [if_neg q] at he; cases he
    rcases hor with hno | ⟨ht1, hcut⟩
    · have hh := evB_hope (mt := mt) hi (t' :: l) W w w' hWv (by rw [List.length_cons, hlk, W03]; push_cast; omega) he
      rw [List.length_cons, hlk, hHo] at hh
      rw [hxsm]
      unfold canB at hno
      rcases hB1 with ⟨b1, -⟩ | ⟨b1, -⟩
      · exact absurd (Or.inl b1) hno
      · omega
    · rw [hcut t' l htt hval hlk] at he
      have hx0 : ∃ x0, x0 = (cdH b pre * b + 0) * b ^ k + cdH b l := ⟨_, rfl⟩
      obtain ⟨x0, hx0⟩ := hx0
      have hx0c : x0 < (cdH b pre * b + t) * b ^ k := by
        have : (cdH b pre * b + 1) * b ^ k ≤ (cdH b pre * b + t) * b ^ k := Nat.mul_le_mul_right _ (by omega)
        rw [Nat.add_mul (cdH b pre * b) 1, Nat.one_mul] at this
        rw [Nat.add_zero] at hx0
        omega
      obtain ⟨t0, l0, hlk0, ht0b, hlb0, hxe0, hll0, hxev0, hxsm0⟩ := below x0 (by rw [elow]; omega) (by
        have : (cdH b pre * b + t) * b ^ k ≤ (cdH b pre * b + b) * b ^ k := Nat.mul_le_mul_right _ (by omega)
        rw [esplit]
        omega)
      -- the same list
      have ht00 : t0 = 0 := by
        rcases Nat.eq_zero_or_pos t0 with q | q
        · exact q
        · exfalso
          have : (cdH b pre * b + 1) * b ^ k ≤ (cdH b pre * b + t0) * b ^ k := Nat.mul_le_mul_right _ (by omega)
          rw [Nat.add_mul (cdH b pre * b) 1, Nat.one_mul] at this
          rw [Nat.add_zero] at hx0
          omega
      subst ht00
      have hll2 : l0 = l := by
        have h1 := dgH_cdH hb1 l hlb
        have h2 := dgH_cdH hb1 l0 hlb0
        rw [hlk] at h1
        rw [hlk0] at h2
        rw [← h1, ← h2]
        congr 1
        omega
      subst hll2
      rw [← hxev0] at he
      rw [hxsm]
      rcases hB1 with ⟨b1, b2⟩ | ⟨b1, f, b2, b3, b4, b5, b6⟩
      · rw [b2 x0 hx0c] at he; cases he
      · have := b6 x0 hx0c w' he
        rw [hxsm0] at this
        omega
  have hBR : ∀ (M1 : Am_M) (t : Nat), t ≤ b → bM M1 V0 n i b many ((cdH b pre * b + t) * b ^ k) → M1.1 0 34 12 = 0 ∨ (M1.1 0 34 12 = 1 ∧ (-27 ≤ M1.1 0 34 6 ∧ M1.1 0 34 6 ≤ 27) ∧ (0 ≤ M1.1 0 34 7 ∧ M1.1 0 34 7 ≤ 300)) := fun M1 t htb hB1 => bM_R hB1 hi hV0 (by rw [hpu]; omega) hm3 hb1 (by omega) (by
    have h1 : (cdH b pre * b + t) * b ^ k ≤ (cdH b pre * b + b) * b ^ k := Nat.mul_le_mul_right _ (by omega)
    rw [← esplit] at h1
    exact Nat.le_trans h1 hup)
  have hmost : ∀ mo : Nat, (mo : Int) ≤ W 8 i → mo < b := fun mo h => by omega
  have hX : nodeX M W n mt i j pre := hN.x hW
  -- the loop
  have loop : ∀ k', k = k' + 1 → ∀ (mo : Nat), (mo : Int) ≤ W 8 i → (∀ t' (l : List Nat), mo < t' → (t' : Int) ≤ W 8 i → l.length = k → evB n i (t' :: l) W w = evB n i (0 :: l) W w) → ∀ (c t : Nat) (z : Option Am_V) (M1 : Am_M), t + c = mo + 1 → okT M W n mt i j pre M1 → bM M1 V0 n i b many ((cdH b pre * b + t) * b ^ k) → am_At Γ (d + 7 + k) n_Foresight_seekBestFrom 102 [some (.inr (.inr (0, 34))), some (.inl (j : Int)), some (.inl (i : Int)), some (.inl (many : Int)), some (.inl w), some (.inl (smL pre)), some (.inr (.inr (3 + j, 0))), some (.inl (w + Ho)), some (.inl (W 6 (i * 5 + mV W))), some (.inl (mo : Int)), some (.inl (t : Int)), z] [] M1 (fun r M' => r = none ∧ am_same (gF j) M M' ∧ (∀ q, q < j → M'.1 0 37 q = M.1 0 37 q) ∧ bM M' V0 n i b many ((cdH b pre + 1) * b ^ (k + 1))) := by
    intro k' hk' mo hmo hcut c
    have hmob := hmost mo hmo
    induction c with
    | zero =>
      intro t z M1 ht hok hB1
      refine am_go 60 [102] (by decide) ?_
      refine And.intro ⟨⟨(by first | omega | (dsimp only [am_own]; omega)), (by first | omega | (dsimp only [am_own]; omega))⟩, ⟨(by first | omega | (dsimp only [am_own]; omega)), (by first | omega | (dsimp only [am_own]; omega))⟩⟩ (And.intro (fun h => ?_) (fun h => ?_))
      · exact ⟨rfl, hok.2.2.1, hok.2.2.2, leave M1 t (by omega) hB1 (Or.inr ⟨by omega, fun t' l h1 h2 h3 => hcut t' l (by omega) h2 h3⟩)⟩
      · exfalso; omega
    | succ c ihc =>
      intro t z M1 ht hok hB1
      obtain ⟨⟨f1, f2, f3, f4⟩, f5⟩ := hok.2.1.f hi hWp hWv
      have htW : (t : Int) ≤ W 8 i := by omega
      refine am_go 60 [102] (by decide) ?_
      refine And.intro ⟨⟨(by first | omega | (dsimp only [am_own]; omega)), (by first | omega | (dsimp only [am_own]; omega))⟩, ⟨(by first | omega | (dsimp only [am_own]; omega)), (by first | omega | (dsimp only [am_own]; omega))⟩⟩ (And.intro (fun h => ?_) (fun h => ?_))
      · exfalso; omega
      refine am_by (c_canB (d := d) (w := w + Ho) (s := smL pre + (t : Int)) ⟨by omega, by omega⟩ ⟨by omega, by omega⟩ (hBR M1 t (by omega) hB1)) (by omega) ?_
      rintro r M1' ⟨rfl, hr⟩
      rcases hr with ⟨rfl, hcan⟩ | ⟨rfl, hcan⟩
      rotate_left
      · refine And.intro ⟨(by first | omega | (dsimp only [am_own]; omega)), (by first | omega | (dsimp only [am_own]; omega))⟩ (And.intro (fun _ => ?_) (fun h => absurd rfl h))
        exact ⟨rfl, hok.2.2.1, hok.2.2.2, leave M1' t (by omega) hB1 (Or.inl hcan)⟩
      refine And.intro ⟨(by first | omega | (dsimp only [am_own]; omega)), (by first | omega | (dsimp only [am_own]; omega))⟩ (And.intro (fun h => absurd h (by decide)) (fun _ => ?_))
      have hpw' := c_putWith (Γ := Γ) (d := d) (M := M1') (j := j) (s := t) (by omega) hok.2.1.1 hok.1 hi (by omega) (by omega)
      rw [f2, (f5 t htW).2] at hpw'
      refine am_by hpw' (by omega) ?_
      rintro r M2 ⟨rfl, hs2, e72, hv2⟩
      have okA := hok.tell (s := (t : Int)) hpl (by omega) (by omega)
      have ok2 : okT M W n mt i j pre M2 := okA.step hpl hs2 (fun e p hp => by
        rcases hp with hp | hp
        · exact Or.inl hp
        · exact Or.inr (Or.inl ⟨Or.inl (by omega), by omega, hp.2⟩)) (fun p hp => by unfold vS; omega) (fun p a c => by unfold vS; omega) (fun q hq => hs2.2 0 37 q (by unfold vS; omega))
      have h37B : M2.1 0 37 j = t := (hs2.2 0 37 j (by unfold vS; omega)).trans tellM_37
      have hpbt : ∀ m, m ∈ pre ++ [t] → m < b := fun m hm => by
        rcases List.mem_append.mp hm with h | h
        · exact hpb m h
        · have : m = t := by simpa using h
          omega
      have hevt : evB n i (pre ++ [t]) V0 0 = some (w + caB n i W t * W 6 (i * 5 + mV W)) := by
        rw [evB_app _ _ _ _ _ hev, ← hW]
        show (if (t : Int) ≤ W 8 i then some (w + caB n i W t * W 6 (i * 5 + mV W)) else none) = _
        rw [if_pos htW]
      have hv2' : veq n mt (cV M2 (4 + j)) (vwB n i (pre ++ [t]) V0) := by
        rw [vwB_app, ← hW]
        exact hv2.tr (f5 t htW).1
      have hwf2 : wfV (cV M2 (4 + j)) n mt := veq_wf (hv2.tr (f5 t htW).1).symm (nxB_wf hWv hWp hi htW)
      have hN2 : nodeB M2 V0 n mt pu i (j + 1) (pre ++ [t]) := by
        unfold nodeB
        rw [show 3 + (j + 1) = 4 + j by omega]
        refine ⟨hwf2, ?_, hv2', pre_t hpl ok2.2.1.2.2 h37B⟩
        rw [e72, f1, W03]
        push_cast
        omega
      have hcd : cdH b (pre ++ [t]) = cdH b pre * b + t := by
        rw [cdH_app]
        show cdH b pre * b ^ 1 + (t * b ^ 0 + 0) = _
        rw [Nat.pow_one, Nat.pow_zero, Nat.mul_one, Nat.add_zero]
      have hB2 : bM M2 V0 n i b many (cdH b (pre ++ [t]) * b ^ (k' + 1)) := by
        rw [hcd, ← hk']
        refine hB1.fr (fun q => ?_) (fun q => ?_)
        · rw [hs2.2 0 34 q (by unfold vS; omega)]; exact tellM_same.2 0 34 q (by omega)
        · rw [hs2.2 0 38 q (by unfold vS; omega)]; exact tellM_same.2 0 38 q (by omega)
      have hcall := ih k' hk' (j + 1) (pre ++ [t]) (w + caB n i W t * W 6 (i * 5 + mV W)) M2 (by omega) (by rw [List.length_append, List.length_singleton]; omega) hpbt hevt ok2.1 hN2 hB2
      have hsm : smL (pre ++ [t]) = smL pre + (t : Int) := by
        rw [smL_app]
        show smL pre + ((t : Int) + 0) = _
        omega
      rw [hsm] at hcall
      refine am_by hcall (by omega) ?_
      rintro r M3 ⟨rfl, hs3, h373, hB3⟩
      rw [hcd, ← hk'] at hB3
      refine ihc (t + 1) _ M3 (by omega) (ok2.step hpl hs3 (fun e p hp => hp.elim Or.inl (fun hp => hp.elim (fun hp => Or.inr (Or.inl ⟨Or.inl (by have := hp.1; omega), hp.2⟩)) (fun hp => Or.inr (Or.inr hp)))) (fun p hp => by unfold gF vS; omega) (fun p a c => by unfold gF vS; omega) (fun q hq => h373 q (by omega))) hB3
  -- most
  have st72 : ∀ (mo : Nat), ((mo = 0 ∧ W 6 (i * 5 + mV W) = 0) ∨ (mo : Int) = W 8 i) → am_At Γ (d + 7 + k) n_Foresight_seekBestFrom 72 [some (.inr (.inr (0, 34))), some (.inl (j : Int)), some (.inl (i : Int)), some (.inl (many : Int)), some (.inl w), some (.inl (smL pre)), some (.inr (.inr (3 + j, 0))), some (.inl (w + Ho)), some (.inl (W 6 (i * 5 + mV W))), none, none, none] [.inl (mo : Int)] M (fun r M' => r = none ∧ am_same (gF j) M M' ∧ (∀ q, q < j → M'.1 0 37 q = M.1 0 37 q) ∧ bM M' V0 n i b many ((cdH b pre + 1) * b ^ (k + 1))) := by
    intro mo hmo
    have hmow : (mo : Int) ≤ W 8 i := by omega
    have hmob := hmost mo hmow
    have hcut : ∀ t' (l : List Nat), mo < t' → (t' : Int) ≤ W 8 i → l.length = k → evB n i (t' :: l) W w = evB n i (0 :: l) W w := fun t' l h4 h5 h6 => by
      rcases hmo with q | q
      · exact evB_zero hi hWv (by rw [h6, W03]; push_cast; omega) hdist q.2 h5
      · exfalso; omega
    refine am_go 60 [102] (by decide) ?_
    refine And.intro ⟨⟨(by first | omega | (dsimp only [am_own]; omega)), (by first | omega | (dsimp only [am_own]; omega))⟩, ⟨by omega, by omega⟩⟩ (And.intro (fun h => ?_) (fun h => ?_))
    · have h : (j : Int) = (many : Int) - 1 := h
      have hk0 : k = 0 := by omega
      have hB0 : bM M V0 n i b many (cdH b pre * b) := by
        rw [hk0, Nat.zero_add, Nat.pow_one] at hB
        exact hB
      refine am_by (c_tryLast (d := d) hi hV0 (by rw [hpu]; omega) hm3 hb31 hb1 hWv hWp W1 (by omega) (by omega) hpl hpb hev hW hmo hH hX hB0) (by omega) ?_
      rintro r M1 ⟨rfl, h1, h2, h3⟩
      refine ⟨rfl, h1, h2, ?_⟩
      rw [hk0, Nat.zero_add, Nat.pow_one, Nat.add_mul, Nat.one_mul]
      exact h3
    · have h : ¬ (j : Int) = (many : Int) - 1 := h
      refine And.intro ⟨⟨(by first | omega | (dsimp only [am_own]; omega)), (by first | omega | (dsimp only [am_own]; omega))⟩, ⟨(by first | omega | (dsimp only [am_own]; omega)), (by first | omega | (dsimp only [am_own]; omega))⟩⟩ (And.intro (fun h2 => ?_) (fun h2 => ?_))
      · have h2 : (j : Int) = 2 := h2
        exfalso; omega
      · obtain ⟨k', hk'⟩ : ∃ k', k = k' + 1 := ⟨k - 1, by omega⟩
        have hB1 := hB
        rw [elow] at hB1
        exact loop k' hk' mo hmow hcut (mo + 1) 0 none M (by omega) ⟨hH, hX, am_same.rf, fun _ _ => rfl⟩ hB1
  -- from the beginning
  refine am_ev_of (by decide) (am_le rfl) (am_go 80 [72] (by decide) ?_)
  refine And.intro ⟨(by first | omega | (dsimp only [am_own]; omega)), (by first | omega | (dsimp only [am_own]; omega))⟩ ?_
  have hh := c_hopeFor (Γ := Γ) (d := d) (k := k + 1) hNv hH hi (by push_cast; omega)
  rw [show (((k + 1 : Nat)) : Int) = (many : Int) - (j : Int) by omega, hopE] at hh
  refine am_by hh (by omega) ?_
  rintro r M1 ⟨rfl, rfl⟩
  have hB0 : bM M1 V0 n i b many ((cdH b pre * b + 0) * b ^ k) := by rw [← elow]; exact hB
  refine am_by (c_canB (d := d) (w := w + Ho) (s := smL pre) ⟨by omega, by omega⟩ ⟨by omega, by omega⟩ (hBR M1 0 (by omega) hB0)) (by omega) ?_
  rintro r M2 ⟨rfl, hr⟩
  rcases hr with ⟨rfl, hcan⟩ | ⟨rfl, hcan⟩
  rotate_left
  · refine And.intro ⟨(by first | omega | (dsimp only [am_own]; omega)), (by first | omega | (dsimp only [am_own]; omega))⟩ (And.intro (fun _ => ?_) (fun h => absurd rfl h))
    exact ⟨rfl, am_same.rf, fun _ _ => rfl, leave M2 0 (by omega) hB0 (Or.inl (by rw [Int.natCast_zero, Int.add_zero]; exact hcan))⟩
  refine And.intro ⟨(by first | omega | (dsimp only [am_own]; omega)), (by first | omega | (dsimp only [am_own]; omega))⟩ (And.intro (fun h => absurd h (by decide)) (fun _ => ?_))
  have ho := (hNv.2.2.2.1 (pu + j) (by omega)).2
  have ho : 0 ≤ M2.1 (3 + j) 6 (pu + j) ∧ M2.1 (3 + j) 6 (pu + j) < mt := ho
  have eo : M2.1 (3 + j) 6 (M2.1 (3 + j) 0 7).toNat = M2.1 (3 + j) 6 (pu + j) := by rw [hNp]; rfl
  have emW : M2.1 (3 + j) 6 (pu + j) = (mV W : Int) := by
    have h7 : M2.1 (3 + j) 6 (pu + j) = W 7 (pu + j) := (hNq.2.2.1 (pu + j) (by omega)).2
    unfold mV
    rw [W03, show (((pu + j : Nat) : Int)).toNat = pu + j from rfl, ← h7]
    omega
  refine And.intro (show 0 ≤ M2.1 (3 + j) 0 7 ∧ M2.1 (3 + j) 0 7 < 5 from ⟨by omega, by omega⟩) ?_
  have hw0 := c_worthTo (Γ := Γ) (d := d) (M := M2) (i : Int) (mV W : Int) (by omega)
  have ewh : M2.1 0 20 ((i : Int) * 5 + (mV W : Int)).toNat = W 6 (i * 5 + mV W) := by
    rw [show ((i : Int) * 5 + (mV W : Int)).toNat = i * 5 + mV W by omega]
    exact (hNq.2.2.2 i (mV W) hi hWm).1
  rw [ewh, ← emW, ← eo] at hw0
  refine am_by hw0 (by omega) ?_
  rintro r M3 ⟨rfl, rfl⟩
  refine And.intro ⟨by omega, by omega⟩ (And.intro (fun h3 => ?_) (fun h3 => ?_))
  · have h3 : W 6 (i * 5 + mV W) = 0 := h3
    exact st72 0 (Or.inl ⟨rfl, h3⟩)
  · refine And.intro ⟨(by first | omega | (dsimp only [am_own]; omega)), (by first | omega | (dsimp only [am_own]; omega))⟩ ?_
    have e8 : M3.1 (3 + j) 7 i = W 8 i := (hNq.2.1 i hi).2.2.2.2
    have go := st72 (W 8 i).toNat (Or.inr (by omega))
    rw [show (((W 8 i).toNat : Nat) : Int) = M3.1 (3 + j) 7 i by omega] at go
    exact go
theorem c_seekBestFrom {Γ : Am_G} {d : Nat} {V0 : Vw} {n mt pu i b many : Nat} (hi : i < n) (hV0 : wfV V0 n mt) (hpu : V0 0 3 = pu) (hpm : pu + many ≤ mt) (hm3 : many ≤ 3) (hk3 : V0 1 i = 3) (hb : (b : Int) = V0 2 i + 1) (hb31 : b ≤ 31) (hb1 : 0 < b) (hl0 : V0 8 i ≤ V0 2 i) (hinj : ∀ a c, a < mt → c < mt → V0 7 a = V0 7 c → a = c) : ∀ k : Nat, seekP Γ d V0 n mt pu i b many k
  | 0 => c_seekStep hi hV0 hpu hpm hm3 hk3 hb hb31 hb1 hl0 hinj 0 (fun k' h => absurd h (by omega))
  | k + 1 => c_seekStep hi hV0 hpu hpm hm3 hk3 hb hb31 hb1 hl0 hinj (k + 1) (fun k' h => by
    have : k = k' := by omega
    subst this
    exact c_seekBestFrom hi hV0 hpu hpm hm3 hk3 hb hb31 hb1 hl0 hinj k)
