/-! one's best seconds: the reference's search -/
def bF (M M1 : Am_M) : Prop := M1.2 = M.2 ∧ (∀ e p k, p ≠ 41 → p ≠ 47 → p ≠ 48 → ¬ (52 ≤ p ∧ p ≤ 56) → M1.1 e p k = M.1 e p k) ∧ (∀ k, k ≠ 24 → k ≠ 25 → k ≠ 26 → k ≠ 34 → M1.1 0 41 k = M.1 0 41 k) ∧ (∀ k, k < 92 → M1.1 0 47 k = M.1 0 47 k)
theorem bF.rf {M : Am_M} : bF M M := ⟨rfl, fun _ _ _ _ _ _ _ => rfl, fun _ _ _ _ _ => rfl, fun _ _ => rfl⟩
theorem bF.r {M M1 M2 : Am_M} (h : bF M M1) (h2 : rF M1 M2) : bF M M2 := ⟨h2.1.trans h.1, fun e p k a b c d => (h2.2.1 e p k a b c (by omega)).trans (h.2.1 e p k a b c d), fun k a b c d => (h2.2.2.1 k a b c).trans (h.2.2.1 k a b c d), fun k hk => (h2.2.2.2 k hk).trans (h.2.2.2 k hk)⟩
theorem bF.s55 {M M1 : Am_M} {p k : Nat} {v : Int} (h : bF M M1) (hp : p = 55 ∨ p = 56) : bF M (am_set M1 0 p k v) := ⟨h.1, fun e p' k' a b c d => by rw [set_p (by omega)]; exact h.2.1 e p' k' a b c d, fun k' a b c d => by rw [set_p (by omega)]; exact h.2.2.1 k' a b c d, fun k' hk => by rw [set_p (by omega)]; exact h.2.2.2 k' hk⟩
theorem bF.s34 {M M1 : Am_M} {v : Int} (h : bF M M1) : bF M (am_set M1 0 41 34 v) := ⟨h.1, fun e p' k' a b c d => by rw [set_p (by omega)]; exact h.2.1 e p' k' a b c d, fun k' a b c d => by rw [set_k (by omega)]; exact h.2.2.1 k' a b c d, fun k' hk => by rw [set_p (by omega)]; exact h.2.2.2 k' hk⟩
theorem bF.wM {M M' : Am_M} {n mt : Nat} (h : wfM M n mt) (hb : bF M M') : wfM M' n mt := by
  obtain ⟨-, g, f, g7⟩ := hb
  have g : ∀ p k, 42 ≤ p → p ≤ 44 → M'.1 0 p k = M.1 0 p k := fun p k a b => g 0 p k (by omega) (by omega) (by omega) (by omega)
  obtain ⟨⟨n1, n2, n3, n4⟩, n5, n6, n7, n8, n9, n10, n11⟩ := h
  refine ⟨⟨by rw [f 0 (by omega) (by omega) (by omega) (by omega)]; exact n1, n2, by rw [f 2 (by omega) (by omega) (by omega) (by omega)]; exact n3, n4⟩, by rw [f 5 (by omega) (by omega) (by omega) (by omega)]; exact n5, fun i hi => ?_, fun m hm => ?_, fun i m hi hm => ?_, fun k hk => ?_, by rw [f 30 (by omega) (by omega) (by omega) (by omega)]; exact n10, by rw [f 31 (by omega) (by omega) (by omega) (by omega)]; exact n11⟩
  · rw [g 42 _ (by omega) (by omega), g 42 _ (by omega) (by omega), g 42 _ (by omega) (by omega), g 42 _ (by omega) (by omega), g7 _ (by omega)]
    exact n6 i hi
  · rw [g 43 _ (by omega) (by omega)]; exact n7 m hm
  · rw [g 44 _ (by omega) (by omega), g7 _ (by omega)]; exact n8 i m hi hm
  · rw [g7 _ (by omega)]; exact n9 k hk
theorem bF.vq {M M' : Am_M} {n mt : Nat} (hb : bF M M') (hn : n ≤ 6) (hm : mt ≤ 5) : veq n mt (rV M') (rV M) := by
  obtain ⟨-, g, f, g7⟩ := hb
  have g : ∀ p k, 42 ≤ p → p ≤ 44 → M'.1 0 p k = M.1 0 p k := fun p k a b => g 0 p k (by omega) (by omega) (by omega) (by omega)
  refine ⟨fun k hk => ?_, fun i hi => ⟨?_, ?_, ?_, g 42 _ (by omega) (by omega), g7 _ (by omega)⟩, fun m2 hm2 => ⟨g 43 m2 (by omega) (by omega), g7 _ (by omega)⟩, fun i m2 hi hm2 => ⟨g 44 _ (by omega) (by omega), g7 _ (by omega)⟩⟩
  · rcases (show k = 0 ∨ k = 1 ∨ k = 2 ∨ k = 3 by omega) with rfl | rfl | rfl | rfl
    · exact f 0 (by omega) (by omega) (by omega) (by omega)
    · exact f 2 (by omega) (by omega) (by omega) (by omega)
    · exact f 5 (by omega) (by omega) (by omega) (by omega)
    · exact g7 0 (by omega)
  · show mkd M' i = mkd M i
    unfold mkd
    rw [f 30 (by omega) (by omega) (by omega) (by omega), g 42 _ (by omega) (by omega)]
  · show (if M'.1 0 41 31 = 1 then 99 else M'.1 0 42 (i * 4 + 1)) = if M.1 0 41 31 = 1 then 99 else M.1 0 42 (i * 4 + 1)
    rw [f 31 (by omega) (by omega) (by omega) (by omega), g 42 _ (by omega) (by omega)]
  · show (if M'.1 0 41 31 = 1 then 0 else M'.1 0 42 (i * 4 + 2)) = if M.1 0 41 31 = 1 then 0 else M.1 0 42 (i * 4 + 2)
    rw [f 31 (by omega) (by omega) (by omega) (by omega), g 42 _ (by omega) (by omega)]
theorem ev_zeros {n mt i b : Nat} (hi : i < n) : ∀ (k : Nat) (V : Vw) (w : Int), wfV V n mt → V 0 3 + (k : Int) ≤ mt → evB n i (dgH b k 0) V w ≠ none
  | 0, _, _, _, _ => by intro h; cases h
  | k + 1, V, w, hV, hp => by
    have h8 := (hV.2.2.1 i hi).2.2.2.2
    have hp1 : V 0 3 < mt := by push_cast at hp; omega
    rw [dgH, Nat.zero_div, Nat.zero_mod]
    show (if ((0 : Nat) : Int) ≤ V 8 i then evB n i (dgH b k 0) (nxB n i V 0) (w + caB n i V 0 * V 6 (i * 5 + mV V)) else none) ≠ none
    rw [if_pos (by omega)]
    exact ev_zeros hi k _ _ (nxB_wf hV hp1 hi (by omega)) (by rw [nxB_03]; push_cast at hp; omega)
theorem pow31 : ∀ b, b ≤ 31 → ∀ k, k ≤ 3 → b ^ k ≤ 29791 := by decide +kernel
/-- what the search ends with -/
def bestO (V : Vw) (n i b many : Nat) (f : Nat) (w : Int) : Prop := f < b ^ many ∧ evX V n i b many f = some w ∧ ∀ x, x < b ^ many → ∀ w', evX V n i b many x = some w' → w' < w ∨ (w' = w ∧ (smX b many f < smX b many x ∨ (smX b many f = smX b many x ∧ f ≤ x)))
theorem bestO_uniq {V : Vw} {n i b many f f' : Nat} {w w' : Int} (h : bestO V n i b many f w) (h' : bestO V n i b many f' w') : f = f' ∧ w = w' := by
  obtain ⟨a1, a2, a3⟩ := h
  obtain ⟨b1, b2, b3⟩ := h'
  have q1 := a3 f' b1 w' b2
  have q2 := b3 f a1 w a2
  omega
def rB (M1 : Am_M) (V : Vw) (n i b many c : Nat) (few : Int) : Prop := (M1.1 0 41 34 = -1 ∧ few = 0 ∧ ∀ x, x < c → evX V n i b many x = none) ∨ ∃ f w, f < c ∧ evX V n i b many f = some w ∧ M1.1 0 41 34 = 100 + w ∧ few = smX b many f ∧ (∀ k (s : Nat), (dgH b many f)[k]? = some s → M1.1 0 56 k = s) ∧ ∀ x, x < c → ∀ w', evX V n i b many x = some w' → w' < w ∨ (w' = w ∧ (smX b many f < smX b many x ∨ (smX b many f = smX b many x ∧ f ≤ x)))
theorem c_M_tryAll {Γ : Am_G} {d : Nat} {M : Am_M} {n mt pu i many b : Nat} (hM : wfM M n mt) (hi : i < n) (hp : M.1 0 47 0 = pu) (hpm : pu + many ≤ mt) (hm1 : 1 ≤ many) (hm3 : many ≤ 3) (hb : (b : Int) = M.1 0 42 (i * 4 + 1) + 1) (hb31 : b ≤ 31) : am_Ev Γ (d + 6) n_M_tryAll [.inr (.inr (0, 41)), .inl (i : Int), .inl (many : Int)] M (fun r M' => r = none ∧ bF M M' ∧ ∃ f w, bestO (rV M) n i b many f w ∧ M'.1 0 41 34 = 100 + w ∧ ∀ k (s : Nat), (dgH b many f)[k]? = some s → M'.1 0 56 k = s) := by
  obtain ⟨⟨n1, n2, n3, n4⟩, n5, n6, n7, n8, n9, n10, n11⟩ := id hM
  have hV0 : wfV (rV M) n mt := rV_wf hM (by omega)
  have h03 : rV M 0 3 = pu := hp
  have hb1 : 0 < b := by have := (n6 i hi).2.1; omega
  have hpw := pow31 b hb31 many hm3
  have ea : M.1 0 42 (4 * (i : Int) + 1).toNat = (b : Int) - 1 := by rw [show (4 * (i : Int) + 1).toNat = i * 4 + 1 by omega]; omega
  -- bounds
  have evb : ∀ x w, evX (rV M) n i b many x = some w → -27 ≤ w ∧ w ≤ 27 := fun x w h => by
    have := evB_b (mt := mt) hi _ _ _ _ hV0 (by rw [dgH_len, h03]; omega) h
    rw [dgH_len] at this
    omega
  have smb : ∀ x, x < b ^ many → 0 ≤ smX b many x ∧ smX b many x ≤ 93 := fun x hx => by
    have q1 := smL_nn (dgH b many x)
    have q2 := smL_le _ (dgH_b hb1 many x hx)
    rw [dgH_len] at q2
    have q4 := mul_b (a := (b : Int)) (b := (many : Int)) (A := 31) (B := 3) (by omega) (by omega)
    unfold smX
    omega
  have main : ∀ (cc code : Nat) (few : Int) (z7 z8 z9 z10 : Option Am_V) (M1 : Am_M), code + cc = b ^ many → bF M M1 → rB M1 (rV M) n i b many code few → am_At Γ (d + 6) n_M_tryAll 48 [some (.inr (.inr (0, 41))), some (.inl (i : Int)), some (.inl (many : Int)), some (.inl ((b : Int) - 1)), some (.inl ((b ^ many : Nat) : Int)), some (.inl few), some (.inl (code : Int)), z7, z8, z9, z10] [] M1 (fun r M' => r = none ∧ bF M M' ∧ ∃ f w, bestO (rV M) n i b many f w ∧ M'.1 0 41 34 = 100 + w ∧ ∀ k (s : Nat), (dgH b many f)[k]? = some s → M'.1 0 56 k = s) := by
    intro cc
    induction cc with
    | zero =>
      intro code few z7 z8 z9 z10 M1 hcc hF hR
      refine am_go 60 [48] (by decide) ?_
      refine And.intro ⟨⟨(by first | omega | (dsimp only [am_own]; omega)), (by first | omega | (dsimp only [am_own]; omega))⟩, ⟨(by first | omega | (dsimp only [am_own]; omega)), (by first | omega | (dsimp only [am_own]; omega))⟩⟩ (And.intro (fun h => ?_) (fun h => ?_))
      · exfalso
        have h : (code : Int) < ((b ^ many : Nat) : Int) := h
        omega
      have hcode : code = b ^ many := by omega
      subst hcode
      rcases hR with ⟨-, -, hno⟩ | ⟨f, w, r1, r2, r3, r4, r5, r6⟩
      · exact absurd (hno 0 (Nat.pow_pos hb1)) (ev_zeros hi many _ _ hV0 (by rw [h03]; omega))
      · exact ⟨rfl, hF, f, w, ⟨r1, r2, r6⟩, r3, r5⟩
    | succ cc ihm =>
      intro code few z7 z8 z9 z10 M1 hcc hF hR
      have hcl : code < b ^ many := by omega
      have hrow := dgH_len b many code
      have hrb := dgH_b hb1 many code hcl
      have hsm := smb code hcl
      have few_b : 0 ≤ few ∧ few ≤ 93 := by
        rcases hR with ⟨-, r2, -⟩ | ⟨f, w, r1, r2, r3, r4, -⟩
        · omega
        · have := smb f (by omega); omega
      -- the next one
      have again : ∀ (few' : Int) (z7 z8 z9 z10 : Option Am_V) (M2 : Am_M), bF M M2 → rB M2 (rV M) n i b many (code + 1) few' → am_At Γ (d + 6) n_M_tryAll 183 [some (.inr (.inr (0, 41))), some (.inl (i : Int)), some (.inl (many : Int)), some (.inl ((b : Int) - 1)), some (.inl ((b ^ many : Nat) : Int)), some (.inl few'), some (.inl (code : Int)), z7, z8, z9, z10] [] M2 (fun r M' => r = none ∧ bF M M' ∧ ∃ f w, bestO (rV M) n i b many f w ∧ M'.1 0 41 34 = 100 + w ∧ ∀ k (s : Nat), (dgH b many f)[k]? = some s → M'.1 0 56 k = s) := by
        intro few' z7 z8 z9 z10 M2 hF2 hR2
        refine am_go 60 [48] (by decide) ?_
        exact ihm (code + 1) few' z7 z8 z9 z10 M2 (by omega) hF2 hR2
      -- it is better: copied
      have better : ∀ (w : Int), evX (rV M) n i b many code = some w → (∀ x, x < code → ∀ w', evX (rV M) n i b many x = some w' → w' < w ∨ (w' = w ∧ smX b many code < smX b many x)) → ∀ (k q : Nat) (z7 : Option Am_V) (v9 : Int) (M2 : Am_M), q + k = many → bF M M2 → M2.1 0 41 34 = 100 + w → (∀ k (s : Nat), (dgH b many code)[k]? = some s → M2.1 0 55 k = s) → (∀ k (s : Nat), k < q → (dgH b many code)[k]? = some s → M2.1 0 56 k = s) → am_At Γ (d + 6) n_M_tryAll 157 [some (.inr (.inr (0, 41))), some (.inl (i : Int)), some (.inl (many : Int)), some (.inl ((b : Int) - 1)), some (.inl ((b ^ many : Nat) : Int)), some (.inl (smX b many code)), some (.inl (code : Int)), z7, some (.inl (smX b many code)), some (.inl v9), some (.inl (q : Int))] [] M2 (fun r M' => r = none ∧ bF M M' ∧ ∃ f w, bestO (rV M) n i b many f w ∧ M'.1 0 41 34 = 100 + w ∧ ∀ k (s : Nat), (dgH b many f)[k]? = some s → M'.1 0 56 k = s) := by
        intro w hw hbest k
        induction k with
        | zero =>
          intro q z7 v9 M2 hq hF2 h34 h55 h56
          refine am_go 60 [157, 183] (by decide) ?_
          refine And.intro ⟨⟨(by first | omega | (dsimp only [am_own]; omega)), (by first | omega | (dsimp only [am_own]; omega))⟩, ⟨(by first | omega | (dsimp only [am_own]; omega)), (by first | omega | (dsimp only [am_own]; omega))⟩⟩ (And.intro (fun h => ?_) (fun h => ?_))
          · exfalso; omega
          refine again _ _ _ _ _ M2 hF2 (Or.inr ⟨code, w, by omega, hw, h34, rfl, fun k s hk => h56 k s ?_ hk, fun x hx w' he => ?_⟩)
          · have := (List.getElem?_eq_some_iff.mp hk).1
            rw [hrow] at this
            omega
          · by_cases qx : x = code
            · subst qx
              rw [hw] at he
              have : w = w' := Option.some.inj he
              subst this
              exact Or.inr ⟨rfl, Or.inr ⟨rfl, Nat.le_refl _⟩⟩
            · rcases hbest x (by omega) w' he with z | ⟨z1, z2⟩
              · exact Or.inl z
              · exact Or.inr ⟨z1, Or.inl z2⟩
        | succ k ihk =>
          intro q z7 v9 M2 hq hF2 h34 h55 h56
          refine am_go 60 [157, 183] (by decide) ?_
          refine And.intro ⟨⟨(by first | omega | (dsimp only [am_own]; omega)), (by first | omega | (dsimp only [am_own]; omega))⟩, ⟨(by first | omega | (dsimp only [am_own]; omega)), (by first | omega | (dsimp only [am_own]; omega))⟩⟩ (And.intro (fun h => ?_) (fun h => ?_))
          rotate_left
          · exfalso; omega
          refine And.intro ⟨(by first | omega | (dsimp only [am_own]; omega)), (by first | omega | (dsimp only [am_own]; omega))⟩ ?_
          refine And.intro ⟨(by first | omega | (dsimp only [am_own]; omega)), (by first | omega | (dsimp only [am_own]; omega))⟩ ?_
          refine ihk (q + 1) z7 v9 (am_set M2 0 56 q (M2.1 0 55 q)) (by omega) (hF2.s55 (Or.inr rfl)) (by rw [set_p (by decide)]; exact h34) (fun k s hk => by rw [set_p (by decide)]; exact h55 k s hk) (fun k s hkq hk => ?_)
          by_cases qk : k = q
          · subst qk
            rw [set_eq]
            exact h55 k s hk
          · rw [set_k qk]
            exact h56 k s (by omega) hk
      -- tried
      have tried : ∀ (z7 z9 : Option Am_V) (M2 : Am_M), bF M M2 → rB M2 (rV M) n i b many code few → (∀ k (s : Nat), (dgH b many code)[k]? = some s → M2.1 0 55 k = s) → am_At Γ (d + 6) n_M_tryAll 111 [some (.inr (.inr (0, 41))), some (.inl (i : Int)), some (.inl (many : Int)), some (.inl ((b : Int) - 1)), some (.inl ((b ^ many : Nat) : Int)), some (.inl few), some (.inl (code : Int)), z7, some (.inl (smX b many code)), z9, z10] [] M2 (fun r M' => r = none ∧ bF M M' ∧ ∃ f w, bestO (rV M) n i b many f w ∧ M'.1 0 41 34 = 100 + w ∧ ∀ k (s : Nat), (dgH b many f)[k]? = some s → M'.1 0 56 k = s) := by
        intro z7 z9 M2 hF2 hR2 h55
        have hM2 := hF2.wM hM
        have hv2 := hF2.vq n2 n4
        refine am_go 60 [144, 183] (by decide) ?_
        refine am_by (c_M_tryOne (d := d) (row := dgH b many code) hM2 hi ((hF2.2.2.2 0 (by omega)).trans hp) hpm hm3 hrow h55 (fun m hm => by have := hrb m hm; omega)) (by omega) ?_
        rintro r M3 ⟨rfl, hr3⟩
        have eev : evB n i (dgH b many code) (rV M2) 0 = evX (rV M) n i b many code := by
          unfold evX
          exact evB_congr hi _ _ _ _ hv2 (veq_wf hv2.symm hV0) (by rw [hrow]; show M2.1 0 47 0 + _ ≤ _; have := (hF2.2.2.2 0 (by omega)).trans hp; omega)
        rw [eev]
        have hF3 := hF2.r hr3
        have e34 : M3.1 0 41 34 = M2.1 0 41 34 := hr3.2.2.1 34 (by omega) (by omega) (by omega)
        have e56 : ∀ k, M3.1 0 56 k = M2.1 0 56 k := fun k => hr3.2.1 0 56 k (by omega) (by omega) (by omega) (by omega)
        have e55 : ∀ k, M3.1 0 55 k = M2.1 0 55 k := fun k => hr3.2.1 0 55 k (by omega) (by omega) (by omega) (by omega)
        have hR3 : rB M3 (rV M) n i b many code few := by
          unfold rB
          rw [e34]
          rcases hR2 with z | ⟨f, w, r1, r2, r3, r4, r5, r6⟩
          · exact Or.inl z
          · exact Or.inr ⟨f, w, r1, r2, r3, r4, fun k s hk => by rw [e56]; exact r5 k s hk, r6⟩
        have b34 : -1 ≤ M3.1 0 41 34 ∧ M3.1 0 41 34 ≤ 127 := by
          rcases hR3 with ⟨z, -⟩ | ⟨f, w, r1, r2, r3, -⟩
          · omega
          · have := evb f w r2; omega
        -- kept as it is
        have keep : (∀ w, evX (rV M) n i b many code = some w → 100 + w ≤ M3.1 0 41 34 ∧ (100 + w = M3.1 0 41 34 → few ≤ smX b many code)) → rB M3 (rV M) n i b many (code + 1) few := by
          intro hk
          rcases hR3 with ⟨y1, y2, y3⟩ | ⟨f, w, r1, r2, r3, r4, r5, r6⟩
          · refine Or.inl ⟨y1, y2, fun x hx => ?_⟩
            by_cases qx : x = code
            · subst qx
              cases he : evX (rV M) n i b many x with
              | none => rfl
              | some w =>
                have h1 := evb x w he
                have h2 := (hk w he).1
                omega
            · exact y3 x (by omega)
          · refine Or.inr ⟨f, w, by omega, r2, r3, r4, r5, fun x hx w' he => ?_⟩
            by_cases qx : x = code
            · subst qx
              have h2 := hk w' he
              omega
            · exact r6 x (by omega) w' he
        have take : ∀ w, evX (rV M) n i b many code = some w → (M3.1 0 41 34 < 100 + w ∨ (100 + w = M3.1 0 41 34 ∧ smX b many code < few)) → am_At Γ (d + 6) n_M_tryAll 144 [some (.inr (.inr (0, 41))), some (.inl (i : Int)), some (.inl (many : Int)), some (.inl ((b : Int) - 1)), some (.inl ((b ^ many : Nat) : Int)), some (.inl few), some (.inl (code : Int)), z7, some (.inl (smX b many code)), some (.inl (100 + w)), z10] [] M3 (fun r M' => r = none ∧ bF M M' ∧ ∃ f w, bestO (rV M) n i b many f w ∧ M'.1 0 41 34 = 100 + w ∧ ∀ k (s : Nat), (dgH b many f)[k]? = some s → M'.1 0 56 k = s) := by
          intro w hw hbt
          refine am_go 60 [157] (by decide) ?_
          refine better w hw (fun x hx w' he => ?_) many 0 z7 (100 + w) (am_set M3 0 41 34 (100 + w)) (by omega) hF3.s34 set_eq (fun k s hk => by rw [set_p (by decide), e55]; exact h55 k s hk) (fun k s hk0 => absurd hk0 (Nat.not_lt_zero k))
          rcases hR3 with ⟨y1, y2, y3⟩ | ⟨f, w0, r1, r2, r3, r4, r5, r6⟩
          · rw [y3 x hx] at he; cases he
          · have := r6 x hx w' he
            omega
        cases he : evX (rV M) n i b many code with
        | none =>
          show _ ∧ _
          refine And.intro ⟨(show am_R (-1) from ⟨by omega, by omega⟩), (show am_R (M3.1 0 41 34) from ⟨by omega, by omega⟩)⟩ (And.intro (fun h => ?_) (fun h => ?_))
          · exfalso
            have h : M3.1 0 41 34 < -1 := h
            omega
          have hk0 : rB M3 (rV M) n i b many (code + 1) few := keep (fun w hw => by rw [he] at hw; cases hw)
          refine And.intro ⟨(show am_R (-1) from ⟨by omega, by omega⟩), (show am_R (M3.1 0 41 34) from ⟨by omega, by omega⟩)⟩ (And.intro (fun h2 => ?_) (fun h2 => again few _ _ _ _ M3 hF3 hk0))
          have h2 : -1 = M3.1 0 41 34 := h2
          refine And.intro ⟨⟨by omega, by omega⟩, ⟨by omega, by omega⟩⟩ (And.intro (fun h3 => ?_) (fun h3 => again few _ _ _ _ M3 hF3 hk0))
          exfalso
          have h3 : smX b many code < few := h3
          rcases hR3 with ⟨y1, y2, y3⟩ | ⟨f, w0, r1, r2, r3, -⟩
          · omega
          · have := evb f w0 r2; omega
        | some w =>
          have hwb := evb code w he
          show _ ∧ _
          refine And.intro ⟨⟨by show -2147483648 ≤ 100 + w; omega, by show 100 + w ≤ _; omega⟩, (show am_R (M3.1 0 41 34) from ⟨by omega, by omega⟩)⟩ (And.intro (fun h => ?_) (fun h => ?_))
          · have h : M3.1 0 41 34 < 100 + w := h
            have go := take w he (Or.inl h)
            exact go
          have h : ¬ M3.1 0 41 34 < 100 + w := h
          refine And.intro ⟨⟨by show -2147483648 ≤ 100 + w; omega, by show 100 + w ≤ _; omega⟩, (show am_R (M3.1 0 41 34) from ⟨by omega, by omega⟩)⟩ (And.intro (fun h2 => ?_) (fun h2 => ?_))
          · have h2 : 100 + w = M3.1 0 41 34 := h2
            refine And.intro ⟨⟨by omega, by omega⟩, ⟨by omega, by omega⟩⟩ (And.intro (fun h3 => ?_) (fun h3 => ?_))
            · exact (take w he (Or.inr ⟨h2, h3⟩))
            · have h3 : ¬ smX b many code < few := h3
              exact again few _ _ _ _ M3 hF3 (keep (fun w' hw' => by rw [he] at hw'; have : w = w' := Option.some.inj hw'; omega))
          · have h2 : ¬ 100 + w = M3.1 0 41 34 := h2
            exact again few _ _ _ _ M3 hF3 (keep (fun w' hw' => by rw [he] at hw'; have : w = w' := Option.some.inj hw'; omega))
      -- digits
      have digs : ∀ (k : Nat) (lf sm ix : Int) (M2 : Am_M), k ≤ many → lf = ((code / b ^ (many - k) : Nat) : Int) → sm = smL ((dgH b many code).drop k) → ix = (k : Int) - 1 → bF M M2 → rB M2 (rV M) n i b many code few → (∀ p (s : Nat), k ≤ p → (dgH b many code)[p]? = some s → M2.1 0 55 p = s) → am_At Γ (d + 6) n_M_tryAll 67 [some (.inr (.inr (0, 41))), some (.inl (i : Int)), some (.inl (many : Int)), some (.inl ((b : Int) - 1)), some (.inl ((b ^ many : Nat) : Int)), some (.inl few), some (.inl (code : Int)), some (.inl lf), some (.inl sm), some (.inl ix), z10] [] M2 (fun r M' => r = none ∧ bF M M' ∧ ∃ f w, bestO (rV M) n i b many f w ∧ M'.1 0 41 34 = 100 + w ∧ ∀ k (s : Nat), (dgH b many f)[k]? = some s → M'.1 0 56 k = s) := by
        intro k
        induction k with
        | zero =>
          intro lf sm ix M2 hk hlf hsm hix hF2 hR2 h55
          have e : sm = smX b many code := hsm
          subst e
          refine am_go 60 [67, 111] (by decide) ?_
          refine And.intro ⟨by omega, by omega⟩ (And.intro (fun h => ?_) (fun h => ?_))
          · exact tried _ _ M2 hF2 hR2 (fun k s hk => h55 k s (Nat.zero_le k) hk)
          · exfalso
            have h : ¬ ix < 0 := h
            omega
        | succ k ih =>
          intro lf sm ix M2 hk hlf hsm hix hF2 hR2 h55
          have hat := dgH_at b hb1 many code k hcl (by omega)
          have hkl : k < (dgH b many code).length := by rw [hrow]; omega
          have hdr : (dgH b many code).drop k = (code / b ^ (many - 1 - k) % b) :: (dgH b many code).drop (k + 1) := by
            rw [List.drop_eq_getElem_cons hkl]
            have := (List.getElem?_eq_some_iff.mp hat).2
            rw [this]
          have hlc : code / b ^ (many - (k + 1)) ≤ code := Nat.div_le_self _ _
          have hlf0 : 0 ≤ lf := by rw [hlf]; exact Int.natCast_nonneg _
          have hlf1 : lf ≤ (code : Int) := by rw [hlf]; exact Int.ofNat_le.mpr hlc
          have eix : ix.toNat = k := by omega
          have eb : (b : Int) - 1 + 1 = b := by omega
          have edig : lf % ((b : Int) - 1 + 1) = ((code / b ^ (many - 1 - k) % b : Nat) : Int) := by
            rw [eb, hlf, show many - (k + 1) = many - 1 - k by omega]
            rfl
          have eq : lf / ((b : Int) - 1 + 1) = ((code / b ^ (many - k) : Nat) : Int) := by
            rw [eb, hlf, show many - k = (many - (k + 1)) + 1 by omega, Nat.pow_succ, ← Nat.div_div_eq_div_mul]
            rfl
          refine am_go 60 [67] (by decide) ?_
          refine And.intro ⟨by omega, by omega⟩ (And.intro (fun h => ?_) (fun h => ?_))
          · exfalso
            have h : ix < 0 := h
            omega
          refine And.intro ⟨by omega, ⟨by omega, by omega⟩, by omega, ⟨by omega, by omega⟩⟩ ?_
          refine And.intro (show 0 ≤ ix ∧ ix < 3 from ⟨by omega, by omega⟩) ?_
          refine And.intro ⟨by omega, ⟨by omega, by omega⟩, by omega, ⟨by omega, by omega⟩⟩ ?_
          refine And.intro (show 0 ≤ ix ∧ ix < 3 from ⟨by omega, by omega⟩) ?_
          refine ih (lf / ((b : Int) - 1 + 1)) (sm + (am_set M2 0 55 ix.toNat (lf % ((b : Int) - 1 + 1))).1 0 55 ix.toNat) (ix + -1) (am_set M2 0 55 ix.toNat (lf % ((b : Int) - 1 + 1))) (by omega) eq ?_ (by omega) (hF2.s55 (Or.inl rfl)) ?_ (fun p s hp hs => ?_)
          · rw [set_eq, hdr, hsm, edig]
            show _ = ((code / b ^ (many - 1 - k) % b : Nat) : Int) + smL ((dgH b many code).drop (k + 1))
            omega
          · unfold rB
            rw [set_p (by decide)]
            rcases hR2 with z | ⟨f, w, r1, r2, r3, r4, r5, r6⟩
            · exact Or.inl z
            · exact Or.inr ⟨f, w, r1, r2, r3, r4, fun k s hk => by rw [set_p (by decide)]; exact r5 k s hk, r6⟩
          · rw [eix]
            by_cases qp : p = k
            · subst qp
              rw [set_eq, edig]
              rw [hat] at hs
              exact congrArg Int.ofNat (Option.some.inj hs)
            · rw [set_k qp]
              exact h55 p s (by omega) hs
      refine am_go 60 [67, 189] (by decide) ?_
      refine And.intro ⟨⟨by omega, by omega⟩, ⟨by omega, by omega⟩⟩ (And.intro (fun h => ?_) (fun h => ?_))
      · refine digs many _ _ _ M1 (Nat.le_refl _) ?_ ?_ rfl hF hR (fun p s hp hs => ?_)
        · rw [Nat.sub_self, Nat.pow_zero, Nat.div_one]
        · rw [List.drop_of_length_le (by rw [hrow]; exact Nat.le_refl _)]
          rfl
        · have := (List.getElem?_eq_some_iff.mp hs).1
          rw [hrow] at this
          omega
      · exfalso
        have h : ¬ (code : Int) < ((b ^ many : Nat) : Int) := h
        omega
  have pw : ∀ (k j : Nat) (acc : Int), j + k = many → acc = ((b ^ j : Nat) : Int) → am_At Γ (d + 6) n_M_tryAll 17 [some (.inr (.inr (0, 41))), some (.inl (i : Int)), some (.inl (many : Int)), some (.inl ((b : Int) - 1)), some (.inl acc), some (.inl (j : Int)), none, none, none, none, none] [] M (fun r M' => r = none ∧ bF M M' ∧ ∃ f w, bestO (rV M) n i b many f w ∧ M'.1 0 41 34 = 100 + w ∧ ∀ k (s : Nat), (dgH b many f)[k]? = some s → M'.1 0 56 k = s) := by
    intro k
    induction k with
    | zero =>
      intro j acc hj hacc
      have : j = many := by omega
      subst this
      subst hacc
      refine am_go 60 [48] (by decide) ?_
      refine And.intro ⟨⟨(by first | omega | (dsimp only [am_own]; omega)), (by first | omega | (dsimp only [am_own]; omega))⟩, ⟨(by first | omega | (dsimp only [am_own]; omega)), (by first | omega | (dsimp only [am_own]; omega))⟩⟩ (And.intro (fun h => ?_) (fun h => ?_))
      · exfalso; omega
      exact main (b ^ j) 0 0 none none none none (am_set M 0 41 34 (-1)) (by omega) bF.rf.s34 (Or.inl ⟨set_eq, rfl, fun x hx => absurd hx (Nat.not_lt_zero x)⟩)
    | succ k ih =>
      intro j acc hj hacc
      refine am_go 60 [17] (by decide) ?_
      refine And.intro ⟨⟨(by first | omega | (dsimp only [am_own]; omega)), (by first | omega | (dsimp only [am_own]; omega))⟩, ⟨(by first | omega | (dsimp only [am_own]; omega)), (by first | omega | (dsimp only [am_own]; omega))⟩⟩ (And.intro (fun h => ?_) (fun h => ?_))
      · refine ih (j + 1) (acc * ((b : Int) - 1 + 1)) (by omega) ?_
        rw [hacc, Nat.pow_succ, show (b : Int) - 1 + 1 = b by omega]
        push_cast
        rfl
      · exfalso; omega
  refine am_ev_of (by decide) (am_le rfl) (am_go 60 [17] (by decide) ?_)
  refine And.intro ⟨(by first | omega | (dsimp only [am_own]; omega)), (by first | omega | (dsimp only [am_own]; omega))⟩ ?_
  have go := pw many 0 1 (by omega) rfl
  rw [← ea] at go
  exact go
