/-! one's best seconds: the class's parts -/
def smL : List Nat → Int
  | [] => 0
  | s :: l => (s : Int) + smL l
theorem smL_app : ∀ p l : List Nat, smL (p ++ l) = smL p + smL l
  | [], l => (Int.zero_add _).symm
  | s :: p, l => by
    show (s : Int) + smL (p ++ l) = (s : Int) + smL p + smL l
    rw [smL_app p l]
    omega
theorem smL_nn : ∀ l : List Nat, 0 ≤ smL l
  | [] => Int.le_refl 0
  | s :: l => by
    have := smL_nn l
    show 0 ≤ (s : Int) + smL l
    omega
theorem smL_le {b : Nat} : ∀ l : List Nat, (∀ m, m ∈ l → m < b) → smL l ≤ b * l.length
  | [], _ => by
    show (0 : Int) ≤ b * ((0 : Nat) : Int)
    omega
  | s :: l, h => by
    have h1 := smL_le l (fun m hm => h m (List.mem_cons_of_mem _ hm))
    have h2 := h s (List.mem_cons_self ..)
    show (s : Int) + smL l ≤ b * ((l.length + 1 : Nat) : Int)
    push_cast
    rw [Int.mul_add, Int.mul_one]
    omega
theorem cdH_app (b : Nat) : ∀ p l : List Nat, cdH b (p ++ l) = cdH b p * b ^ l.length + cdH b l
  | [], l => by
    show cdH b l = 0 * _ + cdH b l
    rw [Nat.zero_mul, Nat.zero_add]
  | m :: p, l => by
    show m * b ^ (p ++ l).length + cdH b (p ++ l) = (m * b ^ p.length + cdH b p) * b ^ l.length + cdH b l
    rw [cdH_app b p l, List.length_append, Nat.pow_add, Nat.add_mul, Nat.mul_assoc]
    omega
theorem vwB_app {n i : Nat} : ∀ (p l : List Nat) (V : Vw), vwB n i (p ++ l) V = vwB n i l (vwB n i p V)
  | [], _, _ => rfl
  | s :: p, l, V => vwB_app p l (nxB n i V s)
def evX (V0 : Vw) (n i b many x : Nat) : Option Int := evB n i (dgH b many x) V0 0
def smX (b many x : Nat) : Int := smL (dgH b many x)
/-- a code below a row's beginning -/
theorem node_x {b many j k x : Nat} {pre : List Nat} (hb : 0 < b) (hpl : pre.length = j) (hpb : ∀ m, m ∈ pre → m < b) (hjk : j + k = many) (h1 : cdH b pre * b ^ k ≤ x) (h2 : x < (cdH b pre + 1) * b ^ k) : ∃ l : List Nat, l.length = k ∧ (∀ m, m ∈ l → m < b) ∧ x = cdH b pre * b ^ k + cdH b l ∧ dgH b many x = pre ++ l := by
  have hy : x - cdH b pre * b ^ k < b ^ k := by
    rw [Nat.add_mul, Nat.one_mul] at h2
    omega
  have hlb := dgH_b hb k _ hy
  have hlc := cdH_dgH b hb k _ hy
  refine ⟨dgH b k (x - cdH b pre * b ^ k), dgH_len b k _, hlb, by rw [hlc]; omega, ?_⟩
  have hall : ∀ m, m ∈ pre ++ dgH b k (x - cdH b pre * b ^ k) → m < b := fun m hm => by
    rcases List.mem_append.mp hm with h | h
    · exact hpb m h
    · exact hlb m h
  have e := dgH_cdH hb _ hall
  rw [cdH_app, List.length_append, dgH_len, hlc, hpl, hjk, show cdH b pre * b ^ k + (x - cdH b pre * b ^ k) = x by omega] at e
  exact e
/-- how far the class has sought -/
def bM (M : Am_M) (V0 : Vw) (n i b many c : Nat) : Prop := (M.1 0 34 12 = 0 ∧ ∀ x, x < c → evX V0 n i b many x = none) ∨ (M.1 0 34 12 = 1 ∧ ∃ f, f < c ∧ evX V0 n i b many f = some (M.1 0 34 6) ∧ smX b many f = M.1 0 34 7 ∧ (∀ k (s : Nat), (dgH b many f)[k]? = some s → M.1 0 38 k = s) ∧ ∀ x, x < c → ∀ w', evX V0 n i b many x = some w' → w' < M.1 0 34 6 ∨ (w' = M.1 0 34 6 ∧ (M.1 0 34 7 < smX b many x ∨ (M.1 0 34 7 = smX b many x ∧ f ≤ x))))
theorem bM.fr {M M' : Am_M} {V0 : Vw} {n i b many c : Nat} (h : bM M V0 n i b many c) (h34 : ∀ k, M'.1 0 34 k = M.1 0 34 k) (h38 : ∀ k, M'.1 0 38 k = M.1 0 38 k) : bM M' V0 n i b many c := by
  unfold bM
  rw [h34, h34, h34]
  rcases h with h | ⟨h1, f, h2, h3, h4, h5, h6⟩
  · exact Or.inl h
  · exact Or.inr ⟨h1, f, h2, h3, h4, fun k s hk => by rw [h38]; exact h5 k s hk, h6⟩
theorem bM.skip {M : Am_M} {V0 : Vw} {n i b many c c' : Nat} (h : bM M V0 n i b many c) (hc : c ≤ c') (hx : ∀ x, c ≤ x → x < c' → ∀ w', evX V0 n i b many x = some w' → M.1 0 34 12 = 1 ∧ (w' < M.1 0 34 6 ∨ (w' = M.1 0 34 6 ∧ M.1 0 34 7 ≤ smX b many x))) : bM M V0 n i b many c' := by
  rcases h with ⟨h1, h2⟩ | ⟨h1, f, h2, h3, h4, h5, h6⟩
  · refine Or.inl ⟨h1, fun x hxc => ?_⟩
    rcases Nat.lt_or_ge x c with q | q
    · exact h2 x q
    · cases he : evX V0 n i b many x with
      | none => rfl
      | some w' =>
        have := (hx x q hxc w' he).1
        omega
  · refine Or.inr ⟨h1, f, by omega, h3, h4, h5, fun x hxc w' he => ?_⟩
    rcases Nat.lt_or_ge x c with q | q
    · exact h6 x q w' he
    · rcases (hx x q hxc w' he).2 with z | ⟨z1, z2⟩
      · exact Or.inl z
      · exact Or.inr ⟨z1, by omega⟩
theorem bM_R {M : Am_M} {V0 : Vw} {n mt i b many c : Nat} (h : bM M V0 n i b many c) (hi : i < n) (hV : wfV V0 n mt) (hp : V0 0 3 + (many : Int) ≤ mt) (hm : many ≤ 3) (hb : 0 < b) (hb2 : b ≤ 100) (hc : c ≤ b ^ many) : M.1 0 34 12 = 0 ∨ (M.1 0 34 12 = 1 ∧ (-27 ≤ M.1 0 34 6 ∧ M.1 0 34 6 ≤ 27) ∧ (0 ≤ M.1 0 34 7 ∧ M.1 0 34 7 ≤ 300)) := by
  rcases h with ⟨h1, -⟩ | ⟨h1, f, h2, h3, h4, h5, h6⟩
  · exact Or.inl h1
  · right
    have q := evB_b (mt := mt) hi _ _ _ _ hV (by rw [dgH_len]; exact hp) h3
    rw [dgH_len] at q
    have q2 := smL_nn (dgH b many f)
    have q3 := smL_le _ (dgH_b hb many f (by omega))
    rw [dgH_len] at q3
    have q4 := mul_b (a := (b : Int)) (b := (many : Int)) (A := 100) (B := 3) (by omega) (by omega)
    unfold smX at h4
    exact ⟨h1, by omega, by omega⟩
def canB (M : Am_M) (w s : Int) : Prop := M.1 0 34 12 = 0 ∨ M.1 0 34 6 < w ∨ (w = M.1 0 34 6 ∧ s < M.1 0 34 7)
theorem c_canB {Γ : Am_G} {d : Nat} {M : Am_M} {w s : Int} (hw : am_R w) (hs : am_R s) (h : M.1 0 34 12 = 0 ∨ (M.1 0 34 12 = 1 ∧ (-27 ≤ M.1 0 34 6 ∧ M.1 0 34 6 ≤ 27) ∧ (0 ≤ M.1 0 34 7 ∧ M.1 0 34 7 ≤ 300))) : am_Ev Γ (d + 1) n_Foresight_canBeBetter [.inr (.inr (0, 34)), .inl w, .inl s] M (fun r M' => M' = M ∧ ((r = some (.inl 1) ∧ canB M w s) ∨ (r = some (.inl 0) ∧ ¬ canB M w s))) := by
  refine am_ev_of (by decide) (am_le rfl) (am_go 60 [] (by decide) ?_)
  refine And.intro (show am_R (M.1 0 34 12) from ⟨by omega, by omega⟩) (And.intro (fun h1 => ?_) (fun h1 => ?_))
  · exact ⟨Or.inr rfl, rfl, Or.inl ⟨rfl, Or.inl h1⟩⟩
  have h1 : ¬ M.1 0 34 12 = 0 := h1
  refine And.intro ⟨hw, (show am_R (M.1 0 34 6) from ⟨by omega, by omega⟩)⟩ (And.intro (fun h2 => ?_) (fun h2 => ?_))
  · exact ⟨Or.inr rfl, rfl, Or.inl ⟨rfl, Or.inr (Or.inl h2)⟩⟩
  have h2 : ¬ M.1 0 34 6 < w := h2
  refine And.intro ⟨hw, (show am_R (M.1 0 34 6) from ⟨by omega, by omega⟩)⟩ (And.intro (fun h3 => ?_) (fun h3 => ?_))
  · have h3 : w = M.1 0 34 6 := h3
    refine And.intro ⟨hs, (show am_R (M.1 0 34 7) from ⟨by omega, by omega⟩)⟩ (And.intro (fun h4 => ?_) (fun h4 => ?_))
    · exact ⟨Or.inr rfl, rfl, Or.inl ⟨rfl, Or.inr (Or.inr ⟨h3, h4⟩)⟩⟩
    · have h4 : ¬ s < M.1 0 34 7 := h4
      exact ⟨Or.inl rfl, rfl, Or.inr ⟨rfl, fun z => by unfold canB at z; omega⟩⟩
  · have h3 : ¬ w = M.1 0 34 6 := h3
    exact ⟨Or.inl rfl, rfl, Or.inr ⟨rfl, fun z => by unfold canB at z; omega⟩⟩
/-- cells that the search from depth j on may use -/
def gF (j e' p : Nat) : Prop := vS e' p ∨ ((4 + j ≤ e' ∨ (e' = 3 + j ∧ p = 8)) ∧ e' ≤ 8 ∧ p ≤ 10) ∨ (e' = 0 ∧ (p = 34 ∨ p = 37 ∨ p = 38))
theorem c_note {Γ : Am_G} {d : Nat} {M : Am_M} {w s : Int} (hw : am_R w) (hs : am_R s) (h : M.1 0 34 12 = 0 ∨ (M.1 0 34 12 = 1 ∧ (-27 ≤ M.1 0 34 6 ∧ M.1 0 34 6 ≤ 27) ∧ (0 ≤ M.1 0 34 7 ∧ M.1 0 34 7 ≤ 300))) : am_Ev Γ (d + 2) n_Foresight_noteIfBetter [.inr (.inr (0, 34)), .inl w, .inl s] M (fun r M' => r = none ∧ ((¬ canB M w s ∧ M' = M) ∨ (canB M w s ∧ am_same (fun e p => e = 0 ∧ (p = 34 ∨ p = 38)) M M' ∧ M'.1 0 34 12 = 1 ∧ M'.1 0 34 6 = w ∧ M'.1 0 34 7 = s ∧ ∀ k, k < 3 → M'.1 0 38 k = M.1 0 37 k))) := by
  refine am_ev_of (by decide) (am_le rfl) (am_go 60 [] (by decide) ?_)
  refine am_by (c_canB (d := d) hw hs h) (by omega) ?_
  rintro r M1 ⟨rfl, hr⟩
  rcases hr with ⟨rfl, hr⟩ | ⟨rfl, hr⟩
  · refine And.intro ⟨(by first | omega | (dsimp only [am_own]; omega)), (by first | omega | (dsimp only [am_own]; omega))⟩ (And.intro (fun h => absurd h (by decide)) (fun _ => ?_))
    refine And.intro (Or.inr rfl) ?_
    refine And.intro ⟨⟨(by first | omega | (dsimp only [am_own]; omega)), (by first | omega | (dsimp only [am_own]; omega)), (by first | omega | (dsimp only [am_own]; omega))⟩, ⟨by omega, by omega⟩, by omega, am_le rfl⟩ ?_
    refine ⟨rfl, Or.inr ⟨hr, (((am_same.rf.set ⟨rfl, Or.inl rfl⟩).set ⟨rfl, Or.inl rfl⟩).set ⟨rfl, Or.inl rfl⟩).cpy ⟨rfl, Or.inr rfl⟩, ?_, ?_, ?_, fun k hk => ?_⟩⟩
    · show (am_cpy (am_set (am_set (am_set M1 0 34 12 1) 0 34 6 w) 0 34 7 s) 0 37 0 38 3).1 0 34 12 = 1
      rw [cpy_p (by decide), set_k (by decide), set_k (by decide)]; exact set_eq
    · show (am_cpy (am_set (am_set (am_set M1 0 34 12 1) 0 34 6 w) 0 34 7 s) 0 37 0 38 3).1 0 34 6 = w
      rw [cpy_p (by decide), set_k (by decide)]; exact set_eq
    · show (am_cpy (am_set (am_set (am_set M1 0 34 12 1) 0 34 6 w) 0 34 7 s) 0 37 0 38 3).1 0 34 7 = s
      rw [cpy_p (by decide)]; exact set_eq
    · show (am_cpy (am_set (am_set (am_set M1 0 34 12 1) 0 34 6 w) 0 34 7 s) 0 37 0 38 3).1 0 38 k = _
      rw [cpy_in (by omega), set_p (by decide), set_p (by decide), set_p (by decide)]
  · refine And.intro ⟨(by first | omega | (dsimp only [am_own]; omega)), (by first | omega | (dsimp only [am_own]; omega))⟩ (And.intro (fun _ => ?_) (fun h => absurd rfl h))
    exact ⟨rfl, Or.inl ⟨hr, rfl⟩⟩
theorem c_hopeFor {Γ : Am_G} {d : Nat} {M : Am_M} {e n mt i k : Nat} (hV : wfV (cV M e) n mt) (hH : wfH M mt) (hi : i < n) (hp : M.1 e 0 7 + (k : Int) ≤ mt) : am_Ev Γ (d + 3) n_Foresight_hopeFor [.inr (.inr (0, 34)), .inr (.inr (e, 0)), .inl (i : Int), .inl (k : Int)] M (fun r M' => r = some (.inl (hopF (hgV (cV M e) i) k)) ∧ M' = M) := by
  have hb := hV.1
  have hp0 : 0 ≤ M.1 e 0 7 := hV.1.2.2.2.2.1
  have hmt : M.1 e 0 6 = mt := hV.1.2.2.1
  have loop : ∀ (c q : Nat) (en iv : Int), q + c = k → en = M.1 e 0 7 + (k : Int) → iv = M.1 e 0 7 + (q : Int) → am_At Γ (d + 3) n_Foresight_hopeFor 24 [some (.inr (.inr (0, 34))), some (.inr (.inr (e, 0))), some (.inl (i : Int)), some (.inl (k : Int)), some (.inl (hopF (hgV (cV M e) i) q)), some (.inl en), some (.inl iv)] [] M (fun r M' => r = some (.inl (hopF (hgV (cV M e) i) k)) ∧ M' = M) := by
    intro c
    induction c with
    | zero =>
      intro q en iv hq hen hiv
      have : q = k := by omega
      subst this
      refine am_go 60 [24] (by decide) ?_
      refine And.intro ⟨⟨by omega, by omega⟩, ⟨by omega, by omega⟩⟩ (And.intro (fun h => ?_) (fun h => ⟨rfl, rfl⟩))
      have h : iv < en := h
      exfalso; omega
    | succ c ih =>
      intro q en iv hq hen hiv
      have ho := (hV.2.2.2.1 ((M.1 e 0 7).toNat + q) (by omega)).2
      have ho : 0 ≤ M.1 e 6 ((M.1 e 0 7).toNat + q) ∧ M.1 e 6 ((M.1 e 0 7).toNat + q) < mt := ho
      have eo : M.1 e 6 iv.toNat = M.1 e 6 ((M.1 e 0 7).toNat + q) := congrArg _ (by omega)
      refine am_go 60 [24] (by decide) ?_
      refine And.intro ⟨⟨by omega, by omega⟩, ⟨by omega, by omega⟩⟩ (And.intro (fun h => ?_) (fun h => ?_))
      · refine And.intro (show 0 ≤ iv ∧ iv < 5 from ⟨by omega, by omega⟩) ?_
        have hc := c_worthTo (Γ := Γ) (d := d) (M := M) (i : Int) (M.1 e 6 ((M.1 e 0 7).toNat + q)) (by omega)
        rw [← eo] at hc
        refine am_by hc (by omega) ?_
        rintro r M1 ⟨rfl, rfl⟩
        have ew : M1.1 0 20 ((i : Int) * 5 + M1.1 e 6 iv.toNat).toNat = hgV (cV M1 e) i q := by
          rw [eo]
          show _ = M1.1 0 20 (i * 5 + (M1.1 e 6 ((M1.1 e 0 7).toNat + q)).toNat)
          exact congrArg (M1.1 0 20) (by omega)
        have hwb : -9 ≤ hgV (cV M1 e) i q ∧ hgV (cV M1 e) i q ≤ 9 := by
          rw [← ew]
          exact hH.2.1 _ (by rw [eo]; omega)
        refine And.intro ⟨⟨⟨(by first | omega | (dsimp only [am_own]; omega)), (by first | omega | (dsimp only [am_own]; omega))⟩, am_Re ew ⟨by omega, by omega⟩⟩, by omega, am_le rfl⟩ ?_
        have go := ih (q + 1) en (iv + 1) (by omega) hen (by push_cast; omega)
        have es : hopF (hgV (cV M1 e) i) (q + 1) = hopF (hgV (cV M1 e) i) q + (if 0 < M1.1 0 20 ((i : Int) * 5 + M1.1 e 6 iv.toNat).toNat then M1.1 0 20 ((i : Int) * 5 + M1.1 e 6 iv.toNat).toNat else 0) := by
          rw [ew]
          rfl
        rw [es] at go
        exact go
      · have h : ¬ iv < en := h
        exfalso; omega
  refine am_ev_of (by decide) (am_le rfl) (am_go 60 [24] (by decide) ?_)
  refine And.intro ⟨⟨(show am_R (M.1 e 0 7 + (k : Int)) from ⟨by omega, by omega⟩), (show am_R (M.1 e 0 6) from ⟨by omega, by omega⟩)⟩, by omega, am_le rfl⟩ ?_
  refine loop k 0 _ _ (by omega) ?_ (Int.add_zero _).symm
  show (if M.1 e 0 6 < M.1 e 0 7 + (k : Int) then M.1 e 0 6 else M.1 e 0 7 + (k : Int)) = M.1 e 0 7 + (k : Int)
  split <;> omega
/-- so many seconds are told of the next matter -/
def tellM (M : Am_M) (j i m : Nat) (s : Int) : Am_M := am_set (am_set M (3 + j) 8 (i * 5 + m) s) 0 37 j s
theorem tellM_same {M : Am_M} {j i m : Nat} {s : Int} : am_same (fun e p => (e = 3 + j ∧ p = 8) ∨ (e = 0 ∧ p = 37)) M (tellM M j i m s) := (am_same.rf.set (Or.inl ⟨rfl, rfl⟩)).set (Or.inr ⟨rfl, rfl⟩)
theorem tellM_37 {M : Am_M} {j i m : Nat} {s : Int} : (tellM M j i m s).1 0 37 j = s := set_eq
theorem tellM_37n {M : Am_M} {j i m q : Nat} {s : Int} (h : q ≠ j) : (tellM M j i m s).1 0 37 q = M.1 0 37 q := by
  unfold tellM
  rw [set_k h, set_p (by decide)]
theorem tellM_view {M : Am_M} {j i m : Nat} {s : Int} : cV (tellM M j i m s) (3 + j) = tS (cV M (3 + j)) i m s := by
  have g : ∀ e p k, p ≠ 8 → p ≠ 37 → (tellM M j i m s).1 e p k = M.1 e p k := fun e p k h1 h2 => by
    unfold tellM
    rw [set_p h2, set_p h1]
  funext c k
  by_cases hc : c = 9
  · subst hc
    show (tellM M j i m s).1 (3 + j) 8 k = tS (cV M (3 + j)) i m s 9 k
    unfold tellM
    rw [set_p (by decide)]
    by_cases q : k = i * 5 + m
    · rw [q, set_eq, tS_e]
    · rw [set_k q, tS_n _ _ _ _ _ q]
      rfl
  · rw [tS_o _ _ _ _ _ _ hc]
    match c, hc with
    | 0, _ =>
      match k with
      | 0 => exact g _ 1 4 (by decide) (by decide)
      | 1 => exact g _ 0 6 (by decide) (by decide)
      | 2 => exact g _ 18 4 (by decide) (by decide)
      | 3 => exact g _ 0 7 (by decide) (by decide)
      | k + 4 => rfl
    | 1, _ => exact g _ 2 k (by decide) (by decide)
    | 2, _ => exact g _ 3 k (by decide) (by decide)
    | 3, _ => exact g _ 4 k (by decide) (by decide)
    | 4, _ => exact g _ 5 k (by decide) (by decide)
    | 5, _ => exact g _ 19 k (by decide) (by decide)
    | 6, _ => exact g _ 20 k (by decide) (by decide)
    | 7, _ => exact g _ 6 k (by decide) (by decide)
    | 8, _ => exact g _ 7 k (by decide) (by decide)
    | 9, h => exact absurd rfl h
    | c + 10, _ => rfl
theorem tS_tS (V : Vw) (i m : Nat) (x s : Int) : tS (tS V i m x) i m s = tS V i m s := by
  funext c k
  unfold tS
  by_cases q : c = 9 ∧ k = i * 5 + m
  · rw [if_pos q, if_pos q]
  · rw [if_neg q, if_neg q, if_neg q]
theorem tS_self (V : Vw) (i m : Nat) : tS V i m (V 9 (i * 5 + m)) = V := by
  funext c k
  unfold tS
  by_cases q : c = 9 ∧ k = i * 5 + m
  · rw [if_pos q, q.1, q.2]
  · rw [if_neg q]
theorem nxB_tS (n i : Nat) (V : Vw) (x : Int) (s : Nat) : nxB n i (tS V i (mV V) x) s = nxB n i V s ∧ caB n i (tS V i (mV V) x) s = caB n i V s := by
  have em : mV (tS V i (mV V) x) = mV V := rfl
  unfold nxB caB
  rw [em, tS_tS]
  exact ⟨rfl, rfl⟩
theorem em_c {M : Am_M} {e n mt : Nat} (hV : wfV (cV M e) n mt) (hp : M.1 e 0 7 < mt) : M.1 e 6 (M.1 e 0 7).toNat = (mV (cV M e) : Int) := by
  have hp0 : 0 ≤ M.1 e 0 7 := hV.1.2.2.2.2.1
  have ho : 0 ≤ M.1 e 6 (M.1 e 0 7).toNat ∧ M.1 e 6 (M.1 e 0 7).toNat < mt := (hV.2.2.2.1 (M.1 e 0 7).toNat (by omega)).2
  show _ = ((M.1 e 6 (M.1 e 0 7).toNat).toNat : Int)
  omega
theorem c_tellNext {Γ : Am_G} {d : Nat} {M : Am_M} {j n mt i s : Nat} (hj : j ≤ 2) (hV : wfV (cV M (3 + j)) n mt) (hi : i < n) (hp : M.1 (3 + j) 0 7 < mt) : am_Ev Γ (d + 2) n_Foresight_tellNext [.inr (.inr (0, 34)), .inl (j : Int), .inl (i : Int), .inl (s : Int)] M (fun r M' => r = none ∧ M' = tellM M j i (mV (cV M (3 + j))) s) := by
  have hb := hV.1
  have hp0 : 0 ≤ M.1 (3 + j) 0 7 := hV.1.2.2.2.2.1
  have hml := mV_lt hV hp
  have em := em_c hV hp
  generalize mV (cV M (3 + j)) = m at *
  refine am_ev_of (by decide) (am_le rfl) (am_go 60 [] (by decide) ?_)
  refine And.intro ⟨(by first | omega | (dsimp only [am_own]; omega)), (by first | omega | (dsimp only [am_own]; omega))⟩ ?_
  refine And.intro (show 0 ≤ M.1 (3 + j) 0 7 ∧ M.1 (3 + j) 0 7 < 5 from ⟨by omega, by omega⟩) ?_
  have hpl := c_place (Γ := Γ) (d := d) (M := M) (i : Int) (m : Int)
  rw [← em] at hpl
  refine am_by hpl (by omega) ?_
  rintro r M1 ⟨rfl, rfl⟩
  have ek : ((i : Int) * 5 + M1.1 (3 + j) 6 (M1.1 (3 + j) 0 7).toNat) = ((i * 5 + m : Nat) : Int) := by rw [em]; push_cast; rfl
  refine And.intro (show 0 ≤ (i : Int) * 5 + M1.1 (3 + j) 6 (M1.1 (3 + j) 0 7).toNat ∧ (i : Int) * 5 + M1.1 (3 + j) 6 (M1.1 (3 + j) 0 7).toNat < 30 from ⟨by omega, by omega⟩) ?_
  refine And.intro (show 0 ≤ (j : Int) ∧ (j : Int) < 3 from ⟨by omega, by omega⟩) ?_
  refine ⟨rfl, ?_⟩
  show am_set (am_set M1 (3 + j) 8 ((i : Int) * 5 + M1.1 (3 + j) 6 (M1.1 (3 + j) 0 7).toNat).toNat (s : Int)) 0 37 j (s : Int) = _
  rw [ek]
  rfl
theorem tellM_wf {M : Am_M} {j n mt i : Nat} {s : Int} (hV : wfV (cV M (3 + j)) n mt) (hs : 0 ≤ s ∧ s ≤ 99) : wfV (cV (tellM M j i (mV (cV M (3 + j))) s) (3 + j)) n mt := by
  rw [tellM_view]
  exact tS_wf hV hs
theorem tellM_H {M : Am_M} {j mt i m : Nat} {s : Int} (hH : wfH M mt) : wfH (tellM M j i m s) mt := hH.same tellM_same (fun p a b => by omega)
/-- whether the next matter would be carried, so many seconds told -/
theorem c_isCarriedWith {Γ : Am_G} {d : Nat} {M : Am_M} {j n mt i s : Nat} (hj : j ≤ 2) (hV : wfV (cV M (3 + j)) n mt) (hH : wfH M mt) (hi : i < n) (hp : M.1 (3 + j) 0 7 < mt) (hs : (s : Int) ≤ 99) : am_Ev Γ (d + 5) n_Foresight_isCarriedWith [.inr (.inr (0, 34)), .inl (j : Int), .inl (i : Int), .inl (s : Int)] M (fun r M' => r = some (.inl (caB n i (cV M (3 + j)) s)) ∧ M' = tellM M j i (mV (cV M (3 + j))) s) := by
  refine am_ev_of (by decide) (am_le rfl) (am_go 60 [] (by decide) ?_)
  refine am_by (c_tellNext (d := d) hj hV hi hp) (by omega) ?_
  rintro r M1 ⟨rfl, hM1⟩
  have hv1 : cV M1 (3 + j) = tS (cV M (3 + j)) i (mV (cV M (3 + j))) s := by rw [hM1]; exact tellM_view
  have hw1 : wfV (cV M1 (3 + j)) n mt := by rw [hv1]; exact tS_wf hV (by omega)
  have hH1 : wfH M1 mt := by rw [hM1]; exact tellM_H hH
  have hp1 : M1.1 (3 + j) 0 7 < mt := by
    have : cV M1 (3 + j) 0 3 = cV M (3 + j) 0 3 := by rw [hv1]; rfl
    have : M1.1 (3 + j) 0 7 = M.1 (3 + j) 0 7 := this
    omega
  refine And.intro ⟨(by first | omega | (dsimp only [am_own]; omega)), (by first | omega | (dsimp only [am_own]; omega))⟩ ?_
  refine am_by (c_isCarriedNext (d := d) (e := 3 + j) hw1 hH1 hp1) (by omega) ?_
  rintro r M2 ⟨rfl, rfl⟩
  have ec : carV (cV M2 (3 + j)) n = caB n i (cV M (3 + j)) s := by rw [hv1]; rfl
  rw [ec]
  exact ⟨caB_01 n i _ s, rfl, hM1⟩
/-- the next matter is put, so many seconds told -/
theorem c_putWith {Γ : Am_G} {d : Nat} {M : Am_M} {j n mt i s : Nat} (hj : j ≤ 2) (hV : wfV (cV M (3 + j)) n mt) (hH : wfH M mt) (hi : i < n) (hp : M.1 (3 + j) 0 7 < mt) (hs : (s : Int) ≤ 99) : am_Ev Γ (d + 6) n_Foresight_putWith [.inr (.inr (0, 34)), .inl (j : Int), .inl (i : Int), .inl (s : Int)] M (fun r M' => r = some (.inl (caB n i (cV M (3 + j)) s)) ∧ am_same (fun e' p => vS e' p ∨ (e' = 4 + j ∧ p ≤ 10)) (tellM M j i (mV (cV M (3 + j))) s) M' ∧ M'.1 (4 + j) 0 7 = M.1 (3 + j) 0 7 + 1 ∧ veq n mt (cV M' (4 + j)) (nxB n i (cV M (3 + j)) s)) := by
  have hb := hV.1
  refine am_ev_of (by decide) (am_le rfl) (am_go 60 [7] (by decide) ?_)
  refine am_by (c_tellNext (d := d) hj hV hi hp) (by omega) ?_
  rintro r M1 ⟨rfl, hM1⟩
  rw [← hM1]
  have hv1 : cV M1 (3 + j) = tS (cV M (3 + j)) i (mV (cV M (3 + j))) s := by rw [hM1]; exact tellM_view
  have hw1 : wfV (cV M1 (3 + j)) n mt := by rw [hv1]; exact tS_wf hV (by omega)
  have hH1 : wfH M1 mt := by rw [hM1]; exact tellM_H hH
  have e71 : M1.1 (3 + j) 0 7 = M.1 (3 + j) 0 7 := by
    have : cV M1 (3 + j) 0 3 = cV M (3 + j) 0 3 := by rw [hv1]; rfl
    exact this
  have ej : 3 + ((j : Int) + 1).toNat = 4 + j := by omega
  refine am_go 60 [] (by decide) ?_
  refine And.intro ⟨(by first | omega | (dsimp only [am_own]; omega)), (by first | omega | (dsimp only [am_own]; omega))⟩ ?_
  refine And.intro ⟨(by first | omega | (dsimp only [am_own]; omega)), (by first | omega | (dsimp only [am_own]; omega))⟩ ?_
  have hcp := c_evCopy (Γ := Γ) (d := d) (M := M1) (e := 4 + j) (e2 := 3 + j) (by omega)
  rw [← ej] at hcp
  refine am_by hcp (by omega) ?_
  rintro r M2 ⟨rfl, hC⟩
  rw [ej] at hC
  have v1 := evC_view (n := n) (mt := mt) hC hb.2.1 hb.2.2.2.1 (by omega)
  have hw2 := veq_wf v1.symm hw1
  have hH2 : wfH M2 mt := evC_H hC hH1
  have e72 : M2.1 (4 + j) 0 7 = M.1 (3 + j) 0 7 := hC.2.1.2.1.trans e71
  refine And.intro ⟨(by first | omega | (dsimp only [am_own]; omega)), (by first | omega | (dsimp only [am_own]; omega))⟩ ?_
  have hrn := c_runV (Γ := Γ) (d := d) (M := M2) (e := 4 + j) hw2 hH2 (by omega)
  rw [← ej] at hrn
  refine am_by hrn (by omega) ?_
  rintro r M3 ⟨rfl, hO, hv3⟩
  rw [ej] at hO hv3 ⊢
  have hp2 : cV M2 (4 + j) 0 3 < mt := by show M2.1 (4 + j) 0 7 < mt; omega
  have ecar : carV (cV M2 (4 + j)) n = caB n i (cV M (3 + j)) s := by
    unfold caB
    rw [← hv1]
    exact carV_congr v1 hw2 hp2
  refine ⟨by rw [ecar], ?_, by rw [hO.2.2.2.2.2.1, e72], ?_⟩
  · refine (hC.1.wk (fun e p hp => Or.inr hp)).tr (hO.1.wk (fun e p hp => ?_))
    rcases hp with hp | hp
    · exact Or.inl hp
    · exact Or.inr ⟨hp.1, by omega⟩
  · refine hv3.tr ?_
    unfold nxB
    rw [← hv1]
    exact voteV_congr v1 hw2 hp2
