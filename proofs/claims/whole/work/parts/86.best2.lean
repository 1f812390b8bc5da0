/-! one's best seconds: the class's parts -/
def smL : List Nat → Int
  | [] => 0
  | s :: l => (s : Int) + smL l
theorem smL_app : ∀ p l : List Nat, smL (p ++ l) = smL p + smL l
  | [], l => (Int.zero_add _).symm
  | s :: p, l => by
    show (s : Int) + smL (p ++ l) = (s : Int) + smL p + smL l
    rw [smL_app p l]
    omega
theorem smL_nn : ∀ l : List Nat, 0 ≤ smL l
  | [] => Int.le_refl 0
  | s :: l => by
    have := smL_nn l
    show 0 ≤ (s : Int) + smL l
    omega
theorem smL_le {b : Nat} : ∀ l : List Nat, (∀ m, m ∈ l → m < b) → smL l ≤ b * l.length
  | [], _ => by
    show (0 : Int) ≤ b * ((0 : Nat) : Int)
    omega
  | s :: l, h => by
    have h1 := smL_le l (fun m hm => h m (List.mem_cons_of_mem _ hm))
    have h2 := h s (List.mem_cons_self ..)
    show (s : Int) + smL l ≤ b * ((l.length + 1 : Nat) : Int)
    push_cast
    rw [Int.mul_add, Int.mul_one]
    omega
theorem cdH_app (b : Nat) : ∀ p l : List Nat, cdH b (p ++ l) = cdH b p * b ^ l.length + cdH b l
  | [], l => by
    show cdH b l = 0 * _ + cdH b l
    rw [Nat.zero_mul, Nat.zero_add]
  | m :: p, l => by
    show m * b ^ (p ++ l).length + cdH b (p ++ l) = (m * b ^ p.length + cdH b p) * b ^ l.length + cdH b l
    rw [cdH_app b p l, List.length_append, Nat.pow_add, Nat.add_mul, Nat.mul_assoc]
    omega
theorem vwB_app {n i : Nat} : ∀ (p l : List Nat) (V : Vw), vwB n i (p ++ l) V = vwB n i l (vwB n i p V)
  | [], _, _ => rfl
  | s :: p, l, V => vwB_app p l (nxB n i V s)
def evX (V0 : Vw) (n i b many x : Nat) : Option Int := evB n i (dgH b many x) V0 0
def smX (b many x : Nat) : Int := smL (dgH b many x)
/-- a code below a row's beginning -/
theorem node_x {b many j k x : Nat} {pre : List Nat} (hb : 0 < b) (hpl : pre.length = j) (hpb : ∀ m, m ∈ pre → m < b) (hjk : j + k = many) (h1 : cdH b pre * b ^ k ≤ x) (h2 : x < (cdH b pre + 1) * b ^ k) : ∃ l : List Nat, l.length = k ∧ (∀ m, m ∈ l → m < b) ∧ x = cdH b pre * b ^ k + cdH b l ∧ dgH b many x = pre ++ l := by
  have hy : x - cdH b pre * b ^ k < b ^ k := by
    rw [Nat.add_mul, Nat.one_mul] at h2
    omega
  have hlb := dgH_b hb k _ hy
  have hlc := cdH_dgH b hb k _ hy
  refine ⟨dgH b k (x - cdH b pre * b ^ k), dgH_len b k _, hlb, by rw [hlc]; omega, ?_⟩
  have hall : ∀ m, m ∈ pre ++ dgH b k (x - cdH b pre * b ^ k) → m < b := fun m hm => by
    rcases List.mem_append.mp hm with h | h
    · exact hpb m h
    · exact hlb m h
  have e := dgH_cdH hb _ hall
  rw [cdH_app, List.length_append, dgH_len, hlc, hpl, hjk, show cdH b pre * b ^ k + (x - cdH b pre * b ^ k) = x by omega] at e
  exact e
/-- how far the class has sought -/
def bM (M : Am_M) (V0 : Vw) (n i b many c : Nat) : Prop := (M.1 0 34 12 = 0 ∧ ∀ x, x < c → evX V0 n i b many x = none) ∨ (M.1 0 34 12 = 1 ∧ ∃ f, f < c ∧ evX V0 n i b many f = some (M.1 0 34 6) ∧ smX b many f = M.1 0 34 7 ∧ (∀ k (s : Nat), (dgH b many f)[k]? = some s → M.1 0 38 k = s) ∧ ∀ x, x < c → ∀ w', evX V0 n i b many x = some w' → w' < M.1 0 34 6 ∨ (w' = M.1 0 34 6 ∧ (M.1 0 34 7 < smX b many x ∨ (M.1 0 34 7 = smX b many x ∧ f ≤ x))))
theorem bM.fr {M M' : Am_M} {V0 : Vw} {n i b many c : Nat} (h : bM M V0 n i b many c) (h34 : ∀ k, M'.1 0 34 k = M.1 0 34 k) (h38 : ∀ k, M'.1 0 38 k = M.1 0 38 k) : bM M' V0 n i b many c := by
  unfold bM
  rw [h34, h34, h34]
  rcases h with h | ⟨h1, f, h2, h3, h4, h5, h6⟩
  · exact Or.inl h
  · exact Or.inr ⟨h1, f, h2, h3, h4, fun k s hk => by rw [h38]; exact h5 k s hk, h6⟩
theorem bM.skip {M : Am_M} {V0 : Vw} {n i b many c c' : Nat} (h : bM M V0 n i b many c) (hc : c ≤ c') (hx : ∀ x, c ≤ x → x < c' → ∀ w', evX V0 n i b many x = some w' → M.1 0 34 12 = 1 ∧ (w' < M.1 0 34 6 ∨ (w' = M.1 0 34 6 ∧ M.1 0 34 7 ≤ smX b many x))) : bM M V0 n i b many c' := by
  rcases h with ⟨h1, h2⟩ | ⟨h1, f, h2, h3, h4, h5, h6⟩
  · refine Or.inl ⟨h1, fun x hxc => ?_⟩
    rcases Nat.lt_or_ge x c with q | q
    · exact h2 x q
    · cases he : evX V0 n i b many x with
      | none => rfl
      | some w' =>
        have := (hx x q hxc w' he).1
        omega
  · refine Or.inr ⟨h1, f, by omega, h3, h4, h5, fun x hxc w' he => ?_⟩
    rcases Nat.lt_or_ge x c with q | q
    · exact h6 x q w' he
    · rcases (hx x q hxc w' he).2 with z | ⟨z1, z2⟩
      · exact Or.inl z
      · exact Or.inr ⟨z1, by omega⟩
theorem bM_R {M : Am_M} {V0 : Vw} {n mt i b many c : Nat} (h : bM M V0 n i b many c) (hi : i < n) (hV : wfV V0 n mt) (hp : V0 0 3 + (many : Int) ≤ mt) (hm : many ≤ 3) (hb : 0 < b) (hb2 : b ≤ 100) (hc : c ≤ b ^ many) : M.1 0 34 12 = 0 ∨ (M.1 0 34 12 = 1 ∧ (-27 ≤ M.1 0 34 6 ∧ M.1 0 34 6 ≤ 27) ∧ (0 ≤ M.1 0 34 7 ∧ M.1 0 34 7 ≤ 300)) := by
  rcases h with ⟨h1, -⟩ | ⟨h1, f, h2, h3, h4, h5, h6⟩
  · exact Or.inl h1
  · right
    have q := evB_b (mt := mt) hi _ _ _ _ hV (by rw [dgH_len]; exact hp) h3
    rw [dgH_len] at q
    have q2 := smL_nn (dgH b many f)
    have q3 := smL_le _ (dgH_b hb many f (by omega))
    rw [dgH_len] at q3
    have q4 := mul_b (a := (b : Int)) (b := (many : Int)) (A := 100) (B := 3) (by omega) (by omega)
    unfold smX at h4
    exact ⟨h1, by omega, by omega⟩
def canB (M : Am_M) (w s : Int) : Prop := M.1 0 34 12 = 0 ∨ M.1 0 34 6 < w ∨ (w = M.1 0 34 6 ∧ s < M.1 0 34 7)
theorem c_canB {Γ : Am_G} {d : Nat} {M : Am_M} {w s : Int} (hw : am_R w) (hs : am_R s) (h : M.1 0 34 12 = 0 ∨ (M.1 0 34 12 = 1 ∧ (-27 ≤ M.1 0 34 6 ∧ M.1 0 34 6 ≤ 27) ∧ (0 ≤ M.1 0 34 7 ∧ M.1 0 34 7 ≤ 300))) : am_Ev Γ (d + 1) n_Foresight_canBeBetter [.inr (.inr (0, 34)), .inl w, .inl s] M (fun r M' => M' = M ∧ ((r = some (.inl 1) ∧ canB M w s) ∨ (r = some (.inl 0) ∧ ¬ canB M w s))) := by
  refine am_ev_of (by decide) (am_le rfl) (am_go 60 [] (by decide) ?_)
  refine And.intro (show am_R (M.1 0 34 12) from ⟨by omega, by omega⟩) (And.intro (fun h1 => ?_) (fun h1 => ?_))
  · exact ⟨Or.inr rfl, rfl, Or.inl ⟨rfl, Or.inl h1⟩⟩
  have h1 : ¬ M.1 0 34 12 = 0 := h1
  refine And.intro ⟨hw, (show am_R (M.1 0 34 6) from ⟨by omega, by omega⟩)⟩ (And.intro (fun h2 => ?_) (fun h2 => ?_))
  · exact ⟨Or.inr rfl, rfl, Or.inl ⟨rfl, Or.inr (Or.inl h2)⟩⟩
  have h2 : ¬ M.1 0 34 6 < w := h2
  refine And.intro ⟨hw, (show am_R (M.1 0 34 6) from ⟨by omega, by omega⟩)⟩ (And.intro (fun h3 => ?_) (fun h3 => ?_))
  · have h3 : w = M.1 0 34 6 := h3
    refine And.intro ⟨hs, (show am_R (M.1 0 34 7) from ⟨by omega, by omega⟩)⟩ (And.intro (fun h4 => ?_) (fun h4 => ?_))
    · exact ⟨Or.inr rfl, rfl, Or.inl ⟨rfl, Or.inr (Or.inr ⟨h3, h4⟩)⟩⟩
    · have h4 : ¬ s < M.1 0 34 7 := h4
      exact ⟨Or.inl rfl, rfl, Or.inr ⟨rfl, fun z => by unfold canB at z; omega⟩⟩
  · have h3 : ¬ w = M.1 0 34 6 := h3
    exact ⟨Or.inl rfl, rfl, Or.inr ⟨rfl, fun z => by unfold canB at z; omega⟩⟩
/-- cells that the search from depth j on may use -/
def gF (j e' p : Nat) : Prop := vS e' p ∨ (4 + j ≤ e' ∧ e' ≤ 8 ∧ p ≤ 10) ∨ (e' = 0 ∧ (p = 34 ∨ p = 37 ∨ p = 38))
theorem c_note {Γ : Am_G} {d : Nat} {M : Am_M} {w s : Int} (hw : am_R w) (hs : am_R s) (h : M.1 0 34 12 = 0 ∨ (M.1 0 34 12 = 1 ∧ (-27 ≤ M.1 0 34 6 ∧ M.1 0 34 6 ≤ 27) ∧ (0 ≤ M.1 0 34 7 ∧ M.1 0 34 7 ≤ 300))) : am_Ev Γ (d + 2) n_Foresight_noteIfBetter [.inr (.inr (0, 34)), .inl w, .inl s] M (fun r M' => r = none ∧ ((¬ canB M w s ∧ M' = M) ∨ (canB M w s ∧ am_same (fun e p => e = 0 ∧ (p = 34 ∨ p = 38)) M M' ∧ M'.1 0 34 12 = 1 ∧ M'.1 0 34 6 = w ∧ M'.1 0 34 7 = s ∧ ∀ k, k < 3 → M'.1 0 38 k = M.1 0 37 k))) := by
  refine am_ev_of (by decide) (am_le rfl) (am_go 60 [] (by decide) ?_)
  refine am_by (c_canB (d := d) hw hs h) (by omega) ?_
  rintro r M1 ⟨rfl, hr⟩
  rcases hr with ⟨rfl, hr⟩ | ⟨rfl, hr⟩
  · refine And.intro ⟨(by first | omega | (dsimp only [am_own]; omega)), (by first | omega | (dsimp only [am_own]; omega))⟩ (And.intro (fun h => absurd h (by decide)) (fun _ => ?_))
    refine And.intro (Or.inr rfl) ?_
    refine And.intro ⟨⟨(by first | omega | (dsimp only [am_own]; omega)), (by first | omega | (dsimp only [am_own]; omega)), (by first | omega | (dsimp only [am_own]; omega))⟩, ⟨by omega, by omega⟩, by omega, am_le rfl⟩ ?_
    refine ⟨rfl, Or.inr ⟨hr, (((am_same.rf.set ⟨rfl, Or.inl rfl⟩).set ⟨rfl, Or.inl rfl⟩).set ⟨rfl, Or.inl rfl⟩).cpy ⟨rfl, Or.inr rfl⟩, ?_, ?_, ?_, fun k hk => ?_⟩⟩
    · show (am_cpy (am_set (am_set (am_set M1 0 34 12 1) 0 34 6 w) 0 34 7 s) 0 37 0 38 3).1 0 34 12 = 1
      rw [cpy_p (by decide), set_k (by decide), set_k (by decide)]; exact set_eq
    · show (am_cpy (am_set (am_set (am_set M1 0 34 12 1) 0 34 6 w) 0 34 7 s) 0 37 0 38 3).1 0 34 6 = w
      rw [cpy_p (by decide), set_k (by decide)]; exact set_eq
    · show (am_cpy (am_set (am_set (am_set M1 0 34 12 1) 0 34 6 w) 0 34 7 s) 0 37 0 38 3).1 0 34 7 = s
      rw [cpy_p (by decide)]; exact set_eq
    · show (am_cpy (am_set (am_set (am_set M1 0 34 12 1) 0 34 6 w) 0 34 7 s) 0 37 0 38 3).1 0 38 k = _
      rw [cpy_in (by omega), set_p (by decide), set_p (by decide), set_p (by decide)]
  · refine And.intro ⟨(by first | omega | (dsimp only [am_own]; omega)), (by first | omega | (dsimp only [am_own]; omega))⟩ (And.intro (fun _ => ?_) (fun h => absurd rfl h))
    exact ⟨rfl, Or.inl ⟨hr, rfl⟩⟩
theorem c_hopeFor {Γ : Am_G} {d : Nat} {M : Am_M} {e n mt i k : Nat} (hV : wfV (cV M e) n mt) (hH : wfH M mt) (hi : i < n) (hp : M.1 e 0 7 + (k : Int) ≤ mt) : am_Ev Γ (d + 3) n_Foresight_hopeFor [.inr (.inr (0, 34)), .inr (.inr (e, 0)), .inl (i : Int), .inl (k : Int)] M (fun r M' => r = some (.inl (hopF (hgV (cV M e) i) k)) ∧ M' = M) := by
  have hb := hV.1
  have hp0 : 0 ≤ M.1 e 0 7 := hV.1.2.2.2.2.1
  have loop : ∀ (c q : Nat), q + c = k → am_At Γ (d + 3) n_Foresight_hopeFor 6 [some (.inr (.inr (0, 34))), some (.inr (.inr (e, 0))), some (.inl (i : Int)), some (.inl (k : Int)), some (.inl (hopF (hgV (cV M e) i) q)), some (.inl (q : Int))] [] M (fun r M' => r = some (.inl (hopF (hgV (cV M e) i) k)) ∧ M' = M) := by
    intro c
    induction c with
    | zero =>
      intro q hq
      have : q = k := by omega
      subst this
      refine am_go 60 [6] (by decide) ?_
      refine And.intro ⟨⟨(by first | omega | (dsimp only [am_own]; omega)), (by first | omega | (dsimp only [am_own]; omega))⟩, ⟨(by first | omega | (dsimp only [am_own]; omega)), (by first | omega | (dsimp only [am_own]; omega))⟩⟩ (And.intro (fun h => ?_) (fun h => ⟨rfl, rfl⟩))
      exfalso; omega
    | succ c ih =>
      intro q hq
      have ho := (hV.2.2.2.1 ((M.1 e 0 7).toNat + q) (by omega)).2
      have ho : 0 ≤ M.1 e 6 ((M.1 e 0 7).toNat + q) ∧ M.1 e 6 ((M.1 e 0 7).toNat + q) < mt := ho
      have eo : M.1 e 6 (M.1 e 0 7 + (q : Int)).toNat = M.1 e 6 ((M.1 e 0 7).toNat + q) := congrArg _ (by omega)
      refine am_go 60 [6] (by decide) ?_
      refine And.intro ⟨⟨(by first | omega | (dsimp only [am_own]; omega)), (by first | omega | (dsimp only [am_own]; omega))⟩, ⟨(by first | omega | (dsimp only [am_own]; omega)), (by first | omega | (dsimp only [am_own]; omega))⟩⟩ (And.intro (fun h => ?_) (fun h => ?_))
      · refine And.intro (show 0 ≤ M.1 e 0 7 + (q : Int) ∧ M.1 e 0 7 + (q : Int) < 5 from ⟨by omega, by omega⟩) ?_
        have hc := c_worthTo (Γ := Γ) (d := d) (M := M) (i : Int) (M.1 e 6 ((M.1 e 0 7).toNat + q)) (by omega)
        rw [← eo] at hc
        refine am_by hc (by omega) ?_
        rintro r M1 ⟨rfl, rfl⟩
        have ew : M1.1 0 20 ((i : Int) * 5 + M1.1 e 6 (M1.1 e 0 7 + (q : Int)).toNat).toNat = hgV (cV M1 e) i q := by
          rw [eo]
          show _ = M1.1 0 20 (i * 5 + (M1.1 e 6 ((M1.1 e 0 7).toNat + q)).toNat)
          exact congrArg (M1.1 0 20) (by omega)
        have hwb : -9 ≤ hgV (cV M1 e) i q ∧ hgV (cV M1 e) i q ≤ 9 := by
          rw [← ew]
          exact hH.2.1 _ (by rw [eo]; omega)
        refine And.intro ⟨⟨⟨(by first | omega | (dsimp only [am_own]; omega)), (by first | omega | (dsimp only [am_own]; omega))⟩, am_Re ew ⟨by omega, by omega⟩⟩, by omega, am_le rfl⟩ ?_
        have go := ih (q + 1) (by omega)
        have es : hopF (hgV (cV M1 e) i) (q + 1) = hopF (hgV (cV M1 e) i) q + (if 0 < M1.1 0 20 ((i : Int) * 5 + M1.1 e 6 (M1.1 e 0 7 + (q : Int)).toNat).toNat then M1.1 0 20 ((i : Int) * 5 + M1.1 e 6 (M1.1 e 0 7 + (q : Int)).toNat).toNat else 0) := by
          rw [ew]
          rfl
        rw [es] at go
        exact go
      · exfalso; omega
  refine am_ev_of (by decide) (am_le rfl) (am_go 60 [6] (by decide) ?_)
  exact loop k 0 (by omega)
/-- the next matter, with so many seconds told -/
theorem c_carriedWith {Γ : Am_G} {d : Nat} {M : Am_M} {j n mt i s : Nat} (hj : j ≤ 4) (hV : wfV (cV M (3 + j)) n mt) (hH : wfH M mt) (hi : i < n) (hp : M.1 (3 + j) 0 7 < mt) (hs : (s : Int) ≤ 99) : am_Ev Γ (d + 6) n_Foresight_carriedWith [.inr (.inr (0, 34)), .inl (j : Int), .inl (i : Int), .inl (s : Int)] M (fun r M' => r = some (.inl (caB n i (cV M (3 + j)) s)) ∧ am_same (fun e' p => vS e' p ∨ (e' = 4 + j ∧ p ≤ 10)) M M' ∧ M'.1 (4 + j) 0 7 = M.1 (3 + j) 0 7 + 1 ∧ veq n mt (cV M' (4 + j)) (nxB n i (cV M (3 + j)) s)) := by
  have hb := hV.1
  have hp0 : 0 ≤ M.1 (3 + j) 0 7 := hV.1.2.2.2.2.1
  have hml := mV_lt hV hp
  have ej : ((j : Int) + 1).toNat = j + 1 := by omega
  have ho := (hV.2.2.2.1 (M.1 (3 + j) 0 7).toNat (by omega)).2
  have em : M.1 (3 + j) 6 (M.1 (3 + j) 0 7).toNat = (mV (cV M (3 + j)) : Int) := by
    have ho : 0 ≤ M.1 (3 + j) 6 (M.1 (3 + j) 0 7).toNat ∧ M.1 (3 + j) 6 (M.1 (3 + j) 0 7).toNat < mt := ho
    show _ = ((M.1 (3 + j) 6 (M.1 (3 + j) 0 7).toNat).toNat : Int)
    omega
  generalize hm : mV (cV M (3 + j)) = m at *
  have st18 : am_At Γ (d + 6) n_Foresight_carriedWith 18 [some (.inr (.inr (0, 34))), some (.inl (j : Int)), some (.inl (i : Int)), some (.inl (s : Int)), some (.inr (.inr (3 + j, 0))), some (.inr (.inr (4 + j, 0)))] [] M (fun r M' => r = some (.inl (caB n i (cV M (3 + j)) s)) ∧ am_same (fun e' p => vS e' p ∨ (e' = 4 + j ∧ p ≤ 10)) M M' ∧ M'.1 (4 + j) 0 7 = M.1 (3 + j) 0 7 + 1 ∧ veq n mt (cV M' (4 + j)) (nxB n i (cV M (3 + j)) s)) := by
    refine am_go 60 [] (by decide) ?_
    refine am_by (c_evCopy (d := d) (e := 4 + j) (e2 := 3 + j) (by omega)) (by omega) ?_
    rintro r M1 ⟨rfl, hC⟩
    have g1 : ∀ p k, M1.1 (3 + j) p k = M.1 (3 + j) p k := fun p k => hC.1.2 (3 + j) p k (by omega)
    refine And.intro (show 0 ≤ M1.1 (3 + j) 0 7 ∧ M1.1 (3 + j) 0 7 < 5 from ⟨by rw [g1]; omega, by rw [g1]; omega⟩) ?_
    have em1 : M1.1 (3 + j) 6 (M1.1 (3 + j) 0 7).toNat = (m : Int) := by rw [g1, g1]; exact em
    have hpl := c_place (Γ := Γ) (d := d) (M := M1) (i : Int) (m : Int)
    rw [← em1] at hpl
    refine am_by hpl (by omega) ?_
    rintro r M1' ⟨rfl, rfl⟩
    rw [em1]
    refine And.intro ⟨(by first | omega | (dsimp only [am_own]; omega)), (by first | omega | (dsimp only [am_own]; omega))⟩ ?_
    have ek : ((i : Int) * 5 + (m : Int)).toNat = i * 5 + m := by omega
    rw [ek]
    have v1 := evC_view (n := n) (mt := mt) hC hb.2.1 hb.2.2.2.1 (by omega)
    have hv2 : veq n mt (cV (am_set M1' (4 + j) 8 (i * 5 + m) (s : Int)) (4 + j)) (tS (cV M (3 + j)) i m s) := by
      have g3 : ∀ p k, p ≠ 8 → (am_set M1' (4 + j) 8 (i * 5 + m) (s : Int)).1 (4 + j) p k = M1'.1 (4 + j) p k := fun p k hpp => set_p hpp
      have gh : ∀ p k, 18 ≤ p → (am_set M1' (4 + j) 8 (i * 5 + m) (s : Int)).1 0 p k = M1'.1 0 p k := fun p k hpp => set_p (by omega)
      obtain ⟨q1, q2, q3, q4⟩ := v1
      refine ⟨fun k hk => ?_, fun j2 hj2 => ?_, fun m2 hm2 => ?_, fun j2 m2 hj2 hm2 => ⟨?_, ?_⟩⟩
      · have := q1 k hk
        rcases (show k = 0 ∨ k = 1 ∨ k = 2 ∨ k = 3 by omega) with rfl | rfl | rfl | rfl
        · exact (g3 1 4 (by omega)).trans this
        · exact (g3 0 6 (by omega)).trans this
        · exact (gh 18 4 (by omega)).trans this
        · exact (g3 0 7 (by omega)).trans this
      · obtain ⟨a, b, c1, d4, e5⟩ := q2 j2 hj2
        exact ⟨(g3 2 j2 (by omega)).trans a, (g3 3 j2 (by omega)).trans b, (g3 4 j2 (by omega)).trans c1, (g3 5 j2 (by omega)).trans d4, (g3 7 j2 (by omega)).trans e5⟩
      · obtain ⟨a, b⟩ := q3 m2 hm2
        exact ⟨(gh 19 m2 (by omega)).trans a, (g3 6 m2 (by omega)).trans b⟩
      · exact (gh 20 _ (by omega)).trans (q4 j2 m2 hj2 hm2).1
      · show (am_set M1' (4 + j) 8 (i * 5 + m) (s : Int)).1 (4 + j) 8 (j2 * 5 + m2) = tS (cV M (3 + j)) i m s 9 (j2 * 5 + m2)
        by_cases q : j2 * 5 + m2 = i * 5 + m
        · rw [q, set_eq, tS_e]
        · rw [set_k q, tS_n _ _ _ _ _ q]
          exact (q4 j2 m2 hj2 hm2).2
    have hwT : wfV (tS (cV M (3 + j)) i m s) n mt := tS_wf hV (by omega)
    have hw2 := veq_wf hv2.symm hwT
    have hH2 : wfH (am_set M1' (4 + j) 8 (i * 5 + m) (s : Int)) mt := (evC_H hC hH).same (am_same.rf.set (P := fun _ p => p = 8) rfl) (fun p a b => by omega)
    have e7 : (am_set M1' (4 + j) 8 (i * 5 + m) (s : Int)).1 (4 + j) 0 7 = M.1 (3 + j) 0 7 := by rw [set_p (by decide)]; exact hC.2.1.2.1
    refine am_by (c_runV (d := d) (M := am_set M1' (4 + j) 8 (i * 5 + m) (s : Int)) (e := 4 + j) hw2 hH2 (by omega)) (by omega) ?_
    rintro r M3 ⟨rfl, hO, hv3⟩
    have ecar : carV (cV (am_set M1' (4 + j) 8 (i * 5 + m) (s : Int)) (4 + j)) n = caB n i (cV M (3 + j)) s := by
      unfold caB
      rw [hm]
      exact carV_congr hv2 hw2 (show (am_set M1' (4 + j) 8 (i * 5 + m) (s : Int)).1 (4 + j) 0 7 < mt by omega)
    refine ⟨by rw [ecar], ?_, by rw [hO.2.2.2.2.2.1, e7], ?_⟩
    · refine (((hC.1.wk (fun e p hp => Or.inr hp)).set (Or.inr ⟨rfl, by omega⟩))).tr (hO.1.wk (fun e p hp => ?_))
      rcases hp with hp | hp
      · exact Or.inl hp
      · exact Or.inr ⟨hp.1, by omega⟩
    · refine hv3.tr ?_
      unfold nxB
      rw [hm]
      exact voteV_congr hv2 hw2 (show (am_set M1' (4 + j) 8 (i * 5 + m) (s : Int)).1 (4 + j) 0 7 < mt by omega)
  refine am_ev_of (by decide) (am_le rfl) (am_go 60 [18] (by decide) ?_)
  refine And.intro ⟨(by first | omega | (dsimp only [am_own]; omega)), (by first | omega | (dsimp only [am_own]; omega))⟩ ?_
  refine And.intro ⟨(by first | omega | (dsimp only [am_own]; omega)), (by first | omega | (dsimp only [am_own]; omega))⟩ ?_
  rw [show 4 + j = 3 + ((j : Int) + 1).toNat by omega] at st18
  rw [show 4 + j = 3 + ((j : Int) + 1).toNat by omega]
  exact st18
