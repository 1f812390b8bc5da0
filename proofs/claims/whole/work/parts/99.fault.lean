/-! texts: fault; what a text that was read to its end says -/
theorem tskip_congr {t t' : Nat → Int} {n : Nat} (h : ∀ k, k < n → t k = t' k) : ∀ k p, p + k ≤ n → tskip t k p = tskip t' k p
  | 0, _, _ => rfl
  | k + 1, p, hp => by
    show (if t p = 32 then tskip t k (p + 1) else p) = (if t' p = 32 then tskip t' k (p + 1) else p)
    rw [h p (by omega), tskip_congr h k (p + 1) (by omega)]
theorem trun_congr {t t' : Nat → Int} {n : Nat} {c : Int} (h : ∀ k, k < n → t k = t' k) : ∀ k p, p + k ≤ n → trun t c k p = trun t' c k p
  | 0, _, _ => rfl
  | k + 1, p, hp => by
    show (if tsort (t p) = c then trun t c k (p + 1) else p) = (if tsort (t' p) = c then trun t' c k (p + 1) else p)
    rw [h p (by omega), trun_congr h k (p + 1) (by omega)]
theorem tkS_congr {t t' : Nat → Int} {n p : Nat} (h : ∀ k, k < n → t k = t' k) (hp : p ≤ n) : tkS t n p = tkS t' n p := tskip_congr h (n - p) p (by omega)
theorem tkE_congr {t t' : Nat → Int} {n s : Nat} (h : ∀ k, k < n → t k = t' k) : tkE t n s = tkE t' n s := by
  unfold tkE
  by_cases q : n ≤ s
  · rw [if_pos q, if_pos q]
  · rw [if_neg q, if_neg q, h s (by omega), trun_congr h (n - (s + 1)) (s + 1) (by omega)]
theorem wEq_congr {t t' : Nat → Int} {n : Nat} (h : ∀ k, k < n → t k = t' k) : ∀ (l : List Int) (s : Nat), s + l.length ≤ n → wEq t s l = wEq t' s l
  | [], _, _ => rfl
  | b :: l, s, hs => by
    rw [List.length_cons] at hs
    show (if t s = b then wEq t (s + 1) l else false) = (if t' s = b then wEq t' (s + 1) l else false)
    rw [h s (by omega), wEq_congr h l (s + 1) (by omega)]
theorem twd_congr {t t' : Nat → Int} {n s e : Nat} (h : ∀ k, k < n → t k = t' k) (he : e ≤ n) : twd t s e = twd t' s e := by
  have e1 : isW t s e = isW t' s e := by
    funext w
    unfold isW
    by_cases q : e = s + (wdL w).length
    · rw [if_pos q, if_pos q, wEq_congr h _ _ (by omega)]
    · rw [if_neg q, if_neg q]
  unfold twd
  rw [e1]
theorem tnv_congr {t t' : Nat → Int} {n s : Nat} (h : ∀ k, k < n → t k = t' k) : ∀ k, s + k ≤ n → tnv t s k = tnv t' s k
  | 0, _ => rfl
  | k + 1, hk => by
    show 10 * tnv t s k + t (s + k) - 48 = 10 * tnv t' s k + t' (s + k) - 48
    rw [h (s + k) (by omega), tnv_congr h k (by omega)]
theorem tnum_congr {t t' : Nat → Int} {n s : Nat} (h : ∀ k, k < n → t k = t' k) (hs : s ≤ n) : tnum t n s = tnum t' n s := by
  have he := tkE_b t' hs
  unfold tnum
  rw [tkE_congr h]
  by_cases q : s < n
  · rw [h s q, tnv_congr h _ (by omega)]
  · rw [if_neg (fun z => q z.1), if_neg (fun z => q z.1)]
theorem tnums_congr {t t' : Nat → Int} {n : Nat} {w pe ma : Int} (h : ∀ k, k < n → t k = t' k) : ∀ k i p, p ≤ n → tnums t n w pe ma k i p = tnums t' n w pe ma k i p
  | 0, _, _, _ => rfl
  | k + 1, i, p, hp => by
    have h1 := tkS_b t' hp
    have h2 := tkE_b t' h1.2
    unfold tnums
    rw [tkS_congr h hp, tnum_congr h h1.2, tkE_congr h, tnums_congr h k (i + 1) _ h2.2.1]
theorem tline_congr {t t' : Nat → Int} {n p : Nat} {pe ma : Int} (h : ∀ k, k < n → t k = t' k) (hp : p ≤ n) : tline t n pe ma p = tline t' n pe ma p := by
  have h1 := tkS_b t' hp
  have h2 := tkE_b t' h1.2
  unfold tline
  rw [tkS_congr h hp, tkE_congr h, twd_congr h h2.2.1, tnums_congr h _ 0 _ h2.2.1]
theorem tread_congr {t t' : Nat → Int} {n : Nat} (h : ∀ k, k < n → t k = t' k) : ∀ k pe ma p, p ≤ n → tread t n k pe ma p = tread t' n k pe ma p
  | 0, _, _, _, _ => rfl
  | k + 1, pe, ma, p, hp => by
    have hb := tline_b t' (pe := pe) (ma := ma) hp
    unfold tread
    rw [tline_congr h hp]
    cases ho : tline t' n pe ma p with
    | inl f => rfl
    | inr q =>
      have h1 := tkS_b t' (hb.2 q ho).1
      dsimp only
      rw [tkS_congr h (hb.2 q ho).1]
      by_cases q1 : tkS t' n q.1 = n
      · rw [if_pos q1, if_pos q1]
      · rw [if_neg q1, if_neg q1, h (tkS t' n q.1) (by omega), tread_congr h k _ _ (tkS t' n q.1 + 1) (by omega)]
theorem P_fault {Γ : Am_G} {M : Am_M} (h : Rel M) : Pair Γ 24 n_R_fault n_M_fault [] M := by
  obtain ⟨n, mt, hR⟩ := id h
  obtain ⟨b1, b2, -⟩ := id hR.1
  obtain ⟨t1, t2⟩ := id hR.2.2.2.2.1
  obtain ⟨L, hL⟩ : ∃ L : Nat, M.1 0 14 1 = L := ⟨(M.1 0 14 1).toNat, by omega⟩
  have hW : tW M L := ⟨hL, by omega, fun k hk => (t2 k (by omega)).2⟩
  have hc := c_read (Γ := Γ) (d := 10) (n := L) (pe := M.1 9 1 4) (ma := M.1 0 18 3) (M := M) (by omega) (by omega) hW
  refine am_ev_of (by decide) (am_le rfl) (am_go 60 [] (by decide) ?_)
  refine am_by hc (by omega) ?_
  rintro r M1 ⟨rfl, hX, -, -⟩
  refine ⟨_, rfl, ?_⟩
  have hR1 : RelN M1 n mt := hR.fr (fun e p k hr => hX e p k (by unfold relv at hr; unfold rdS; omega))
  have e45 : M1.1 0 45 = M.1 0 45 := by
    funext k
    exact hX 0 45 k (by unfold rdS; omega)
  have et : tread (M.1 0 15) L 12 (M.1 9 1 4) (M.1 0 18 3) 0 = tread (M1.1 0 45) L 12 (M1.1 0 41 0) (M1.1 0 41 2) 0 := by
    rw [e45, hX 0 41 0 (by unfold rdS; omega), hX 0 41 2 (by unfold rdS; omega), show M.1 0 41 0 = M.1 9 1 4 by omega, show M.1 0 41 2 = M.1 0 18 3 by omega]
    exact tread_congr (fun k hk => (t2 k (by omega)).1) 12 _ _ 0 (Nat.zero_le L)
  obtain ⟨u1, u2⟩ := hR1.2.2.2.2.1
  obtain ⟨v1, v2, -⟩ := hR1.1
  have hW1 : mW M1 L := ⟨by rw [hX 0 41 6 (by unfold rdS; omega)]; omega, by omega, fun k hk => by
    have := u2 k (by rw [hX 0 14 1 (by unfold rdS; omega)]; omega)
    omega⟩
  refine am_ev_of (by decide) (am_le rfl) (am_go 60 [] (by decide) ?_)
  refine am_by (c_M_isRead (d := 10) (n := L) (pe := M1.1 0 41 0) (ma := M1.1 0 41 2) (by omega) (by omega) rfl rfl hW1) (by omega) ?_
  rintro r M2 ⟨rfl, hX2, g1, -, -⟩
  rw [et]
  have hR2 : Rel M2 := ⟨n, mt, hR1.fr (fun e p k hr => hX2 e p k (by unfold relv at hr; unfold rmS; omega))⟩
  generalize tread (M1.1 0 45) L 12 (M1.1 0 41 0) (M1.1 0 41 2) 0 = o at *
  by_cases q : o.1 = -1
  · rw [if_pos q]
    refine And.intro ⟨(by first | omega | (dsimp only [am_own]; omega)), (by first | omega | (dsimp only [am_own]; omega))⟩ (And.intro (fun h => absurd h (by decide)) (fun _ => ?_))
    exact ⟨by rw [q], hR2⟩
  · rw [if_neg q]
    refine And.intro ⟨(by first | omega | (dsimp only [am_own]; omega)), (by first | omega | (dsimp only [am_own]; omega))⟩ (And.intro (fun _ => ?_) (fun h => absurd rfl h))
    exact ⟨congrArg (fun z => some (Sum.inl z)) (g1 q), hR2⟩
