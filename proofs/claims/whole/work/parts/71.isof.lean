/-! voters: what they are -/
def isK (k : Nat) (c : Int) : Int := if c = 0 then 1 else if c = 1 then (if k < 2 then 1 else 0) else if c = 2 then (if k = 1 then 1 else 0) else if c = 3 then (if k = 2 then 1 else 0) else if c = 4 then (if k = 3 then 1 else 0) else 0
theorem am_inst00 {Γ : Am_G} {d : Nat} {K : Option Am_V → Am_M → Prop} {ls : Am_L} {st : List Am_V} {M : Am_M} (kk : am_At Γ d n_Voter_isOf 42 ls (.inl 1 :: st) M K) : am_At Γ d n_Voter_isOf 39 ls (.inr (.inr (0, 26)) :: st) M K :=
  am_s_inst (r := (39, .instanceof 7, 3, 4, 0, 0)) (q := (0, 26)) (ci := 4) (C := "RaisedArms$Plain") (nm := "RaisedArms$Plain") (y := 1) (am_rowat 5 rfl) rfl rfl rfl (am_in 630 (by decide +kernel) (by decide +kernel)) (Or.inl ⟨rfl, Or.inl rfl⟩) kk
theorem am_inst01 {Γ : Am_G} {d : Nat} {K : Option Am_V → Am_M → Prop} {ls : Am_L} {st : List Am_V} {M : Am_M} (kk : am_At Γ d n_Voter_isOf 47 ls (.inl 0 :: st) M K) : am_At Γ d n_Voter_isOf 44 ls (.inr (.inr (0, 26)) :: st) M K :=
  am_s_inst (r := (44, .instanceof 9, 3, 9, 0, 0)) (q := (0, 26)) (ci := 4) (C := "RaisedArms$Plain") (nm := "RaisedArms$Watch") (y := 0) (am_rowat 8 rfl) rfl rfl rfl (am_in 631 (by decide +kernel) (by decide +kernel)) (Or.inr ⟨rfl, by decide +kernel⟩) kk
theorem am_inst02 {Γ : Am_G} {d : Nat} {K : Option Am_V → Am_M → Prop} {ls : Am_L} {st : List Am_V} {M : Am_M} (kk : am_At Γ d n_Voter_isOf 52 ls (.inl 0 :: st) M K) : am_At Γ d n_Voter_isOf 49 ls (.inr (.inr (0, 26)) :: st) M K :=
  am_s_inst (r := (49, .instanceof 11, 3, 5, 0, 0)) (q := (0, 26)) (ci := 4) (C := "RaisedArms$Plain") (nm := "RaisedArms$Stout") (y := 0) (am_rowat 11 rfl) rfl rfl rfl (am_in 632 (by decide +kernel) (by decide +kernel)) (Or.inr ⟨rfl, by decide +kernel⟩) kk
theorem am_inst03 {Γ : Am_G} {d : Nat} {K : Option Am_V → Am_M → Prop} {ls : Am_L} {st : List Am_V} {M : Am_M} (kk : am_At Γ d n_Voter_isOf 57 ls (.inl 0 :: st) M K) : am_At Γ d n_Voter_isOf 54 ls (.inr (.inr (0, 26)) :: st) M K :=
  am_s_inst (r := (54, .instanceof 13, 3, 7, 0, 0)) (q := (0, 26)) (ci := 4) (C := "RaisedArms$Plain") (nm := "RaisedArms$Told") (y := 0) (am_rowat 14 rfl) rfl rfl rfl (am_in 633 (by decide +kernel) (by decide +kernel)) (Or.inr ⟨rfl, by decide +kernel⟩) kk
theorem am_inst10 {Γ : Am_G} {d : Nat} {K : Option Am_V → Am_M → Prop} {ls : Am_L} {st : List Am_V} {M : Am_M} (kk : am_At Γ d n_Voter_isOf 42 ls (.inl 1 :: st) M K) : am_At Γ d n_Voter_isOf 39 ls (.inr (.inr (0, 27)) :: st) M K :=
  am_s_inst (r := (39, .instanceof 7, 3, 4, 0, 0)) (q := (0, 27)) (ci := 9) (C := "RaisedArms$Watch") (nm := "RaisedArms$Plain") (y := 1) (am_rowat 5 rfl) rfl rfl rfl (am_in 630 (by decide +kernel) (by decide +kernel)) (Or.inl ⟨rfl, Or.inr (by decide +kernel)⟩) kk
theorem am_inst11 {Γ : Am_G} {d : Nat} {K : Option Am_V → Am_M → Prop} {ls : Am_L} {st : List Am_V} {M : Am_M} (kk : am_At Γ d n_Voter_isOf 47 ls (.inl 1 :: st) M K) : am_At Γ d n_Voter_isOf 44 ls (.inr (.inr (0, 27)) :: st) M K :=
  am_s_inst (r := (44, .instanceof 9, 3, 9, 0, 0)) (q := (0, 27)) (ci := 9) (C := "RaisedArms$Watch") (nm := "RaisedArms$Watch") (y := 1) (am_rowat 8 rfl) rfl rfl rfl (am_in 631 (by decide +kernel) (by decide +kernel)) (Or.inl ⟨rfl, Or.inl rfl⟩) kk
theorem am_inst12 {Γ : Am_G} {d : Nat} {K : Option Am_V → Am_M → Prop} {ls : Am_L} {st : List Am_V} {M : Am_M} (kk : am_At Γ d n_Voter_isOf 52 ls (.inl 0 :: st) M K) : am_At Γ d n_Voter_isOf 49 ls (.inr (.inr (0, 27)) :: st) M K :=
  am_s_inst (r := (49, .instanceof 11, 3, 5, 0, 0)) (q := (0, 27)) (ci := 9) (C := "RaisedArms$Watch") (nm := "RaisedArms$Stout") (y := 0) (am_rowat 11 rfl) rfl rfl rfl (am_in 632 (by decide +kernel) (by decide +kernel)) (Or.inr ⟨rfl, by decide +kernel⟩) kk
theorem am_inst13 {Γ : Am_G} {d : Nat} {K : Option Am_V → Am_M → Prop} {ls : Am_L} {st : List Am_V} {M : Am_M} (kk : am_At Γ d n_Voter_isOf 57 ls (.inl 0 :: st) M K) : am_At Γ d n_Voter_isOf 54 ls (.inr (.inr (0, 27)) :: st) M K :=
  am_s_inst (r := (54, .instanceof 13, 3, 7, 0, 0)) (q := (0, 27)) (ci := 9) (C := "RaisedArms$Watch") (nm := "RaisedArms$Told") (y := 0) (am_rowat 14 rfl) rfl rfl rfl (am_in 633 (by decide +kernel) (by decide +kernel)) (Or.inr ⟨rfl, by decide +kernel⟩) kk
theorem am_inst20 {Γ : Am_G} {d : Nat} {K : Option Am_V → Am_M → Prop} {ls : Am_L} {st : List Am_V} {M : Am_M} (kk : am_At Γ d n_Voter_isOf 42 ls (.inl 0 :: st) M K) : am_At Γ d n_Voter_isOf 39 ls (.inr (.inr (0, 28)) :: st) M K :=
  am_s_inst (r := (39, .instanceof 7, 3, 4, 0, 0)) (q := (0, 28)) (ci := 5) (C := "RaisedArms$Stout") (nm := "RaisedArms$Plain") (y := 0) (am_rowat 5 rfl) rfl rfl rfl (am_in 630 (by decide +kernel) (by decide +kernel)) (Or.inr ⟨rfl, by decide +kernel⟩) kk
theorem am_inst21 {Γ : Am_G} {d : Nat} {K : Option Am_V → Am_M → Prop} {ls : Am_L} {st : List Am_V} {M : Am_M} (kk : am_At Γ d n_Voter_isOf 47 ls (.inl 0 :: st) M K) : am_At Γ d n_Voter_isOf 44 ls (.inr (.inr (0, 28)) :: st) M K :=
  am_s_inst (r := (44, .instanceof 9, 3, 9, 0, 0)) (q := (0, 28)) (ci := 5) (C := "RaisedArms$Stout") (nm := "RaisedArms$Watch") (y := 0) (am_rowat 8 rfl) rfl rfl rfl (am_in 631 (by decide +kernel) (by decide +kernel)) (Or.inr ⟨rfl, by decide +kernel⟩) kk
theorem am_inst22 {Γ : Am_G} {d : Nat} {K : Option Am_V → Am_M → Prop} {ls : Am_L} {st : List Am_V} {M : Am_M} (kk : am_At Γ d n_Voter_isOf 52 ls (.inl 1 :: st) M K) : am_At Γ d n_Voter_isOf 49 ls (.inr (.inr (0, 28)) :: st) M K :=
  am_s_inst (r := (49, .instanceof 11, 3, 5, 0, 0)) (q := (0, 28)) (ci := 5) (C := "RaisedArms$Stout") (nm := "RaisedArms$Stout") (y := 1) (am_rowat 11 rfl) rfl rfl rfl (am_in 632 (by decide +kernel) (by decide +kernel)) (Or.inl ⟨rfl, Or.inl rfl⟩) kk
theorem am_inst23 {Γ : Am_G} {d : Nat} {K : Option Am_V → Am_M → Prop} {ls : Am_L} {st : List Am_V} {M : Am_M} (kk : am_At Γ d n_Voter_isOf 57 ls (.inl 0 :: st) M K) : am_At Γ d n_Voter_isOf 54 ls (.inr (.inr (0, 28)) :: st) M K :=
  am_s_inst (r := (54, .instanceof 13, 3, 7, 0, 0)) (q := (0, 28)) (ci := 5) (C := "RaisedArms$Stout") (nm := "RaisedArms$Told") (y := 0) (am_rowat 14 rfl) rfl rfl rfl (am_in 633 (by decide +kernel) (by decide +kernel)) (Or.inr ⟨rfl, by decide +kernel⟩) kk
theorem am_inst30 {Γ : Am_G} {d : Nat} {K : Option Am_V → Am_M → Prop} {ls : Am_L} {st : List Am_V} {M : Am_M} (kk : am_At Γ d n_Voter_isOf 42 ls (.inl 0 :: st) M K) : am_At Γ d n_Voter_isOf 39 ls (.inr (.inr (0, 29)) :: st) M K :=
  am_s_inst (r := (39, .instanceof 7, 3, 4, 0, 0)) (q := (0, 29)) (ci := 7) (C := "RaisedArms$Told") (nm := "RaisedArms$Plain") (y := 0) (am_rowat 5 rfl) rfl rfl rfl (am_in 630 (by decide +kernel) (by decide +kernel)) (Or.inr ⟨rfl, by decide +kernel⟩) kk
theorem am_inst31 {Γ : Am_G} {d : Nat} {K : Option Am_V → Am_M → Prop} {ls : Am_L} {st : List Am_V} {M : Am_M} (kk : am_At Γ d n_Voter_isOf 47 ls (.inl 0 :: st) M K) : am_At Γ d n_Voter_isOf 44 ls (.inr (.inr (0, 29)) :: st) M K :=
  am_s_inst (r := (44, .instanceof 9, 3, 9, 0, 0)) (q := (0, 29)) (ci := 7) (C := "RaisedArms$Told") (nm := "RaisedArms$Watch") (y := 0) (am_rowat 8 rfl) rfl rfl rfl (am_in 631 (by decide +kernel) (by decide +kernel)) (Or.inr ⟨rfl, by decide +kernel⟩) kk
theorem am_inst32 {Γ : Am_G} {d : Nat} {K : Option Am_V → Am_M → Prop} {ls : Am_L} {st : List Am_V} {M : Am_M} (kk : am_At Γ d n_Voter_isOf 52 ls (.inl 0 :: st) M K) : am_At Γ d n_Voter_isOf 49 ls (.inr (.inr (0, 29)) :: st) M K :=
  am_s_inst (r := (49, .instanceof 11, 3, 5, 0, 0)) (q := (0, 29)) (ci := 7) (C := "RaisedArms$Told") (nm := "RaisedArms$Stout") (y := 0) (am_rowat 11 rfl) rfl rfl rfl (am_in 632 (by decide +kernel) (by decide +kernel)) (Or.inr ⟨rfl, by decide +kernel⟩) kk
theorem am_inst33 {Γ : Am_G} {d : Nat} {K : Option Am_V → Am_M → Prop} {ls : Am_L} {st : List Am_V} {M : Am_M} (kk : am_At Γ d n_Voter_isOf 57 ls (.inl 1 :: st) M K) : am_At Γ d n_Voter_isOf 54 ls (.inr (.inr (0, 29)) :: st) M K :=
  am_s_inst (r := (54, .instanceof 13, 3, 7, 0, 0)) (q := (0, 29)) (ci := 7) (C := "RaisedArms$Told") (nm := "RaisedArms$Told") (y := 1) (am_rowat 14 rfl) rfl rfl rfl (am_in 633 (by decide +kernel) (by decide +kernel)) (Or.inl ⟨rfl, Or.inl rfl⟩) kk
theorem c_isOf0 {Γ : Am_G} {d : Nat} {M : Am_M} {c : Int} (hc : am_R c) : am_Ev Γ (d + 1) n_Voter_isOf [.inr (.inr (0, 26)), .inl c] M (fun r M' => r = some (.inl (isK 0 c)) ∧ M' = M) := by
  refine am_ev_of (by decide) (am_le rfl) (am_go 20 [39, 44, 49, 54] (by decide) ?_)
  refine And.intro ⟨hc, rfl⟩ (And.intro (fun hz => ?_) (And.intro (fun hz => ?_) (And.intro (fun hz => ?_) (And.intro (fun hz => ?_) (And.intro (fun hz => ?_) (And.intro (fun hz => ?_) trivial))))))
  · have e : isK 0 c = 0 := by unfold isK; rw [if_neg (by omega), if_neg (by omega), if_neg (by omega), if_neg (by omega), if_neg (by omega)]
    rw [e]
    exact ⟨Or.inl rfl, rfl, rfl⟩
  · have hz : c = 0 := hz
    subst hz
    exact ⟨Or.inr rfl, rfl, rfl⟩
  · have hz : c = 1 := hz
    subst hz
    refine am_inst00 ?_
    refine am_go 20 [] (by decide) ?_
    exact ⟨Or.inr rfl, rfl, rfl⟩
  · have hz : c = 2 := hz
    subst hz
    refine am_inst01 ?_
    refine am_go 20 [] (by decide) ?_
    exact ⟨Or.inl rfl, rfl, rfl⟩
  · have hz : c = 3 := hz
    subst hz
    refine am_inst02 ?_
    refine am_go 20 [] (by decide) ?_
    exact ⟨Or.inl rfl, rfl, rfl⟩
  · have hz : c = 4 := hz
    subst hz
    refine am_inst03 ?_
    refine am_go 20 [] (by decide) ?_
    exact ⟨Or.inl rfl, rfl, rfl⟩
theorem c_isOf1 {Γ : Am_G} {d : Nat} {M : Am_M} {c : Int} (hc : am_R c) : am_Ev Γ (d + 1) n_Voter_isOf [.inr (.inr (0, 27)), .inl c] M (fun r M' => r = some (.inl (isK 1 c)) ∧ M' = M) := by
  refine am_ev_of (by decide) (am_le rfl) (am_go 20 [39, 44, 49, 54] (by decide) ?_)
  refine And.intro ⟨hc, rfl⟩ (And.intro (fun hz => ?_) (And.intro (fun hz => ?_) (And.intro (fun hz => ?_) (And.intro (fun hz => ?_) (And.intro (fun hz => ?_) (And.intro (fun hz => ?_) trivial))))))
  · have e : isK 1 c = 0 := by unfold isK; rw [if_neg (by omega), if_neg (by omega), if_neg (by omega), if_neg (by omega), if_neg (by omega)]
    rw [e]
    exact ⟨Or.inl rfl, rfl, rfl⟩
  · have hz : c = 0 := hz
    subst hz
    exact ⟨Or.inr rfl, rfl, rfl⟩
  · have hz : c = 1 := hz
    subst hz
    refine am_inst10 ?_
    refine am_go 20 [] (by decide) ?_
    exact ⟨Or.inr rfl, rfl, rfl⟩
  · have hz : c = 2 := hz
    subst hz
    refine am_inst11 ?_
    refine am_go 20 [] (by decide) ?_
    exact ⟨Or.inr rfl, rfl, rfl⟩
  · have hz : c = 3 := hz
    subst hz
    refine am_inst12 ?_
    refine am_go 20 [] (by decide) ?_
    exact ⟨Or.inl rfl, rfl, rfl⟩
  · have hz : c = 4 := hz
    subst hz
    refine am_inst13 ?_
    refine am_go 20 [] (by decide) ?_
    exact ⟨Or.inl rfl, rfl, rfl⟩
theorem c_isOf2 {Γ : Am_G} {d : Nat} {M : Am_M} {c : Int} (hc : am_R c) : am_Ev Γ (d + 1) n_Voter_isOf [.inr (.inr (0, 28)), .inl c] M (fun r M' => r = some (.inl (isK 2 c)) ∧ M' = M) := by
  refine am_ev_of (by decide) (am_le rfl) (am_go 20 [39, 44, 49, 54] (by decide) ?_)
  refine And.intro ⟨hc, rfl⟩ (And.intro (fun hz => ?_) (And.intro (fun hz => ?_) (And.intro (fun hz => ?_) (And.intro (fun hz => ?_) (And.intro (fun hz => ?_) (And.intro (fun hz => ?_) trivial))))))
  · have e : isK 2 c = 0 := by unfold isK; rw [if_neg (by omega), if_neg (by omega), if_neg (by omega), if_neg (by omega), if_neg (by omega)]
    rw [e]
    exact ⟨Or.inl rfl, rfl, rfl⟩
  · have hz : c = 0 := hz
    subst hz
    exact ⟨Or.inr rfl, rfl, rfl⟩
  · have hz : c = 1 := hz
    subst hz
    refine am_inst20 ?_
    refine am_go 20 [] (by decide) ?_
    exact ⟨Or.inl rfl, rfl, rfl⟩
  · have hz : c = 2 := hz
    subst hz
    refine am_inst21 ?_
    refine am_go 20 [] (by decide) ?_
    exact ⟨Or.inl rfl, rfl, rfl⟩
  · have hz : c = 3 := hz
    subst hz
    refine am_inst22 ?_
    refine am_go 20 [] (by decide) ?_
    exact ⟨Or.inr rfl, rfl, rfl⟩
  · have hz : c = 4 := hz
    subst hz
    refine am_inst23 ?_
    refine am_go 20 [] (by decide) ?_
    exact ⟨Or.inl rfl, rfl, rfl⟩
theorem c_isOf3 {Γ : Am_G} {d : Nat} {M : Am_M} {c : Int} (hc : am_R c) : am_Ev Γ (d + 1) n_Voter_isOf [.inr (.inr (0, 29)), .inl c] M (fun r M' => r = some (.inl (isK 3 c)) ∧ M' = M) := by
  refine am_ev_of (by decide) (am_le rfl) (am_go 20 [39, 44, 49, 54] (by decide) ?_)
  refine And.intro ⟨hc, rfl⟩ (And.intro (fun hz => ?_) (And.intro (fun hz => ?_) (And.intro (fun hz => ?_) (And.intro (fun hz => ?_) (And.intro (fun hz => ?_) (And.intro (fun hz => ?_) trivial))))))
  · have e : isK 3 c = 0 := by unfold isK; rw [if_neg (by omega), if_neg (by omega), if_neg (by omega), if_neg (by omega), if_neg (by omega)]
    rw [e]
    exact ⟨Or.inl rfl, rfl, rfl⟩
  · have hz : c = 0 := hz
    subst hz
    exact ⟨Or.inr rfl, rfl, rfl⟩
  · have hz : c = 1 := hz
    subst hz
    refine am_inst30 ?_
    refine am_go 20 [] (by decide) ?_
    exact ⟨Or.inl rfl, rfl, rfl⟩
  · have hz : c = 2 := hz
    subst hz
    refine am_inst31 ?_
    refine am_go 20 [] (by decide) ?_
    exact ⟨Or.inl rfl, rfl, rfl⟩
  · have hz : c = 3 := hz
    subst hz
    refine am_inst32 ?_
    refine am_go 20 [] (by decide) ?_
    exact ⟨Or.inl rfl, rfl, rfl⟩
  · have hz : c = 4 := hz
    subst hz
    refine am_inst33 ?_
    refine am_go 20 [] (by decide) ?_
    exact ⟨Or.inr rfl, rfl, rfl⟩
theorem am_as0 {Γ : Am_G} {d : Nat} {K : Option Am_V → Am_M → Prop} {ls : Am_L} {st : List Am_V} {M : Am_M} {c : Int} (hc : am_R c) (hcat : am_cat st ≤ 8) (kk : am_At Γ (d + 2) n_R_as 54 ls (.inl (isK 0 c) :: st) M K) : am_At Γ (d + 2) n_R_as 51 ls (.inl c :: .inr (.inr (0, 26)) :: st) M K :=
  am_s_vv (nm := "isOf") (ds := "(I)Z") (r := (51, .invokevirtual 121, 3, 950, 1, 0)) (as := [.inl c]) (st := st) (q := (0, 26)) (a := n_Voter_isOf) (am_rowat 27 rfl) rfl (ci := 4) rfl rfl (by decide) (am_in 622 (by decide +kernel) (by decide +kernel)) (am_in 624 (by decide +kernel) (by decide +kernel)) (am_in 625 (by decide +kernel) (by decide +kernel)) (am_in 623 (by decide +kernel) (by decide +kernel)) (Or.inl ⟨(am_in 623 (by decide +kernel) (by decide +kernel)), _, _, _, am_k_68.1⟩) rfl hcat (am_by (c_isOf0 (d := d) hc) (by omega) (fun r M' h => h)) (by rintro v M' ⟨rfl, rfl⟩; exact kk)
theorem am_as1 {Γ : Am_G} {d : Nat} {K : Option Am_V → Am_M → Prop} {ls : Am_L} {st : List Am_V} {M : Am_M} {c : Int} (hc : am_R c) (hcat : am_cat st ≤ 8) (kk : am_At Γ (d + 2) n_R_as 54 ls (.inl (isK 1 c) :: st) M K) : am_At Γ (d + 2) n_R_as 51 ls (.inl c :: .inr (.inr (0, 27)) :: st) M K :=
  am_s_vv (nm := "isOf") (ds := "(I)Z") (r := (51, .invokevirtual 121, 3, 950, 1, 0)) (as := [.inl c]) (st := st) (q := (0, 27)) (a := n_Voter_isOf) (am_rowat 27 rfl) rfl (ci := 9) rfl rfl (by decide) (am_in 622 (by decide +kernel) (by decide +kernel)) (am_in 624 (by decide +kernel) (by decide +kernel)) (am_in 628 (by decide +kernel) (by decide +kernel)) (am_in 623 (by decide +kernel) (by decide +kernel)) (Or.inl ⟨(am_in 623 (by decide +kernel) (by decide +kernel)), _, _, _, am_k_68.1⟩) rfl hcat (am_by (c_isOf1 (d := d) hc) (by omega) (fun r M' h => h)) (by rintro v M' ⟨rfl, rfl⟩; exact kk)
theorem am_as2 {Γ : Am_G} {d : Nat} {K : Option Am_V → Am_M → Prop} {ls : Am_L} {st : List Am_V} {M : Am_M} {c : Int} (hc : am_R c) (hcat : am_cat st ≤ 8) (kk : am_At Γ (d + 2) n_R_as 54 ls (.inl (isK 2 c) :: st) M K) : am_At Γ (d + 2) n_R_as 51 ls (.inl c :: .inr (.inr (0, 28)) :: st) M K :=
  am_s_vv (nm := "isOf") (ds := "(I)Z") (r := (51, .invokevirtual 121, 3, 950, 1, 0)) (as := [.inl c]) (st := st) (q := (0, 28)) (a := n_Voter_isOf) (am_rowat 27 rfl) rfl (ci := 5) rfl rfl (by decide) (am_in 622 (by decide +kernel) (by decide +kernel)) (am_in 624 (by decide +kernel) (by decide +kernel)) (am_in 626 (by decide +kernel) (by decide +kernel)) (am_in 623 (by decide +kernel) (by decide +kernel)) (Or.inl ⟨(am_in 623 (by decide +kernel) (by decide +kernel)), _, _, _, am_k_68.1⟩) rfl hcat (am_by (c_isOf2 (d := d) hc) (by omega) (fun r M' h => h)) (by rintro v M' ⟨rfl, rfl⟩; exact kk)
theorem am_as3 {Γ : Am_G} {d : Nat} {K : Option Am_V → Am_M → Prop} {ls : Am_L} {st : List Am_V} {M : Am_M} {c : Int} (hc : am_R c) (hcat : am_cat st ≤ 8) (kk : am_At Γ (d + 2) n_R_as 54 ls (.inl (isK 3 c) :: st) M K) : am_At Γ (d + 2) n_R_as 51 ls (.inl c :: .inr (.inr (0, 29)) :: st) M K :=
  am_s_vv (nm := "isOf") (ds := "(I)Z") (r := (51, .invokevirtual 121, 3, 950, 1, 0)) (as := [.inl c]) (st := st) (q := (0, 29)) (a := n_Voter_isOf) (am_rowat 27 rfl) rfl (ci := 7) rfl rfl (by decide) (am_in 622 (by decide +kernel) (by decide +kernel)) (am_in 624 (by decide +kernel) (by decide +kernel)) (am_in 627 (by decide +kernel) (by decide +kernel)) (am_in 623 (by decide +kernel) (by decide +kernel)) (Or.inl ⟨(am_in 623 (by decide +kernel) (by decide +kernel)), _, _, _, am_k_68.1⟩) rfl hcat (am_by (c_isOf3 (d := d) hc) (by omega) (fun r M' h => h)) (by rintro v M' ⟨rfl, rfl⟩; exact kk)
theorem am_as {Γ : Am_G} {d k : Nat} (hk : k ≤ 3) {K : Option Am_V → Am_M → Prop} {ls : Am_L} {st : List Am_V} {M : Am_M} {c : Int} (hc : am_R c) (hcat : am_cat st ≤ 8) (kk : am_At Γ (d + 2) n_R_as 54 ls (.inl (isK k c) :: st) M K) : am_At Γ (d + 2) n_R_as 51 ls (.inl c :: .inr (.inr (0, 26 + k)) :: st) M K := by
  rcases (show k = 0 ∨ k = 1 ∨ k = 2 ∨ k = 3 by omega) with rfl | rfl | rfl | rfl
  · exact am_as0 hc hcat kk
  · exact am_as1 hc hcat kk
  · exact am_as2 hc hcat kk
  · exact am_as3 hc hcat kk
