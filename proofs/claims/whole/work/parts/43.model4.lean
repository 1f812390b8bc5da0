/-! the reference: layVote -/
theorem vt_some_of {up : Nat → Int} : ∀ n : Nat, vt_some up n = 0 → ∀ j, j < n → up j ≠ 1
  | 0, _, j, hj => absurd hj (by omega)
  | n + 1, h, j, hj => by
    rw [vt_some] at h
    have h1 : ¬ (vt_some up n = 1 ∨ up n = 1) := fun q => by rw [if_pos q] at h; omega
    by_cases hjn : j = n
    · subst hjn; exact fun q => h1 (Or.inr q)
    · have s01 := vt_some_01 up n
      exact vt_some_of n (by
        rcases s01 with q | q
        · exact q
        · exact absurd (Or.inl q) h1) j (by omega)
theorem vt_some_0 {up : Nat → Int} : ∀ n : Nat, (∀ j, j < n → up j ≠ 1) → vt_some up n = 0
  | 0, _ => rfl
  | n + 1, h => by
    rw [vt_some, vt_some_0 n (fun j hj => h j (by omega)), if_neg]
    rintro (q | q)
    · omega
    · exact h n (by omega) q
theorem vt_add_0 {b : Int} {up fr ct : Nat → Int} : ∀ n : Nat, (∀ j, j < n → up j ≠ 1) → vt_add b up fr ct n = 0
  | 0, _ => rfl
  | n + 1, h => by
    have h1 := vt_add_0 (b := b) (fr := fr) (ct := ct) n (fun j hj => h j (by omega))
    have h2 : vt_add b up fr ct (n + 1) = vt_add b up fr ct n + (if up n = 1 ∧ fr n = b then ct n else 0) := rfl
    rw [h2, h1, if_neg (fun q => h n (by omega) q.1)]
    rfl
theorem mwant_ne {M : Am_M} {m i : Nat} (h : 0 < mwant M m i) : M.1 0 44 (i * 5 + m) ≠ 0 := fun q => by
  unfold mwant vt_want at h
  rw [if_pos q] at h
  omega
/-- the vote on m, as the reference has it -/
def vtM (M : Am_M) (n m : Nat) : (Nat → Int) × Int × Int × Int × Int := vt_go n (M.1 0 43 m) (mwant M m) (mfor M m) (mkd M) (mct M) (mlf M) 100 1 (fun _ => 0) (fun i => if 0 < mwant M m i then 1 else 0) 0 0 (-1)
def lmI (M : Am_M) (n m : Nat) (wc held up : Nat → Int) (f a t set : Int) (M1 : Am_M) : Prop := msame M M1 ∧ (M1.1 0 41 24 = f ∧ M1.1 0 41 25 = a ∧ M1.1 0 41 26 = set) ∧ (∀ j, j < n → M1.1 0 52 j = wc j ∧ M1.1 0 53 j = held j ∧ M1.1 0 54 j = up j) ∧ (∀ j, j < n → (up j = 0 ∨ up j = 1) ∧ (0 ≤ held j ∧ held j ≤ mwant M m j) ∧ (0 ≤ wc j ∧ wc j ≤ mwant M m j) ∧ (set = -1 → wc j = mwant M m j) ∧ (mkd M j ≠ 1 → wc j = mwant M m j) ∧ (up j = 0 → wc j ≤ held j) ∧ (set ≠ -1 → mkd M j = 1 → wc j ≤ held j) ∧ (up j = 1 → held j = t ∧ 0 < mwant M m j)) ∧ (0 ≤ f ∧ f ≤ t * 54) ∧ (0 ≤ a ∧ a ≤ t * 54) ∧ -1 ≤ set ∧ set ≤ 100
def loO (M : Am_M) (n : Nat) (R : (Nat → Int) × Int × Int × Int × Int) (M2 : Am_M) : Prop := msame M M2 ∧ (M2.1 0 41 24 = R.2.1 ∧ M2.1 0 41 25 = R.2.2.1 ∧ M2.1 0 41 26 = R.2.2.2.2) ∧ ∀ j, j < n → M2.1 0 53 j = R.1 j
theorem c_M_lay_iter {Γ : Am_G} {d : Nat} {M : Am_M} {n mt m : Nat} {K : Option Am_V → Am_M → Prop} (hM : wfM M n mt) (hm : m < mt) (R : (Nat → Int) × Int × Int × Int × Int) (hK : ∀ M2, loO M n R M2 → K (some (.inl R.2.2.2.1)) M2) (k : Nat) (t : Int) (ht : t + k = 99) (ht0 : 0 ≤ t) (hnext : ∀ (z4 z5 z6 : Option Am_V) (M1 : Am_M) (wc held up : Nat → Int) (f a set : Int), vt_some up n = 1 → lmI M n m wc held up f a (t + 1) set M1 → vt_go n (M.1 0 43 m) (mwant M m) (mfor M m) (mkd M) (mct M) (mlf M) k (t + 1 + 1) held up f a set = R → am_At Γ (d + 3) n_M_layVote 74 [some (.inr (.inr (0, 41))), some (.inl (m : Int)), some (.inl (t + 1)), some (.inl 1), z4, z5, z6] [] M1 K) (z4 z5 z6 : Option Am_V) (M1 : Am_M) (wc held up : Nat → Int) (f a set : Int) (hI : lmI M n m wc held up f a t set M1) (hR : vt_go n (M.1 0 43 m) (mwant M m) (mfor M m) (mkd M) (mct M) (mlf M) (k + 1) (t + 1) held up f a set = R) : am_At Γ (d + 3) n_M_layVote 74 [some (.inr (.inr (0, 41))), some (.inl (m : Int)), some (.inl t), some (.inl 1), z4, z5, z6] [] M1 K := by
  obtain ⟨⟨n1, n2, n3, n4⟩, n5, n6, n7, n8, n9, n10, n11⟩ := id hM
  obtain ⟨i1, ⟨i2, i3, i4⟩, i5, i6, i7, i8, i9⟩ := id hI
  have hM1 := hM.same i1
  have hw : ∀ j, j < n → 0 ≤ mwant M m j ∧ mwant M m j ≤ mlf M j ∧ mlf M j ≤ 99 := fun j hj => ⟨(mwant_b hM hj hm).1, (mwant_b hM hj hm).2, (n6 j hj).2.2.2.2.2⟩
  have hOK : mOK M1 n m := by
    refine ⟨by omega, by omega, fun j hj => ?_⟩
    obtain ⟨a1, a2, a3⟩ := i5 j hj
    obtain ⟨b1, b2, b3, b4, b5, b6, b7, b8⟩ := i6 j hj
    have := hw j hj
    refine ⟨by rw [a3]; exact b1, fun q => ?_, by omega, by rw [mlf.same i1]; omega⟩
    rw [i1.2.1 0 44 _ (by omega) (by omega)]
    exact mwant_ne (b8 (by omega)).2
  have e43 : M1.1 0 43 m = M.1 0 43 m := i1.2.1 0 43 m (by omega) (by omega)
  have hsi : vt_setI (M1.1 0 43 m) (M1.1 0 41 24) (M1.1 0 41 25) (M1.1 0 54) (mfor M1 m) (mct M1) (mlf M1) (M1.1 0 53) n = vt_setI (M.1 0 43 m) f a up (mfor M m) (mct M) (mlf M) held n := by
    rw [e43, i2, i3, mfor.same i1, mct.same i1, mlf.same i1]
    exact vt_setI_congr (fun i hi => ⟨(i5 i hi).2.2, rfl, rfl, rfl, (i5 i hi).2.1⟩)
  generalize hs : vt_setI (M.1 0 43 m) f a up (mfor M m) (mct M) (mlf M) held n = s at *
  have s01 : s = 0 ∨ s = 1 := by rw [← hs]; exact vt_setI_01 _ _ _ _ _ _ _ _ _
  obtain ⟨set', hset'⟩ : ∃ set' : Int, set' = if set = -1 ∧ s = 1 then t + 1 else set := ⟨_, rfl⟩
  have hgo : ∀ k, vt_go n (M.1 0 43 m) (mwant M m) (mfor M m) (mkd M) (mct M) (mlf M) (k + 1) (t + 1) held up f a set = if vt_some (vt_up set' (mwant M m) (mkd M) held up) n = 1 then vt_go n (M.1 0 43 m) (mwant M m) (mfor M m) (mkd M) (mct M) (mlf M) k (t + 1 + 1) (fun i => held i + vt_up set' (mwant M m) (mkd M) held up i) (vt_up set' (mwant M m) (mkd M) held up) (f + vt_add 1 (vt_up set' (mwant M m) (mkd M) held up) (mfor M m) (mct M) n) (a + vt_add 0 (vt_up set' (mwant M m) (mkd M) held up) (mfor M m) (mct M) n) set' else (held, f, a, t + 1 - 1, set') := by
    intro k
    rw [hset', ← hs]; rfl
  generalize hup : vt_up set' (mwant M m) (mkd M) held up = up' at *
  have hupj : ∀ j, up' j = if up j = 1 ∧ held j < mwant M m j ∧ ¬ (set' ≠ -1 ∧ mkd M j = 1) then 1 else 0 := fun j => by rw [← hup]; rfl
  have hu : ∀ j, j < n → up' j = if held j < (if s = 1 ∧ mkd M j = 1 then held j else wc j) then 1 else 0 := by
    intro j hj
    obtain ⟨b1, b2, b3, b4, b5, b6, b7, b8⟩ := i6 j hj
    rw [hupj]
    by_cases q : mkd M j = 1
    · by_cases q1 : s = 1
      · rw [if_pos (c := s = 1 ∧ mkd M j = 1) ⟨q1, q⟩, if_neg (c := held j < held j) (by omega), if_neg]
        rintro ⟨-, -, z⟩
        apply z
        refine ⟨?_, q⟩
        rw [hset']
        by_cases q2 : set = -1
        · rw [if_pos ⟨q2, q1⟩]; omega
        · rw [if_neg (fun z => q2 z.1)]; exact q2
      · rw [if_neg (c := s = 1 ∧ mkd M j = 1) (fun z => q1 z.1)]
        have hst : set' = set := by rw [hset', if_neg (fun z => q1 z.2)]
        by_cases q2 : set = -1
        · have := b4 q2
          by_cases q3 : up j = 1 ∧ held j < mwant M m j
          · rw [if_pos ⟨q3.1, q3.2, fun z => z.1 (hst.trans q2)⟩, if_pos (by omega)]
          · rw [if_neg (fun z => q3 ⟨z.1, z.2.1⟩), if_neg (by omega)]
        · have := b7 q2 q
          rw [if_neg (fun z => z.2.2 ⟨by rw [hst]; exact q2, q⟩), if_neg (by omega)]
    · rw [if_neg (c := s = 1 ∧ mkd M j = 1) (fun z => q z.2)]
      have := b5 q
      by_cases q3 : up j = 1 ∧ held j < mwant M m j
      · rw [if_pos ⟨q3.1, q3.2, fun z => q z.2⟩, if_pos (by omega)]
      · rw [if_neg (fun z => q3 ⟨z.1, z.2.1⟩), if_neg (by omega)]
  have go110 : am_At Γ (d + 3) n_M_layVote 110 [some (.inr (.inr (0, 41))), some (.inl (m : Int)), some (.inl (t + 1)), some (.inl 1), some (.inl s), z5, z6] [.inl set', .inr (.inr (0, 41))] M1 K := by
    refine am_go 10 [118] (by decide) ?_
    refine c_M_lay_loop2 (d := d) hM hm (t + 1) s wc (fun j => if s = 1 ∧ mkd M j = 1 then held j else wc j) held up up' f a set' s01 (fun j _ => rfl) hu ?_ ?_ ?_ n 0 z6 (am_set M1 0 41 26 set') (by omega) ?_
    · intro j hj hj1
      rw [hupj] at hj1
      refine mwant_ne (M := M) ?_
      obtain ⟨b1, b2, b3, b4, b5, b6, b7, b8⟩ := i6 j hj
      split at hj1
      · rename_i q
        exact (b8 q.1).2
      · omega
    · intro j hj
      obtain ⟨b1, b2, b3, b4, b5, b6, b7, b8⟩ := i6 j hj
      have := hw j hj
      exact ⟨by omega, by omega, b1⟩
    · intro z M2 hO
      obtain ⟨o1, ⟨o2, o3, o4⟩, o5, -⟩ := hO
      have v01 := vt_some_01 up' n
      rcases v01 with v0 | v1
      · -- the end
        rw [v0]
        refine am_go 10 [] (by decide) ?_
        refine And.intro ⟨(by first | omega | (dsimp only [am_own]; omega)), (by first | omega | (dsimp only [am_own]; omega))⟩ (And.intro (fun _ => ?_) (fun q => absurd rfl q))
        have hz := vt_some_of n v0
        have hR2 : (held, f, a, t + 1 - 1, set') = R := by rw [← hR, hgo, if_neg (by omega)]
        have hz1 : vt_add 1 up' (mfor M m) (mct M) n = 0 := vt_add_0 n hz
        have hz0 : vt_add 0 up' (mfor M m) (mct M) n = 0 := vt_add_0 n hz
        have fin := hK M2 ?_
        · rw [← hR2] at fin
          exact fin
        · rw [← hR2]
          refine ⟨o1, ⟨by rw [o2, hz1]; exact Int.add_zero f, by rw [o3, hz0]; exact Int.add_zero a, o4⟩, fun j hj => ?_⟩
          rw [(o5 j hj).2.1]
          have := hz j hj
          have h01 : up' j = 0 := by
            have := hupj j
            split at this <;> omega
          rw [h01]; exact Int.add_zero _
      · rw [v1]
        have hab : ∀ b, 0 ≤ vt_add b up' (mfor M m) (mct M) n ∧ vt_add b up' (mfor M m) (mct M) n ≤ n * 9 := fun b => vt_add_b (fun i hi => (n6 i hi).2.2.2.1)
        have hab1 := hab 1
        have hab0 := hab 0
        refine hnext _ _ _ M2 (fun j => if s = 1 ∧ mkd M j = 1 then held j else wc j) (fun i => held i + up' i) up' (f + vt_add 1 up' (mfor M m) (mct M) n) (a + vt_add 0 up' (mfor M m) (mct M) n) set' v1 ⟨o1, ⟨o2, o3, o4⟩, fun j hj => o5 j hj, fun j hj => ?_, by omega, by omega, ?_, ?_⟩ ?_
        · obtain ⟨b1, b2, b3, b4, b5, b6, b7, b8⟩ := i6 j hj
          have hw1 := hw j hj
          have hd := hupj j
          have hu1 := hu j hj
          dsimp only
          by_cases qs : s = 1 ∧ mkd M j = 1
          · rw [if_pos qs] at hu1 ⊢
            rw [if_neg (by omega)] at hu1
            rw [hu1]
            refine ⟨Or.inl rfl, by omega, by omega, fun q => ?_, fun q => absurd qs.2 q, fun _ => by omega, fun _ _ => by omega, fun q => absurd q (by omega)⟩
            exfalso
            rw [hset'] at q
            by_cases q2 : set = -1
            · rw [if_pos ⟨q2, qs.1⟩] at q; omega
            · rw [if_neg (fun z => q2 z.1)] at q; exact q2 q
          · rw [if_neg qs] at hu1 ⊢
            have hst : mkd M j = 1 → set' = set := fun q => by rw [hset', if_neg (fun z => qs ⟨z.2, q⟩)]
            have hst2 : set' = -1 → set = -1 := fun q => by
              rw [hset'] at q
              by_cases q2 : set = -1
              · exact q2
              · rw [if_neg (fun z => q2 z.1)] at q; exact q
            by_cases q3 : held j < wc j
            · rw [if_pos q3] at hu1
              have hup1 : up j = 1 := by
                rcases b1 with q | q
                · have := b6 q; omega
                · exact q
              have := b8 hup1
              rw [hu1]
              refine ⟨Or.inr rfl, by omega, b3, fun q => b4 (hst2 q), b5, fun q => absurd q (by omega), fun q1 q2 => ?_, fun _ => ⟨by omega, by omega⟩⟩
              have := b7 (by rw [← hst q2]; exact q1) q2
              omega
            · rw [if_neg q3] at hu1
              rw [hu1]
              exact ⟨Or.inl rfl, by omega, b3, fun q => b4 (hst2 q), b5, fun _ => by omega, fun _ _ => by omega, fun q => absurd q (by omega)⟩
        · rw [hset']; split <;> omega
        · rw [hset']; split <;> omega
        · rw [← hR, hgo, if_pos v1]
    · refine ⟨i1.setF (by omega), ⟨?_, ?_, set_eq⟩, fun j hj => absurd hj (by omega), fun j _ hj => ?_⟩
      · rw [set_k (by decide), i2]; exact (Int.add_zero f).symm
      · rw [set_k (by decide), i3]; exact (Int.add_zero a).symm
      · rw [set_p (by decide), set_p (by decide), set_p (by decide)]
        exact i5 j hj
  refine am_go 60 [110] (by decide) ?_
  refine And.intro ⟨(by first | omega | (dsimp only [am_own]; omega)), (by first | omega | (dsimp only [am_own]; omega))⟩ (And.intro (fun q => absurd q (by decide)) (fun _ => ?_))
  refine am_by (c_M_isSettled (d := d + 0) (m : Int) hM1 hm hOK rfl) (by omega) ?_
  rintro r M2 ⟨rfl, rfl⟩
  rw [hsi]
  refine And.intro ⟨(by first | omega | (dsimp only [am_own]; omega)), (by first | omega | (dsimp only [am_own]; omega))⟩ (And.intro (fun h4 => ?_) (fun h4 => ?_))
  · have e1 : set' = M2.1 0 41 26 := by rw [hset', if_neg (by omega), i4]
    rw [e1] at go110
    exact go110
  · refine And.intro ⟨(show am_R (M2.1 0 41 26) from ⟨(by first | omega | (dsimp only [am_own]; omega)), (by first | omega | (dsimp only [am_own]; omega))⟩), ⟨(by first | omega | (dsimp only [am_own]; omega)), (by first | omega | (dsimp only [am_own]; omega))⟩⟩ (And.intro (fun h5 => ?_) (fun h5 => ?_))
    · have h5 : M2.1 0 41 26 = -1 := h5
      have e1 : set' = t + 1 := by rw [hset', if_pos (by omega)]
      rw [e1] at go110
      exact go110
    · have h5 : ¬ M2.1 0 41 26 = -1 := h5
      have e1 : set' = M2.1 0 41 26 := by rw [hset', if_neg (by omega), i4]
      rw [e1] at go110
      exact go110
theorem c_M_lay_loop3 {Γ : Am_G} {d : Nat} {M : Am_M} {n mt m : Nat} {K : Option Am_V → Am_M → Prop} (hM : wfM M n mt) (hm : m < mt) (R : (Nat → Int) × Int × Int × Int × Int) (hK : ∀ M2, loO M n R M2 → K (some (.inl R.2.2.2.1)) M2) : ∀ (k : Nat) (z4 z5 z6 : Option Am_V) (M1 : Am_M) (wc held up : Nat → Int) (f a t set : Int), t + k = 99 → 0 ≤ t → lmI M n m wc held up f a t set M1 → vt_go n (M.1 0 43 m) (mwant M m) (mfor M m) (mkd M) (mct M) (mlf M) (k + 1) (t + 1) held up f a set = R → am_At Γ (d + 3) n_M_layVote 74 [some (.inr (.inr (0, 41))), some (.inl (m : Int)), some (.inl t), some (.inl 1), z4, z5, z6] [] M1 K := by
  intro k
  induction k with
  | zero =>
    intro z4 z5 z6 M1 wc held up f a t set ht ht0 hI hR
    refine c_M_lay_iter hM hm R hK 0 t ht ht0 (fun _ _ _ M2 wc' held' up' f' a' set' hs hI2 _ => ?_) z4 z5 z6 M1 wc held up f a set hI hR
    exfalso
    have hbad : vt_some up' n = 0 := vt_some_0 n (fun j hj q => by
      have h1 := (hI2.2.2.2.1 j hj).2.2.2.2.2.2.2 q
      have h2 := (hI2.2.2.2.1 j hj).2.1
      have h3 := (mwant_b hM hj hm).2
      have h4 := (hM.2.2.1 j hj).2.2.2.2
      omega)
    omega
  | succ k ih =>
    intro z4 z5 z6 M1 wc held up f a t set ht ht0 hI hR
    exact c_M_lay_iter hM hm R hK (k + 1) t ht ht0 (fun z4 z5 z6 M2 wc' held' up' f' a' set' _ hI2 hR2 => ih z4 z5 z6 M2 wc' held' up' f' a' (t + 1) set' (by omega) (by omega) hI2 hR2) z4 z5 z6 M1 wc held up f a set hI hR
theorem c_M_layVote {Γ : Am_G} {d : Nat} {M : Am_M} {n mt m : Nat} (y : Int) (hM : wfM M n mt) (hm : m < mt) (hy : y = m) : am_Ev Γ (d + 3) n_M_layVote [.inr (.inr (0, 41)), .inl y] M (fun r M' => r = some (.inl (vtM M n m).2.2.2.1) ∧ loO M n (vtM M n m) M') := by
  subst hy
  refine am_ev_of (by decide) (am_le rfl) (am_go 60 [17] (by decide) ?_)
  refine c_M_lay_loop1 hM hm (fun M1 hI => ?_) n 0 _ (by omega) ?_
  · obtain ⟨i1, ⟨i2, i3, i4⟩, i5⟩ := hI
    refine am_go 60 [74] (by decide) ?_
    refine c_M_lay_loop3 hM hm (vtM M n m) (fun M2 h => ⟨rfl, h⟩) 99 _ _ _ M1 (mwant M m) (fun _ => 0) (fun i => if 0 < mwant M m i then 1 else 0) 0 0 0 (-1) (by omega) (by omega) ⟨i1, ⟨i2, i3, i4⟩, fun j hj => i5 j hj, fun j hj => ?_, by omega, by omega, by omega, by omega⟩ rfl
    have hw := (mwant_b hM hj hm).1
    dsimp only
    by_cases q : 0 < mwant M m j
    · rw [if_pos q]
      exact ⟨Or.inr rfl, by omega, by omega, fun _ => rfl, fun _ => rfl, fun q => absurd q (by decide), fun q => absurd rfl q, fun _ => ⟨rfl, q⟩⟩
    · rw [if_neg q]
      exact ⟨Or.inl rfl, by omega, by omega, fun _ => rfl, fun _ => rfl, fun _ => by omega, fun q => absurd rfl q, fun q => absurd q (by decide)⟩
  · refine ⟨((msame.rf.setF (Or.inl rfl)).setF (Or.inr (Or.inl rfl))).setF (Or.inr (Or.inr rfl)), ⟨?_, ?_, set_eq⟩, fun j hj => absurd hj (by omega)⟩
    · rw [set_k (by decide), set_k (by decide)]; exact set_eq
    · rw [set_k (by decide)]; exact set_eq
