/-! orders: the class's search -/
def sekO (M : Am_M) (V0 : Vw) (set : Int) (n mt pu j k : Nat) (cm w : List Nat) (r : Option Am_V) (M' : Am_M) : Prop := am_same (sF j) M M' ∧ ((r = some (.inl 1) ∧ ∃ l : List Nat, l.length = k ∧ goodP set n V0 cm (w ++ l) ∧ (∀ l' : List Nat, l'.length = k → goodP set n V0 cm (w ++ l') → cdH mt l ≤ cdH mt l') ∧ ∀ i (m : Nat), (w ++ l)[i]? = some m → M'.1 0 36 (pu + i) = m) ∨ (r = some (.inl 0) ∧ ∀ l' : List Nat, l'.length = k → ¬ goodP set n V0 cm (w ++ l')))
theorem c_seekFrom {Γ : Am_G} {d : Nat} {V0 : Vw} {set : Int} {n mt pu : Nat} {cm : List Nat} (hpu : pu ≤ mt) (hm5 : mt ≤ 5) (hcm : cm.length = mt - pu) (hnd : cm.Nodup) (hci : ∀ m, m ∈ cm ↔ m < mt ∧ ∀ i, i < pu → V0 7 i ≠ m) : ∀ (k j : Nat) (w : List Nat) (M : Am_M), pu + j + k = mt → w.length = j → wfH M mt → nodeP M V0 n mt pu j w → w.Nodup → (∀ m, m ∈ w → m ∈ cm) → okL set n w V0 → am_Ev Γ (d + 6 + k) n_Foresight_seekOrderFrom [.inr (.inr (0, 34)), .inl (j : Int), .inl set] M (sekO M V0 set n mt pu j k cm w) := by
  intro k
  induction k with
  | zero =>
    intro j w M hj hw hH hN hwn hwc hok
    have e6 : M.1 (3 + j) 0 6 = mt := hN.1.1.2.2.1
    have e7 := hN.2.1
    refine am_ev_of (by decide) (am_le rfl) (am_go 60 [] (by decide) ?_)
    refine And.intro ⟨(by first | omega | (dsimp only [am_own]; omega)), (by first | omega | (dsimp only [am_own]; omega))⟩ ?_
    refine am_by (c_toCome (d := d) (3 + j)) (by omega) ?_
    rintro r M1 ⟨rfl, rfl⟩
    refine And.intro ⟨by omega, by omega⟩ (And.intro (fun h => ?_) (fun h => ?_))
    rotate_left
    · exfalso
      have h : ¬ M1.1 (3 + j) 0 6 - M1.1 (3 + j) 0 7 = 0 := h
      omega
    refine And.intro ⟨⟨(by first | omega | (dsimp only [am_own]; omega)), (by first | omega | (dsimp only [am_own]; omega)), (by first | omega | (dsimp only [am_own]; omega))⟩, ⟨by omega, by omega⟩, by omega, am_le rfl⟩ ?_
    refine And.intro (Or.inr rfl) ?_
    refine ⟨am_same.rf.cpy (Or.inr (Or.inr ⟨rfl, rfl⟩)), Or.inl ⟨rfl, [], rfl, ?_, fun l' hl' _ => Nat.zero_le _, fun i m hi => ?_⟩⟩
    · rw [List.append_nil]
      have hp := pig (c := w) (l := cm) hwn (by omega) hwc
      exact ⟨fun m => ⟨hwc m, hp.2 m⟩, hok⟩
    · rw [List.append_nil] at hi
      have hil := (List.getElem?_eq_some_iff.mp hi).1
      show (am_cpy M1 (3 + j) 6 0 36 5).1 0 36 (pu + i) = m
      rw [cpy_in (by omega)]
      exact hN.2.2.2.2.1 i m hi
  | succ k ih =>
    intro j w M hj hw hH hN hwn hwc hok
    have e6 : M.1 (3 + j) 0 6 = mt := hN.1.1.2.2.1
    have e7 := hN.2.1
    have ej : ((j : Int) + 1).toNat = j + 1 := by omega
    have loop : ∀ (c m : Nat) (z : Option Am_V) (M1 : Am_M), m + c = mt → am_same (sF j) M M1 → (∀ m', m' < m → ∀ l' : List Nat, l'.length = k → ¬ goodP set n V0 cm (w ++ m' :: l')) → am_At Γ (d + 6 + (k + 1)) n_Foresight_seekOrderFrom 48 [some (.inr (.inr (0, 34))), some (.inl (j : Int)), some (.inl set), some (.inr (.inr (3 + j, 0))), some (.inr (.inr (4 + j, 0))), some (.inl (m : Int)), z] [] M1 (sekO M V0 set n mt pu j (k + 1) cm w) := by
      intro c
      induction c with
      | zero =>
        intro m z M1 hm hs hno
        have hN1 := hN.fr hs
        have e61 : M1.1 (3 + j) 0 6 = mt := hN1.1.1.2.2.1
        refine am_go 60 [48] (by decide) ?_
        refine And.intro ⟨⟨(by first | omega | (dsimp only [am_own]; omega)), (by first | omega | (dsimp only [am_own]; omega))⟩, (show am_R (M1.1 (3 + j) 0 6) from ⟨(by first | omega | (dsimp only [am_own]; omega)), (by first | omega | (dsimp only [am_own]; omega))⟩)⟩ (And.intro (fun h => ?_) (fun h => ?_))
        · exfalso
          have h : (m : Int) < M1.1 (3 + j) 0 6 := h
          omega
        refine And.intro (Or.inl rfl) ⟨hs, Or.inr ⟨rfl, fun l' hl' hg => ?_⟩⟩
        cases l' with
        | nil => cases hl'
        | cons a l' =>
          have ha : a ∈ cm := (hg.1 a).mp (List.mem_append_right _ (List.mem_cons_self ..))
          have := (hci a).mp ha
          exact hno a (by omega) l' (by simpa using hl') hg
      | succ c ihc =>
        intro m z M1 hm hs hno
        have hN1 := hN.fr hs
        have e61 : M1.1 (3 + j) 0 6 = mt := hN1.1.1.2.2.1
        have e71 := hN1.2.1
        have hH1 : wfH M1 mt := hH.same hs (fun p a b => by unfold sF vS; omega)
        have hbd : ∀ k, k < mt → 0 ≤ M1.1 (3 + j) 6 k ∧ M1.1 (3 + j) 6 k < mt := fun k hk => (hN1.1.2.2.2.1 k hk).2
        have nxt : ∀ (z2 : Option Am_V) (M2 : Am_M), am_same (sF j) M M2 → (∀ l' : List Nat, l'.length = k → ¬ goodP set n V0 cm (w ++ m :: l')) → am_At Γ (d + 6 + (k + 1)) n_Foresight_seekOrderFrom 126 [some (.inr (.inr (0, 34))), some (.inl (j : Int)), some (.inl set), some (.inr (.inr (3 + j, 0))), some (.inr (.inr (4 + j, 0))), some (.inl (m : Int)), z2] [] M2 (sekO M V0 set n mt pu j (k + 1) cm w) := by
          intro z2 M2 hs2 hnm
          refine am_go 60 [48] (by decide) ?_
          refine ihc (m + 1) z2 M2 (by omega) hs2 (fun m' hm' => ?_)
          by_cases q : m' = m
          · rw [q]; exact hnm
          · exact hno m' (by omega)
        refine am_go 60 [48, 101, 126] (by decide) ?_
        refine And.intro ⟨⟨(by first | omega | (dsimp only [am_own]; omega)), (by first | omega | (dsimp only [am_own]; omega))⟩, (show am_R (M1.1 (3 + j) 0 6) from ⟨(by first | omega | (dsimp only [am_own]; omega)), (by first | omega | (dsimp only [am_own]; omega))⟩)⟩ (And.intro (fun h => ?_) (fun h => ?_))
        rotate_left
        · exfalso
          have h : ¬ (m : Int) < M1.1 (3 + j) 0 6 := h
          omega
        refine am_by (c_wasPut (d := d) (e := 3 + j) (pu := pu + j) (x := (m : Int)) e71 (by omega) ⟨by omega, by omega⟩ (fun i hi => by have := hbd i (by omega); exact ⟨by omega, by omega⟩)) (by omega) ?_
        rintro r M1' ⟨rfl, rfl⟩
        rcases hasI_01 (M1'.1 (3 + j) 6) (m : Int) (pu + j) with h0 | h0
        rotate_left
        · rw [h0]
          refine And.intro ⟨(by first | omega | (dsimp only [am_own]; omega)), (by first | omega | (dsimp only [am_own]; omega))⟩ (And.intro (fun h => absurd h (by decide)) (fun _ => ?_))
          refine nxt _ M1' hs (fun l' hl' hg => ?_)
          obtain ⟨i, hi, he⟩ := hasI_1.mp h0
          have hmc : m ∈ cm := (hg.1 m).mp (List.mem_append_right _ (List.mem_cons_self ..))
          have hml : (w ++ m :: l').Nodup := (pig (c := cm) hnd (by rw [List.length_append, List.length_cons]; omega) (fun x hx => (hg.1 x).mpr hx)).1
          rcases Nat.lt_or_ge i pu with q | q
          · rw [hN1.2.2.2.1 i q] at he
            exact ((hci m).mp hmc).2 i q he
          · obtain ⟨x, hx⟩ : ∃ x, w[i - pu]? = some x := ⟨w[i - pu]'(by omega), List.getElem?_eq_getElem _⟩
            have h5 := hN1.2.2.2.2.1 (i - pu) x hx
            rw [show pu + (i - pu) = i by omega] at h5
            have hxm : x = m := by omega
            have hmw : m ∈ w := by rw [← hxm]; exact List.mem_of_getElem? hx
            exact (List.nodup_append.mp hml).2.2 m hmw m (List.mem_cons_self ..) rfl
        rw [h0]
        refine And.intro ⟨(by first | omega | (dsimp only [am_own]; omega)), (by first | omega | (dsimp only [am_own]; omega))⟩ (And.intro (fun _ => ?_) (fun h => absurd rfl h))
        have hnp : ∀ i, i < pu + j → M1'.1 (3 + j) 6 i ≠ m := fun i hi he => by
          have := hasI_1.mpr ⟨i, hi, he⟩
          omega
        have hQ := posO_lt (hN1.2.2.1 m (by omega))
        obtain ⟨-, hQf, hQx⟩ := posO_spec (M1'.1 (3 + j) 6) (m : Int) mt
        have hQx := hQx hQ
        generalize posO (M1'.1 (3 + j) 6) (m : Int) mt = q at *
        have hqp : pu + j ≤ q := by
          rcases Nat.lt_or_ge q (pu + j) with z | z
          · exact absurd hQx (hnp q z)
          · exact z
        refine am_by (c_evCopy (d := d) (e := 4 + j) (e2 := 3 + j) (by omega)) (by omega) ?_
        rintro r M2 ⟨rfl, hC⟩
        have o2 : ∀ k, k < mt → M2.1 (4 + j) 6 k = M1'.1 (3 + j) 6 k := fun k hk => hC.2.2.2.1 k (by omega)
        refine am_by (c_bring (d := d) (e := 4 + j) (pu := pu + j) (mt := mt) (q := q) (x := (m : Int)) (hC.2.1.2.1.trans e71) (hC.2.1.1.trans e61) hm5 hqp hQ ((o2 q hQ).trans hQx) (fun i _ hi => by rw [o2 i (by omega)]; exact hQf i hi) (fun i hi => by rw [o2 i hi]; have := hbd i hi; exact ⟨by omega, by omega⟩)) (by omega) ?_
        rintro r M3 ⟨rfl, hs3, ho3⟩
        have hs3' : am_same (sF j) M1' M3 := (hC.1.wk (fun e p hp => Or.inr (Or.inl (by omega)))).tr (hs3.wk (fun e p hp => Or.inr (Or.inl (by omega))))
        have hH3 : wfH M3 mt := hH1.same hs3' (fun p a b => by unfold sF vS; omega)
        obtain ⟨⟨w3, e73, ecar, hmt⟩, -⟩ := nodeP.next (M4 := M3) hN1 hw (by omega) hC hqp hQ hQx hs3 ho3
        refine am_by (c_runV (d := d) (e := 4 + j) w3 hH3 (by omega)) (by omega) ?_
        rintro r M4 ⟨rfl, hO, hv4⟩
        have hN4 := (nodeP.next (M4 := M4) hN1 hw (by omega) hC hqp hQ hQx hs3 ho3).2 hO hv4
        have hs4 : am_same (sF j) M1' M4 := hs3'.tr (hO.1.wk (fun e p hp => by
          rcases hp with hp | hp
          · exact Or.inl hp
          · exact Or.inr (Or.inl (by omega))))
        have hH4 : wfH M4 mt := hH1.same hs4 (fun p a b => by unfold sF vS; omega)
        rw [ecar]
        have c01 := carM_01 (viewW n w V0) n m
        -- well
        have well : (carM (viewW n w V0) n m = 1 ∨ bt set m = false) → am_At Γ (d + 6 + (k + 1)) n_Foresight_seekOrderFrom 101 [some (.inr (.inr (0, 34))), some (.inl (j : Int)), some (.inl set), some (.inr (.inr (3 + j, 0))), some (.inr (.inr (4 + j, 0))), some (.inl (m : Int)), z] [] M4 (sekO M V0 set n mt pu j (k + 1) cm w) := by
          intro hw1
          refine am_go 60 [126] (by decide) ?_
          refine And.intro ⟨(by first | omega | (dsimp only [am_own]; omega)), (by first | omega | (dsimp only [am_own]; omega))⟩ (And.intro (fun h => absurd h (by decide)) (fun _ => ?_))
          have hmw : m ∉ w := fun hmw => by
            obtain ⟨i, hi⟩ := List.getElem?_of_mem hmw
            have hil := (List.getElem?_eq_some_iff.mp hi).1
            exact hnp (pu + i) (by omega) (hN1.2.2.2.2.1 i m hi)
          have hmc : m ∈ cm := (hci m).mpr ⟨hmt, fun i hi he => hnp i (by omega) ((hN1.2.2.2.1 i hi).trans he)⟩
          have hcall := ih (j + 1) (w ++ [m]) M4 (by omega) (by rw [List.length_append, List.length_singleton]; omega) hH4 hN4 (List.nodup_append.mpr ⟨hwn, List.nodup_cons.mpr ⟨List.not_mem_nil, List.nodup_nil⟩, fun a ha b hb => by
            have : b = m := by simpa using hb
            rw [this]
            exact fun z => hmw (z ▸ ha)⟩) (fun x hx => by
            rcases List.mem_append.mp hx with hx | hx
            · exact hwc x hx
            · have : x = m := by simpa using hx
              rw [this]; exact hmc) ((okL_app set n w [m] V0).mpr ⟨hok, hw1, trivial⟩)
          refine am_by hcall (by omega) ?_
          intro r M5 hr
          obtain ⟨hs5, hr⟩ := hr
          have hs5' : am_same (sF j) M M5 := (hs.tr hs4).tr (hs5.wk (fun e p hp => hp.elim Or.inl (fun hp => hp.elim (fun hp => Or.inr (Or.inl ⟨Nat.le_trans (Nat.le_succ _) hp.1, hp.2⟩)) (fun hp => Or.inr (Or.inr hp)))))
          have eapp : ∀ l : List Nat, w ++ [m] ++ l = w ++ m :: l := fun l => by rw [List.append_assoc]; rfl
          rcases hr with ⟨rfl, l, l1, l2, l3, l4⟩ | ⟨rfl, l1⟩
          · refine And.intro ⟨(by first | omega | (dsimp only [am_own]; omega)), (by first | omega | (dsimp only [am_own]; omega))⟩ (And.intro (fun h => absurd h (by decide)) (fun _ => ?_))
            refine And.intro (Or.inr rfl) ⟨hs5', Or.inl ⟨rfl, m :: l, by rw [List.length_cons, l1], by rw [← eapp]; exact l2, fun l' hl' hg => ?_, fun i x hi => l4 i x (by rw [eapp]; exact hi)⟩⟩
            cases l' with
            | nil => cases hl'
            | cons a l' =>
              have hl'k : l'.length = k := by simpa using hl'
              have ha : a ∈ cm := (hg.1 a).mp (List.mem_append_right _ (List.mem_cons_self ..))
              have hba : ∀ x, x ∈ l → x < mt := fun x hx => ((hci x).mp ((l2.1 x).mp (List.mem_append_right _ hx))).1
              rw [cdH, cdH, l1, hl'k]
              rcases Nat.lt_trichotomy a m with q1 | q1 | q1
              · exact absurd hg (hno a q1 l' hl'k)
              · subst q1
                have := l3 l' hl'k (by rw [eapp]; exact hg)
                omega
              · have hlt := cdH_lt l hba
                rw [l1] at hlt
                have : (m + 1) * mt ^ k ≤ a * mt ^ k := Nat.mul_le_mul_right _ q1
                rw [Nat.add_mul, Nat.one_mul] at this
                omega
          · refine And.intro ⟨(by first | omega | (dsimp only [am_own]; omega)), (by first | omega | (dsimp only [am_own]; omega))⟩ (And.intro (fun _ => ?_) (fun h => absurd rfl h))
            exact nxt _ M5 hs5' (fun l' hl' hg => l1 l' hl' (by rw [eapp]; exact hg))
        refine And.intro ⟨⟨(by first | omega | (dsimp only [am_own]; omega)), (by first | omega | (dsimp only [am_own]; omega))⟩, ⟨(by first | omega | (dsimp only [am_own]; omega)), (by first | omega | (dsimp only [am_own]; omega))⟩⟩ (And.intro (fun h2 => ?_) (fun h2 => ?_))
        · exact well (Or.inl h2)
        have h2 : ¬ carM (viewW n w V0) n m = 1 := h2
        have hbit := am_bit set m (by omega)
        refine And.intro (am_R_and _ _) (And.intro (fun h3 => ?_) (fun h3 => ?_))
        · have h3 : am_and (am_shr set m) 1 = 0 := h3
          refine well (Or.inr ?_)
          rw [hbit] at h3
          cases hb : bt set m with
          | false => rfl
          | true => rw [hb, if_pos rfl] at h3; omega
        · have h3 : ¬ am_and (am_shr set m) 1 = 0 := h3
          refine And.intro ⟨(by first | omega | (dsimp only [am_own]; omega)), (by first | omega | (dsimp only [am_own]; omega))⟩ (And.intro (fun _ => ?_) (fun h => absurd rfl h))
          refine nxt _ M4 (hs.tr hs4) (fun l' hl' hg => ?_)
          have := ((okL_app set n w (m :: l') V0).mp hg.2).2.1
          rcases this with q1 | q1
          · exact h2 q1
          · rw [hbit, q1] at h3
            exact h3 rfl
    refine am_ev_of (by decide) (am_le rfl) (am_go 60 [48] (by decide) ?_)
    refine And.intro ⟨(by first | omega | (dsimp only [am_own]; omega)), (by first | omega | (dsimp only [am_own]; omega))⟩ ?_
    refine am_by (c_toCome (d := d) (3 + j)) (by omega) ?_
    rintro r M1 ⟨rfl, rfl⟩
    refine And.intro ⟨by omega, by omega⟩ (And.intro (fun h => ?_) (fun h => ?_))
    · exfalso
      have h : M1.1 (3 + j) 0 6 - M1.1 (3 + j) 0 7 = 0 := h
      omega
    refine And.intro ⟨⟨(by first | omega | (dsimp only [am_own]; omega)), (by first | omega | (dsimp only [am_own]; omega))⟩, ⟨(by first | omega | (dsimp only [am_own]; omega)), (by first | omega | (dsimp only [am_own]; omega))⟩⟩ (And.intro (fun h2 => ?_) (fun h2 => ?_))
    · exfalso
      have h2 : (j : Int) = 5 := h2
      omega
    refine And.intro ⟨(by first | omega | (dsimp only [am_own]; omega)), (by first | omega | (dsimp only [am_own]; omega))⟩ ?_
    have go := loop mt 0 none M1 (by omega) am_same.rf (fun m' hm' => absurd hm' (Nat.not_lt_zero m'))
    rw [show 4 + j = 3 + ((j : Int) + 1).toNat by omega] at go
    exact go
