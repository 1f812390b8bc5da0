/-! one's best seconds: the reference tries a row -/
def rsB : Option Int → Int
  | none => -1
  | some w => 100 + w
theorem wfM_view {M M' : Am_M} {n mt : Nat} {W : Vw} (h : wfM M n mt) (hp : psame M M') (hv : veq n mt (rV M') W) (hW : wfV W n mt) : wfM M' n mt := wfM_ps h hp (veq_wf hv.symm hW)
theorem c_M_tryOne {Γ : Am_G} {d : Nat} {M : Am_M} {n mt pu i many : Nat} {row : List Nat} (hM : wfM M n mt) (hi : i < n) (hp : M.1 0 47 0 = pu) (hpm : pu + many ≤ mt) (hm3 : many ≤ 3) (hrow : row.length = many) (ht : ∀ k (s : Nat), row[k]? = some s → M.1 0 55 k = s) (hrb : ∀ m, m ∈ row → m ≤ 99) : am_Ev Γ (d + 5) n_M_tryOne [.inr (.inr (0, 41)), .inl (i : Int), .inl (many : Int)] M (fun r M' => r = some (.inl (rsB (evB n i row (rV M) 0))) ∧ rF M M') := by
  obtain ⟨⟨n1, n2, n3, n4⟩, n5, n6, n7, n8, n9, n10, n11⟩ := id hM
  have hV0 : wfV (rV M) n mt := rV_wf hM (by omega)
  have h03 : rV M 0 3 = pu := hp
  refine am_ev_of (by decide) (am_le rfl) (am_go 60 [10] (by decide) ?_)
  refine am_by (c_M_putAside (d := d + 2)) (by omega) ?_
  rintro r MA ⟨rfl, hA⟩
  have hrs := cpO48_rs hA
  have hMA := hM.rs hrs
  have hvA := rV.rs (n := n) (mt := mt) hrs n2 n4
  have fin : ∀ (v : Int) (z4 z5 : Option Am_V) (M1 : Am_M), psame MA M1 → v = rsB (evB n i row (rV M) 0) → am_At Γ (d + 5) n_M_tryOne 112 [some (.inr (.inr (0, 41))), some (.inl (i : Int)), some (.inl (many : Int)), some (.inl v), z4, z5] [] M1 (fun r M' => r = some (.inl (rsB (evB n i row (rV M) 0))) ∧ rF M M') := by
    intro v z4 z5 M1 hps hv
    refine am_go 60 [] (by decide) ?_
    refine am_by (c_M_putBack (d := d + 2)) (by omega) ?_
    rintro r M2 ⟨rfl, hB⟩
    exact ⟨by rw [hv], rF_of hA hps.g (fun k _ => hps.2.1 0 48 k (by omega) (by omega) (by omega)) hB⟩
  have loop : ∀ (l pre : List Nat) (w : Int) (z : Option Am_V) (M1 : Am_M), row = pre ++ l → evB n i pre (rV M) 0 = some w → psame MA M1 → wfM M1 n mt → veq n mt (rV M1) (vwB n i pre (rV M)) → am_At Γ (d + 5) n_M_tryOne 10 [some (.inr (.inr (0, 41))), some (.inl (i : Int)), some (.inl (many : Int)), some (.inl (100 + w)), some (.inl (pre.length : Int)), z] [] M1 (fun r M' => r = some (.inl (rsB (evB n i row (rV M) 0))) ∧ rF M M') := by
    intro l
    induction l with
    | nil =>
      intro pre w z M1 hr hev hps hM1 hv
      rw [List.append_nil] at hr
      subst hr
      refine am_go 60 [10, 112] (by decide) ?_
      refine And.intro ⟨⟨(by first | omega | (dsimp only [am_own]; omega)), (by first | omega | (dsimp only [am_own]; omega))⟩, ⟨(by first | omega | (dsimp only [am_own]; omega)), (by first | omega | (dsimp only [am_own]; omega))⟩⟩ (And.intro (fun h => ?_) (fun h => ?_))
      · exfalso; omega
      · exact fin _ _ _ M1 hps (by rw [hev]; rfl)
    | cons t l ih =>
      intro pre w z M1 hr hev hps hM1 hv
      have hlen : pre.length + (l.length + 1) = many := by rw [← hrow, hr, List.length_append, List.length_cons]
      have hwb := evB_b (mt := mt) hi _ _ _ _ hV0 (by rw [h03]; omega) hev
      obtain ⟨W, hW⟩ : ∃ W, W = vwB n i pre (rV M) := ⟨_, rfl⟩
      rw [← hW] at hv
      have W03 : W 0 3 = ((pu + pre.length : Nat) : Int) := by rw [hW, vwB_03, h03]; push_cast; rfl
      have e70 : M1.1 0 47 0 = ((pu + pre.length : Nat) : Int) := (hv.1 3 (by omega)).trans W03
      have hWv : wfV W n mt := veq_wf hv (rV_wf hM1 (by omega))
      have hWp : W 0 3 < mt := by omega
      have hWm := mV_lt hWv hWp
      have hWb := (hWv.2.2.2.2 i (mV W) hi hWm).1
      have W8n := (hWv.2.2.1 i hi).2.2.2.2
      have htt : row[pre.length]? = some t := by rw [hr, List.getElem?_append_right (Nat.le_refl _), Nat.sub_self]; rfl
      have ht99 : t ≤ 99 := hrb t (by rw [hr]; exact List.mem_append_right _ (List.mem_cons_self ..))
      have e55 : M1.1 0 55 pre.length = t := by
        rw [hps.2.1 0 55 _ (by omega) (by omega) (by omega), hA.1.2 0 55 _ (by omega)]
        exact ht _ _ htt
      have e8 : M1.1 0 47 (6 + i) = W 8 i := (hv.2.1 i hi).2.2.2.2
      have em : M1.1 0 47 (1 + M1.1 0 47 0).toNat = (mV W : Int) := by
        rw [show (1 + M1.1 0 47 0).toNat = 1 + (pu + pre.length) by omega]
        have h7 : M1.1 0 47 (1 + (pu + pre.length)) = W 7 (pu + pre.length) := (hv.2.2.1 (pu + pre.length) (by omega)).2
        have hb7 := (hWv.2.2.2.1 (pu + pre.length) (by omega)).2
        unfold mV
        rw [W03, show (((pu + pre.length : Nat) : Int)).toNat = pu + pre.length from rfl, h7]
        omega
      have eapp : evB n i row (rV M) 0 = if (t : Int) ≤ W 8 i then evB n i l (nxB n i W t) (w + caB n i W t * W 6 (i * 5 + mV W)) else none := by
        rw [hr, evB_app _ _ _ _ _ hev, ← hW]
        rfl
      have e6 : (6 + (i : Int)).toNat = 6 + i := by omega
      have st36 : am_At Γ (d + 5) n_M_tryOne 36 [some (.inr (.inr (0, 41))), some (.inl (i : Int)), some (.inl (many : Int)), some (.inl (100 + w)), some (.inl (pre.length : Int)), some (.inl (mV W : Int))] [] M1 (fun r M' => r = some (.inl (rsB (evB n i row (rV M) 0))) ∧ rF M M') := by
        refine am_go 60 [10, 81] (by decide) ?_
        refine And.intro ⟨(by first | omega | (dsimp only [am_own]; omega)), (by first | omega | (dsimp only [am_own]; omega))⟩ ?_
        refine And.intro ⟨(by first | omega | (dsimp only [am_own]; omega)), (by first | omega | (dsimp only [am_own]; omega))⟩ ?_
        refine And.intro ⟨(show am_R (M1.1 0 55 pre.length) from ⟨by omega, by omega⟩), am_Re (show M1.1 0 47 (6 + (i : Int)).toNat = W 8 i by rw [e6]; exact e8) ⟨by omega, by omega⟩⟩ (And.intro (fun h => ?_) (fun h => ?_))
        · have h : M1.1 0 47 (6 + (i : Int)).toNat < M1.1 0 55 pre.length := h
          rw [e6, e8, e55] at h
          rw [if_neg (by omega)] at eapp
          refine am_go 60 [112] (by decide) ?_
          refine And.intro ⟨⟨by omega, by omega⟩, ⟨(by first | omega | (dsimp only [am_own]; omega)), (by first | omega | (dsimp only [am_own]; omega))⟩⟩ (And.intro (fun _ => ?_) (fun _ => fin _ _ _ M1 hps (by rw [eapp]; rfl)))
          refine And.intro ⟨⟨(by first | omega | (dsimp only [am_own]; omega)), (by first | omega | (dsimp only [am_own]; omega))⟩, ⟨(by first | omega | (dsimp only [am_own]; omega)), (by first | omega | (dsimp only [am_own]; omega))⟩⟩ (And.intro (fun _ => fin _ _ _ M1 hps (by rw [eapp]; rfl)) (fun h3 => absurd rfl h3))
        · have h : ¬ M1.1 0 47 (6 + (i : Int)).toNat < M1.1 0 55 pre.length := h
          rw [e6, e8, e55] at h
          rw [if_pos (by omega)] at eapp
          have e12 : (12 + 5 * (i : Int) + (mV W : Int)).toNat = 12 + (i * 5 + mV W) := by omega
          have st81 : ∀ (M2 : Am_M), M2 = am_set M1 0 47 (12 + (i * 5 + mV W)) (t : Int) → am_At Γ (d + 5) n_M_tryOne 81 [some (.inr (.inr (0, 41))), some (.inl (i : Int)), some (.inl (many : Int)), some (.inl (100 + w)), some (.inl (pre.length : Int)), some (.inl (mV W : Int))] [] M2 (fun r M' => r = some (.inl (rsB (evB n i row (rV M) 0))) ∧ rF M M') := by
            intro M2 hM2
            have hps2 : psame MA M2 := by rw [hM2]; exact hps.setN
            have g47 : ∀ k, k ≠ 12 + (i * 5 + mV W) → M2.1 0 47 k = M1.1 0 47 k := fun k hk => by rw [hM2, set_k hk]
            have gp : ∀ p k, p ≠ 47 → M2.1 0 p k = M1.1 0 p k := fun p k hp => by rw [hM2, set_p hp]
            have hv2 : veq n mt (rV M2) (tS W i (mV W) t) := by
              obtain ⟨q1, q2, q3, q4⟩ := hv
              refine ⟨fun k hk => ?_, fun j hj => ?_, fun m2 hm2 => ⟨(gp 43 m2 (by omega)).trans (q3 m2 hm2).1, (g47 _ (by omega)).trans (q3 m2 hm2).2⟩, fun j m2 hj hm2 => ⟨(gp 44 _ (by omega)).trans (q4 j m2 hj hm2).1, ?_⟩⟩
              · have := q1 k hk
                rcases (show k = 0 ∨ k = 1 ∨ k = 2 ∨ k = 3 by omega) with rfl | rfl | rfl | rfl
                · exact (gp 41 0 (by omega)).trans this
                · exact (gp 41 2 (by omega)).trans this
                · exact (gp 41 5 (by omega)).trans this
                · exact (g47 0 (by omega)).trans this
              · obtain ⟨z1, z2, z3, z4, z5⟩ := q2 j hj
                refine ⟨?_, ?_, ?_, (gp 42 _ (by omega)).trans z4, (g47 _ (by omega)).trans z5⟩
                · refine Eq.trans ?_ z1
                  show mkd M2 j = mkd M1 j
                  unfold mkd
                  rw [gp 41 30 (by omega), gp 42 _ (by omega)]
                · refine Eq.trans ?_ z2
                  show (if M2.1 0 41 31 = 1 then 99 else M2.1 0 42 (j * 4 + 1)) = if M1.1 0 41 31 = 1 then 99 else M1.1 0 42 (j * 4 + 1)
                  rw [gp 41 31 (by omega), gp 42 _ (by omega)]
                · refine Eq.trans ?_ z3
                  show (if M2.1 0 41 31 = 1 then 0 else M2.1 0 42 (j * 4 + 2)) = if M1.1 0 41 31 = 1 then 0 else M1.1 0 42 (j * 4 + 2)
                  rw [gp 41 31 (by omega), gp 42 _ (by omega)]
              · show M2.1 0 47 (12 + (j * 5 + m2)) = tS W i (mV W) t 9 (j * 5 + m2)
                by_cases q : j * 5 + m2 = i * 5 + mV W
                · rw [q, tS_e, hM2]; exact set_eq
                · rw [tS_n _ _ _ _ _ q, g47 _ (by omega)]; exact (q4 j m2 hj hm2).2
            have hwT : wfV (tS W i (mV W) t) n mt := tS_wf hWv (by omega)
            have hM2w : wfM M2 n mt := wfM_view hMA hps2 hv2 hwT
            have e72 : M2.1 0 47 0 = ((pu + pre.length : Nat) : Int) := (g47 0 (by omega)).trans e70
            refine am_go 60 [10] (by decide) ?_
            refine am_by (c_putNextV (d := d) hM2w (by omega) (by omega)) (by omega) ?_
            rintro r M4 ⟨rfl, ⟨M3, hI, rfl⟩, hv4⟩
            have hw2 : wfV (rV M2) n mt := veq_wf hv2.symm hwT
            have hlt2 : rV M2 0 3 < mt := by show M2.1 0 47 0 < mt; omega
            have ecar : carV (rV M2) n = caB n i W t := carV_congr hv2 hw2 hlt2
            have hv4' : veq n mt (rV (am_set M3 0 47 0 (M2.1 0 47 0 + 1))) (nxB n i W t) := hv4.tr (voteV_congr hv2 hw2 hlt2)
            have hps4 : psame MA (am_set M3 0 47 0 (M2.1 0 47 0 + 1)) := hps2.tr (pn_ps hI)
            have hwn : wfV (nxB n i W t) n mt := nxB_wf hWv hWp hi (by omega)
            have hM4 : wfM (am_set M3 0 47 0 (M2.1 0 47 0 + 1)) n mt := wfM_view hMA hps4 hv4' hwn
            have hevt : evB n i (pre ++ [t]) (rV M) 0 = some (w + caB n i W t * W 6 (i * 5 + mV W)) := by
              rw [evB_app _ _ _ _ _ hev, ← hW]
              show (if (t : Int) ≤ W 8 i then some (w + caB n i W t * W 6 (i * 5 + mV W)) else none) = _
              rw [if_pos (by omega)]
            have hvt : veq n mt (rV (am_set M3 0 47 0 (M2.1 0 47 0 + 1))) (vwB n i (pre ++ [t]) (rV M)) := by rw [vwB_app, ← hW]; exact hv4'
            have go := fun (z : Option Am_V) => ih (pre ++ [t]) (w + caB n i W t * W 6 (i * 5 + mV W)) z (am_set M3 0 47 0 (M2.1 0 47 0 + 1)) (by rw [hr, List.append_assoc]; rfl) hevt hps4 hM4 hvt
            rw [List.length_append, List.length_singleton] at go
            rw [ecar]
            rcases caB_01 n i W t with q | q
            · rw [q] at go ⊢
              refine And.intro ⟨(by first | omega | (dsimp only [am_own]; omega)), (by first | omega | (dsimp only [am_own]; omega))⟩ (And.intro (fun _ => ?_) (fun h => absurd rfl h))
              rw [Int.zero_mul, Int.add_zero, show 100 + w = 100 + w + 0 by omega] at go
              exact go _
            · rw [q] at go ⊢
              refine And.intro ⟨(by first | omega | (dsimp only [am_own]; omega)), (by first | omega | (dsimp only [am_own]; omega))⟩ (And.intro (fun h => absurd h (by decide)) (fun _ => ?_))
              have e44 : (am_set M3 0 47 0 (M2.1 0 47 0 + 1)).1 0 44 (5 * (i : Int) + (mV W : Int)).toNat = W 6 (i * 5 + mV W) := by
                rw [show (5 * (i : Int) + (mV W : Int)).toNat = i * 5 + mV W by omega, (pn_ps hI).2.1 0 44 _ (by omega) (by omega) (by omega), gp 44 _ (by omega)]
                exact (hv.2.2.2 i (mV W) hi hWm).1
              refine And.intro ⟨(by first | omega | (dsimp only [am_own]; omega)), (by first | omega | (dsimp only [am_own]; omega))⟩ ?_
              rw [Int.one_mul, ← e44, show 100 + (w + (am_set M3 0 47 0 (M2.1 0 47 0 + 1)).1 0 44 (5 * (i : Int) + (mV W : Int)).toNat) = 100 + w + (am_set M3 0 47 0 (M2.1 0 47 0 + 1)).1 0 44 (5 * (i : Int) + (mV W : Int)).toNat by omega] at go
              exact go _
          refine And.intro ⟨(by first | omega | (dsimp only [am_own]; omega)), (by first | omega | (dsimp only [am_own]; omega))⟩ ?_
          refine And.intro (show 0 ≤ 12 + 5 * (i : Int) + (mV W : Int) ∧ 12 + 5 * (i : Int) + (mV W : Int) < 92 from ⟨by omega, by omega⟩) ?_
          refine st81 _ ?_
          show am_set M1 0 47 (12 + 5 * (i : Int) + (mV W : Int)).toNat (M1.1 0 55 pre.length) = _
          rw [e12, e55]
      refine am_go 60 [36] (by decide) ?_
      refine And.intro ⟨⟨(by first | omega | (dsimp only [am_own]; omega)), (by first | omega | (dsimp only [am_own]; omega))⟩, ⟨(by first | omega | (dsimp only [am_own]; omega)), (by first | omega | (dsimp only [am_own]; omega))⟩⟩ (And.intro (fun h => ?_) (fun h => ?_))
      rotate_left
      · exfalso; omega
      refine And.intro ⟨⟨by omega, by omega⟩, ⟨(by first | omega | (dsimp only [am_own]; omega)), (by first | omega | (dsimp only [am_own]; omega))⟩⟩ (And.intro (fun h2 => ?_) (fun h2 => ?_))
      · exfalso
        have h2 : 100 + w = -1 := h2
        omega
      refine And.intro ⟨(by first | omega | (dsimp only [am_own]; omega)), (by first | omega | (dsimp only [am_own]; omega))⟩ ?_
      refine And.intro (show 0 ≤ 1 + M1.1 0 47 0 ∧ 1 + M1.1 0 47 0 < 92 from ⟨by omega, by omega⟩) ?_
      rw [← em] at st36
      exact st36
  exact loop row [] 0 none MA rfl rfl psame.rf hMA hvA
