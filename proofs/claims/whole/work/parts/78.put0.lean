/-! orders: what both seek -/
def carM (V : Vw) (n m : Nat) : Int := vt_carI (V 5 m) (vR V n m).2.1 (vR V n m).2.2.1
def vtm (V : Vw) (n m : Nat) : Vw := fun c k => if c = 0 ∧ k = 3 then V 0 3 + 1 else if c = 8 then clL (V 8 k) ((vR V n m).1 k) (V 3 k) (V 2 k) else V c k
theorem carV_M (V : Vw) (n : Nat) : carV V n = carM V n (mV V) := rfl
theorem voteV_M (V : Vw) (n : Nat) : voteV V n = vtm V n (mV V) := rfl
theorem carM_01 (V : Vw) (n m : Nat) : carM V n m = 0 ∨ carM V n m = 1 := vt_carI_01 _ _ _
def swO (V : Vw) (o : Nat → Int) : Vw := fun c k => if c = 7 then o k else V c k
theorem swO_car (V : Vw) (o : Nat → Int) (n m : Nat) : carM (swO V o) n m = carM V n m := rfl
theorem swO_vtm (V : Vw) (o : Nat → Int) (n m : Nat) : vtm (swO V o) n m = swO (vtm V n m) o := by
  funext c k
  by_cases q : c = 7
  · subst q; rfl
  · show vtm (swO V o) n m c k = if c = 7 then o k else vtm V n m c k
    rw [if_neg q]
    unfold vtm
    by_cases q1 : c = 0 ∧ k = 3
    · rw [if_pos q1, if_pos q1]; rfl
    · rw [if_neg q1, if_neg q1]
      by_cases q2 : c = 8
      · rw [if_pos q2, if_pos q2]; rfl
      · rw [if_neg q2, if_neg q2]
        show (if c = 7 then o k else V c k) = V c k
        rw [if_neg q]
theorem carM_congr {n mt m : Nat} {V V' : Vw} (h : veq n mt V V') (hm : m < mt) : carM V n m = carM V' n m := by
  have hR := vR_congr h hm
  unfold carM
  rw [(h.2.2.1 _ hm).1, hR.1]
theorem vtm_congr {n mt m : Nat} {V V' : Vw} (h : veq n mt V V') (hm : m < mt) : veq n mt (vtm V n m) (vtm V' n m) := by
  have hR := vR_congr h hm
  refine ⟨fun k hk => ?_, fun i hi => ?_, fun m2 hm2 => ?_, fun i m2 hi hm2 => ?_⟩
  · by_cases q : k = 3
    · subst q
      show V 0 3 + 1 = V' 0 3 + 1
      rw [h.1 3 (by omega)]
    · have hx : ∀ W : Vw, vtm W n m 0 k = W 0 k := fun W => by
        unfold vtm
        rw [if_neg (fun z => q z.2), if_neg (by omega)]
      exact (hx V).trans ((h.1 k hk).trans (hx V').symm)
  · obtain ⟨a, b, c, d, e5⟩ := h.2.1 i hi
    refine ⟨a, b, c, d, ?_⟩
    show clL (V 8 i) ((vR V n m).1 i) (V 3 i) (V 2 i) = clL (V' 8 i) ((vR V' n m).1 i) (V' 3 i) (V' 2 i)
    rw [hR.2 i hi, b, c, e5]
  · exact h.2.2.1 m2 hm2
  · exact h.2.2.2 i m2 hi hm2
/-- all of a set in a list are carried -/
def okL (set : Int) (n : Nat) : List Nat → Vw → Prop
  | [], _ => True
  | m :: l, V => (carM V n m = 1 ∨ bt set m = false) ∧ okL set n l (vtm V n m)
def viewW (n : Nat) : List Nat → Vw → Vw
  | [], V => V
  | m :: w, V => viewW n w (vtm V n m)
theorem okL_app (set : Int) (n : Nat) : ∀ (w l : List Nat) (V : Vw), okL set n (w ++ l) V ↔ okL set n w V ∧ okL set n l (viewW n w V)
  | [], l, V => by
    show okL set n l V ↔ True ∧ okL set n l V
    exact ⟨fun h => ⟨trivial, h⟩, fun h => h.2⟩
  | m :: w, l, V => by
    have ih := okL_app set n w l (vtm V n m)
    show ((carM V n m = 1 ∨ bt set m = false) ∧ okL set n (w ++ l) (vtm V n m)) ↔ ((carM V n m = 1 ∨ bt set m = false) ∧ okL set n w (vtm V n m)) ∧ okL set n l (viewW n w (vtm V n m))
    rw [ih]
    exact ⟨fun h => ⟨⟨h.1, h.2.1⟩, h.2.2⟩, fun h => ⟨h.1.1, h.1.2, h.2⟩⟩
theorem viewW_app (n : Nat) : ∀ (w l : List Nat) (V : Vw), viewW n (w ++ l) V = viewW n l (viewW n w V)
  | [], _, _ => rfl
  | m :: w, l, V => viewW_app n w l (vtm V n m)
theorem okL_congr {set : Int} {n mt : Nat} : ∀ (l : List Nat) (V V' : Vw) (o : Nat → Int), veq n mt V (swO V' o) → (∀ m, m ∈ l → m < mt) → (okL set n l V ↔ okL set n l V')
  | [], _, _, _, _, _ => Iff.rfl
  | m :: l, V, V', o, h, hl => by
    have hm := hl m (List.mem_cons_self ..)
    have e1 : carM V n m = carM V' n m := (carM_congr h hm).trans (swO_car V' o n m)
    have h2 : veq n mt (vtm V n m) (swO (vtm V' n m) o) := by rw [← swO_vtm]; exact vtm_congr h hm
    show ((carM V n m = 1 ∨ bt set m = false) ∧ okL set n l (vtm V n m)) ↔ ((carM V' n m = 1 ∨ bt set m = false) ∧ okL set n l (vtm V' n m))
    rw [e1, okL_congr l _ _ o h2 (fun x hx => hl x (List.mem_cons_of_mem _ hx))]
/-- which are carried -/
def carB (n : Nat) : List Nat → Vw → Nat → Prop
  | [], _, _ => False
  | m :: l, V, b => (b = m ∧ carM V n m = 1) ∨ carB n l (vtm V n m) b
theorem carB_mem {n : Nat} : ∀ (l : List Nat) (V : Vw) (b : Nat), carB n l V b → b ∈ l
  | [], _, _, h => h.elim
  | m :: l, V, b, h => by
    rcases h with ⟨rfl, -⟩ | h
    · exact List.mem_cons_self ..
    · exact List.mem_cons_of_mem _ (carB_mem l _ b h)
theorem carB_ok {set : Int} {n : Nat} : ∀ (l : List Nat) (V : Vw), l.Nodup → ((∀ b, b ∈ l → bt set b = true → carB n l V b) ↔ okL set n l V)
  | [], _, _ => ⟨fun _ => trivial, fun _ b hb => by cases hb⟩
  | m :: l, V, hn => by
    obtain ⟨hm, hl⟩ := List.nodup_cons.mp hn
    have ih := carB_ok (set := set) (n := n) l (vtm V n m) hl
    constructor
    · intro h
      refine ⟨?_, ih.mp (fun b hb hs => ?_)⟩
      · cases hs : bt set m with
        | false => exact Or.inr rfl
        | true =>
          rcases h m (List.mem_cons_self ..) hs with ⟨-, h1⟩ | h1
          · exact Or.inl h1
          · exact absurd (carB_mem l _ m h1) hm
      · rcases h b (List.mem_cons_of_mem _ hb) hs with ⟨rfl, -⟩ | h1
        · exact absurd hb hm
        · exact h1
    · rintro ⟨h1, h2⟩ b hb hs
      rcases List.mem_cons.mp hb with rfl | hb
      · rcases h1 with h1 | h1
        · exact Or.inl ⟨rfl, h1⟩
        · rw [hs] at h1; cases h1
      · exact Or.inr (ih.mpr h2 b hb hs)
/-- the matters from a place on -/
def cmL (o : Nat → Int) : Nat → Nat → List Nat
  | _, 0 => []
  | p, k + 1 => (o p).toNat :: cmL o (p + 1) k
theorem cmL_len (o : Nat → Int) : ∀ k p, (cmL o p k).length = k
  | 0, _ => rfl
  | k + 1, p => by rw [cmL, List.length_cons, cmL_len o k]
theorem cmL_congr {o o' : Nat → Int} : ∀ k p, (∀ j, p ≤ j → j < p + k → o j = o' j) → cmL o p k = cmL o' p k
  | 0, _, _ => rfl
  | k + 1, p, h => by rw [cmL, cmL, h p (Nat.le_refl p) (by omega), cmL_congr k (p + 1) (fun j a b => h j (by omega) (by omega))]
theorem cmL_at (o : Nat → Int) : ∀ k p j, j < k → (cmL o p k)[j]? = some (o (p + j)).toNat
  | 0, _, j, h => absurd h (Nat.not_lt_zero j)
  | k + 1, p, 0, _ => rfl
  | k + 1, p, j + 1, h => by
    rw [cmL, List.getElem?_cons_succ, cmL_at o k (p + 1) j (by omega), show p + 1 + j = p + (j + 1) by omega]
theorem cmL_mem {o : Nat → Int} {m : Nat} : ∀ k p, m ∈ cmL o p k ↔ ∃ j, p ≤ j ∧ j < p + k ∧ (o j).toNat = m
  | 0, p => ⟨fun h => absurd h List.not_mem_nil, fun ⟨j, a, b, _⟩ => by omega⟩
  | k + 1, p => by
    rw [cmL, List.mem_cons, cmL_mem k (p + 1)]
    constructor
    · rintro (rfl | ⟨j, a, b, c⟩)
      · exact ⟨p, Nat.le_refl p, by omega, rfl⟩
      · exact ⟨j, by omega, by omega, c⟩
    · rintro ⟨j, a, b, c⟩
      by_cases q : j = p
      · subst q; exact Or.inl c.symm
      · exact Or.inr ⟨j, by omega, by omega, c⟩
theorem permO_inj {o : Nat → Int} {mt : Nat} (h : permO o mt) (hb : ∀ k, k < mt → 0 ≤ o k ∧ o k < mt) : ∀ a b, a < mt → b < mt → o a = o b → a = b := by
  have hp := pig (c := List.range mt) (l := cmL o 0 mt) List.nodup_range (by rw [cmL_len, List.length_range]) (fun m hm => by
    obtain ⟨k, hk, he⟩ := h m (List.mem_range.mp hm)
    exact (cmL_mem mt 0).mpr ⟨k, Nat.zero_le k, by omega, by rw [he]; rfl⟩)
  have hpw := List.pairwise_iff_getElem.mp hp.1
  have hg : ∀ j (hj : j < (cmL o 0 mt).length), (cmL o 0 mt)[j] = (o j).toNat := fun j hj => by
    rw [cmL_len] at hj
    have h1 := cmL_at o mt 0 j hj
    rw [Nat.zero_add] at h1
    exact (List.getElem?_eq_some_iff.mp h1).2
  intro a b ha hbm he
  have hla : a < (cmL o 0 mt).length := by rw [cmL_len]; exact ha
  have hlb : b < (cmL o 0 mt).length := by rw [cmL_len]; exact hbm
  rcases Nat.lt_trichotomy a b with q | q | q
  · have := hpw a b hla hlb q
    rw [hg a hla, hg b hlb, he] at this
    exact absurd rfl this
  · exact q
  · have := hpw b a hlb hla q
    rw [hg a hla, hg b hlb, he] at this
    exact absurd rfl this
/-- those to come are those not put -/
theorem cm_iff {o : Nat → Int} {mt pu : Nat} (h : permO o mt) (hb : ∀ k, k < mt → 0 ≤ o k ∧ o k < mt) (hp : pu ≤ mt) (m : Nat) : m ∈ cmL o pu (mt - pu) ↔ m < mt ∧ ∀ j, j < pu → o j ≠ m := by
  rw [cmL_mem]
  constructor
  · rintro ⟨j, a, b, c⟩
    have hj := hb j (by omega)
    refine ⟨by omega, fun i hi he => ?_⟩
    have := permO_inj h hb i j (by omega) (by omega) (by omega)
    omega
  · rintro ⟨hm, hn⟩
    obtain ⟨k, hk, he⟩ := h m hm
    have : pu ≤ k := by
      rcases Nat.lt_or_ge k pu with q | q
      · exact absurd he (hn k q)
      · exact q
    exact ⟨k, this, by omega, by rw [he]; rfl⟩
theorem cm_nodup {o : Nat → Int} {mt pu : Nat} (h : permO o mt) (hb : ∀ k, k < mt → 0 ≤ o k ∧ o k < mt) (hp : pu ≤ mt) : (cmL o pu (mt - pu)).Nodup := by
  have hinj := permO_inj h hb
  refine List.pairwise_iff_getElem.mpr (fun i j hi hj hij => ?_)
  have hg : ∀ j (hj : j < (cmL o pu (mt - pu)).length), (cmL o pu (mt - pu))[j] = (o (pu + j)).toNat := fun j hj => by
    rw [cmL_len] at hj
    exact (List.getElem?_eq_some_iff.mp (cmL_at o (mt - pu) pu j hj)).2
  rw [hg i hi, hg j hj]
  rw [cmL_len] at hi hj
  intro he
  have h1 := hb (pu + i) (by omega)
  have h2 := hb (pu + j) (by omega)
  have := hinj (pu + i) (pu + j) (by omega) (by omega) (by omega)
  omega
/-- a row of matters that is as it must be -/
def goodP (set : Int) (n : Nat) (V : Vw) (cm l : List Nat) : Prop := (∀ m, m ∈ l ↔ m ∈ cm) ∧ okL set n l V
/-- the bits of all that come -/
theorem carL_bt {n mt : Nat} : ∀ (k : Nat) (acc : Int) (V : Vw) (p : Nat), wfV V n mt → V 0 3 = p → p + k ≤ mt → ∀ b, b < 32 → (bt (carL n k acc V) b = true ↔ bt acc b = true ∨ carB n (cmL (V 7) p k) V b)
  | 0, acc, V, p, _, _, _, b, _ => ⟨Or.inl, fun h => h.elim id (fun z => z.elim)⟩
  | k + 1, acc, V, p, hV, h3, hp, b, hb => by
    have hp1 : V 0 3 < mt := by omega
    have hm := mV_lt hV hp1
    have h5 := hV.1.2.2.2.1
    have em : V 7 (V 0 3).toNat = (mV V : Int) := by
      have := (hV.2.2.2.1 (V 0 3).toNat (by omega)).2
      unfold mV
      omega
    have em2 : (V 7 p).toNat = mV V := by unfold mV; rw [h3]; rfl
    have ih := carL_bt k (am_or acc (am_shl (carV V n) (V 7 (V 0 3).toNat))) (voteV V n) (p + 1) (voteV_wf hV hp1) (by rw [voteV_03, h3]; rfl) (by omega) b hb
    rw [carL, ih, bt_or, em]
    have e7 : voteV V n 7 = V 7 := rfl
    rw [e7, cmL, em2]
    show _ ↔ bt acc b = true ∨ ((b = mV V ∧ carM V n (mV V) = 1) ∨ carB n (cmL (V 7) (p + 1) k) (voteV V n) b)
    have hc : bt (am_shl (carV V n) (mV V : Int)) b = true ↔ (b = mV V ∧ carM V n (mV V) = 1) := by
      rw [carV_M]
      rcases carM_01 V n (mV V) with q | q
      · rw [q, am_shl_0, bt_0]
        exact ⟨fun z => absurd z Bool.false_ne_true, fun z => by omega⟩
      · rw [q, bt_shl1 (mV V) (by omega) b hb]
        exact ⟨fun z => ⟨of_decide_eq_true z, rfl⟩, fun z => decide_eq_true z.1⟩
    rw [Bool.or_eq_true, hc]
    exact ⟨fun h => h.elim (fun h => h.elim Or.inl (fun h => Or.inr (Or.inl h))) (fun h => Or.inr (Or.inr h)), fun h => h.elim (fun h => Or.inl (Or.inl h)) (fun h => h.elim (fun h => Or.inl (Or.inr h)) Or.inr)⟩
