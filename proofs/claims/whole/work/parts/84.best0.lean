/-! a vote's outcome, by what is wanted -/
theorem vt_sum_mono {f g : Nat → Int} : ∀ n : Nat, (∀ i, i < n → f i ≤ g i) → vt_sum f n ≤ vt_sum g n
  | 0, _ => Int.le_refl _
  | n + 1, h => by
    have h1 := vt_sum_mono (f := f) (g := g) n (fun i hi => h i (by omega))
    have h2 := h n (by omega)
    show vt_sum f n + f n ≤ vt_sum g n + g n
    omega
theorem vt_sum_add {f g : Nat → Int} : ∀ n : Nat, vt_sum f n + vt_sum g n = vt_sum (fun i => f i + g i) n
  | 0 => rfl
  | n + 1 => by
    have h1 := vt_sum_add (f := f) (g := g) n
    show (vt_sum f n + f n) + (vt_sum g n + g n) = vt_sum (fun i => f i + g i) n + (f n + g n)
    omega
theorem vt_sum_0 : ∀ n : Nat, vt_sum (fun _ => 0) n = 0
  | 0 => rfl
  | n + 1 => by
    show vt_sum (fun _ => 0) n + 0 = 0
    rw [vt_sum_0 n]
    rfl
theorem car_mono {need f a f' a' : Int} (hn : 1 ≤ need ∧ need ≤ 9) (h : need * (f + a) < 10 * f) (hf : f ≤ f') (ha : a' ≤ a) : need * (f' + a') < 10 * f' := by
  rcases (show need = 1 ∨ need = 2 ∨ need = 3 ∨ need = 4 ∨ need = 5 ∨ need = 6 ∨ need = 7 ∨ need = 8 ∨ need = 9 by omega) with rfl | rfl | rfl | rfl | rfl | rfl | rfl | rfl | rfl <;> omega
theorem carI_mono {need f a f' a' : Int} (hn : 1 ≤ need ∧ need ≤ 9) (hf : f ≤ f') (ha : a' ≤ a) : vt_carI need f a ≤ vt_carI need f' a' := by
  unfold vt_carI
  by_cases q : need * (f + a) < 10 * f
  · rw [if_pos q, if_pos (car_mono hn q hf ha)]
    exact Int.le_refl _
  · rw [if_neg q]
    split <;> omega
/-- what those up still want -/
def remS (b : Int) (w fr ct : Nat → Int) (up held : Nat → Int) (n : Nat) : Int := vt_sum (fun i => if up i = 1 ∧ fr i = b then ct i * (w i - held i) else 0) n
theorem remS_step {b : Int} {w fr ct up up' held : Nat → Int} {n : Nat} (hct : ∀ i, i < n → 0 ≤ ct i) (hw : ∀ i, i < n → held i ≤ w i) (hup : ∀ i, i < n → (up' i = 0 ∨ up' i = 1) ∧ (up' i = 1 → up i = 1)) : vt_add b up' fr ct n + remS b w fr ct up' (fun i => held i + up' i) n ≤ remS b w fr ct up held n := by
  unfold vt_add remS
  rw [vt_sum_add]
  refine vt_sum_mono n (fun i hi => ?_)
  try dsimp only
  obtain ⟨h1, h2⟩ := hup i hi
  have hp : 0 ≤ ct i * (w i - held i) := Int.mul_nonneg (hct i hi) (by have := hw i hi; omega)
  by_cases q : up' i = 1 ∧ fr i = b
  · rw [if_pos q, if_pos q, if_pos ⟨h2 q.1, q.2⟩, q.1, show w i - (held i + 1) = (w i - held i) - 1 by omega, Int.mul_sub, Int.mul_one]
    omega
  · rw [if_neg q, if_neg q]
    by_cases q2 : up i = 1 ∧ fr i = b
    · rw [if_pos q2]; omega
    · rw [if_neg q2]; omega
theorem remS_eq {b : Int} {w fr ct up up' held : Nat → Int} {n : Nat} (hw : ∀ i, i < n → held i ≤ w i) (hup : ∀ i, i < n → up' i = if up i = 1 ∧ held i < w i then 1 else 0) : vt_add b up' fr ct n + remS b w fr ct up' (fun i => held i + up' i) n = remS b w fr ct up held n := by
  unfold vt_add remS
  rw [vt_sum_add]
  refine vt_sum_congr n (fun i hi => ?_)
  try dsimp only
  have h1 := hup i hi
  have h2 := hw i hi
  by_cases q : up i = 1 ∧ held i < w i
  · rw [if_pos q] at h1
    by_cases q2 : fr i = b
    · rw [if_pos ⟨h1, q2⟩, if_pos ⟨h1, q2⟩, if_pos ⟨q.1, q2⟩, h1, show w i - (held i + 1) = (w i - held i) - 1 by omega, Int.mul_sub, Int.mul_one]
      omega
    · rw [if_neg (fun z => q2 z.2), if_neg (fun z => q2 z.2), if_neg (fun z => q2 z.2)]
      rfl
  · rw [if_neg q] at h1
    rw [if_neg (fun z => by omega), if_neg (fun z => by omega)]
    by_cases q2 : up i = 1 ∧ fr i = b
    · rw [if_pos q2, show w i - held i = 0 by omega, Int.mul_zero]
      rfl
    · rw [if_neg q2]
      rfl
theorem remS_b {b : Int} {w fr ct up held : Nat → Int} {n : Nat} (hct : ∀ i, i < n → 0 ≤ ct i) (hw : ∀ i, i < n → held i ≤ w i) : 0 ≤ remS b w fr ct up held n := by
  have := vt_sum_mono (f := fun _ => 0) (g := fun i => if up i = 1 ∧ fr i = b then ct i * (w i - held i) else 0) n (fun i hi => by
    try dsimp only
    split
    · exact Int.mul_nonneg (hct i hi) (by have := hw i hi; omega)
    · exact Int.le_refl _)
  rw [vt_sum_0] at this
  exact this
theorem remS_more {b : Int} {w fr ct lf up held : Nat → Int} {n : Nat} (hct : ∀ i, i < n → 0 ≤ ct i) (hl : ∀ i, i < n → w i ≤ lf i) : remS b w fr ct up held n ≤ vt_more b up fr ct lf held n := by
  unfold remS vt_more
  refine vt_sum_mono n (fun i hi => ?_)
  try dsimp only
  split
  · exact Int.mul_le_mul_of_nonneg_left (by have := hl i hi; omega) (hct i hi)
  · exact Int.le_refl _
theorem go_succ {n : Nat} {need : Int} {w fr kd ct lf : Nat → Int} (k : Nat) (sec : Int) (held up : Nat → Int) (f a set : Int) : ∃ set', set' = (if set = -1 ∧ vt_setI need f a up fr ct lf held n = 1 then sec else set) ∧ vt_go n need w fr kd ct lf (k + 1) sec held up f a set = if vt_some (vt_up set' w kd held up) n = 1 then vt_go n need w fr kd ct lf k (sec + 1) (fun i => held i + vt_up set' w kd held up i) (vt_up set' w kd held up) (f + vt_add 1 (vt_up set' w kd held up) fr ct n) (a + vt_add 0 (vt_up set' w kd held up) fr ct n) set' else (held, f, a, sec - 1, set') := ⟨_, rfl, rfl⟩
theorem go_range {n : Nat} {need : Int} {w fr kd ct lf : Nat → Int} (hct : ∀ i, i < n → 0 ≤ ct i) : ∀ (k : Nat) (sec : Int) (held up : Nat → Int) (f a set : Int), (∀ i, i < n → held i ≤ w i) → (f ≤ (vt_go n need w fr kd ct lf k sec held up f a set).2.1 ∧ (vt_go n need w fr kd ct lf k sec held up f a set).2.1 ≤ f + remS 1 w fr ct up held n) ∧ (a ≤ (vt_go n need w fr kd ct lf k sec held up f a set).2.2.1 ∧ (vt_go n need w fr kd ct lf k sec held up f a set).2.2.1 ≤ a + remS 0 w fr ct up held n)
  | 0, sec, held, up, f, a, set, hw => by
    have r1 := remS_b (b := 1) (fr := fr) (up := up) hct hw
    have r0 := remS_b (b := 0) (fr := fr) (up := up) hct hw
    refine ⟨⟨Int.le_refl _, ?_⟩, ⟨Int.le_refl _, ?_⟩⟩
    · show f ≤ f + _
      omega
    · show a ≤ a + _
      omega
  | k + 1, sec, held, up, f, a, set, hw => by
    obtain ⟨set', -, hgo⟩ := go_succ (n := n) (need := need) (w := w) (fr := fr) (kd := kd) (ct := ct) (lf := lf) k sec held up f a set
    rw [hgo]
    have r1 := remS_b (b := 1) (fr := fr) (up := up) hct hw
    have r0 := remS_b (b := 0) (fr := fr) (up := up) hct hw
    by_cases q : vt_some (vt_up set' w kd held up) n = 1
    · rw [if_pos q]
      have hd : ∀ i, vt_up set' w kd held up i = if up i = 1 ∧ held i < w i ∧ ¬ (set' ≠ -1 ∧ kd i = 1) then 1 else 0 := fun i => rfl
      have hup : ∀ i, i < n → (vt_up set' w kd held up i = 0 ∨ vt_up set' w kd held up i = 1) ∧ (vt_up set' w kd held up i = 1 → up i = 1) := fun i hi => by
        rw [hd]
        by_cases z : up i = 1 ∧ held i < w i ∧ ¬ (set' ≠ -1 ∧ kd i = 1)
        · rw [if_pos z]; exact ⟨Or.inr rfl, fun _ => z.1⟩
        · rw [if_neg z]; exact ⟨Or.inl rfl, fun y => absurd y (by decide)⟩
      have hw' : ∀ i, i < n → held i + vt_up set' w kd held up i ≤ w i := fun i hi => by
        have h1 := hw i hi
        rw [hd]
        by_cases z : up i = 1 ∧ held i < w i ∧ ¬ (set' ≠ -1 ∧ kd i = 1)
        · rw [if_pos z]; omega
        · rw [if_neg z]; omega
      have s1 := remS_step (b := 1) (fr := fr) hct hw hup
      have s0 := remS_step (b := 0) (fr := fr) hct hw hup
      have a1 : 0 ≤ vt_add 1 (vt_up set' w kd held up) fr ct n := by
        have := vt_sum_mono (f := fun _ => 0) (g := fun i => if vt_up set' w kd held up i = 1 ∧ fr i = 1 then ct i else 0) n (fun i hi => by
          try dsimp only
          split
          · exact hct i hi
          · exact Int.le_refl _)
        rw [vt_sum_0] at this
        exact this
      have a0 : 0 ≤ vt_add 0 (vt_up set' w kd held up) fr ct n := by
        have := vt_sum_mono (f := fun _ => 0) (g := fun i => if vt_up set' w kd held up i = 1 ∧ fr i = 0 then ct i else 0) n (fun i hi => by
          try dsimp only
          split
          · exact hct i hi
          · exact Int.le_refl _)
        rw [vt_sum_0] at this
        exact this
      obtain ⟨⟨g1, g2⟩, ⟨g3, g4⟩⟩ := go_range (need := need) (fr := fr) (kd := kd) (lf := lf) hct k (sec + 1) (fun i => held i + vt_up set' w kd held up i) (vt_up set' w kd held up) (f + vt_add 1 (vt_up set' w kd held up) fr ct n) (a + vt_add 0 (vt_up set' w kd held up) fr ct n) set' hw'
      omega
    · rw [if_neg q]
      try dsimp only
      omega
/-- the outcome is that of all that is wanted -/
theorem go_car {n : Nat} {need : Int} {w fr kd ct lf : Nat → Int} (hn : 1 ≤ need ∧ need ≤ 9) (hct : ∀ i, i < n → 0 ≤ ct i) (hl : ∀ i, i < n → w i ≤ lf i) (h99 : ∀ i, i < n → w i ≤ 99) : ∀ (k : Nat) (sec : Int) (held up : Nat → Int) (f a : Int), sec + k = 101 → (∀ i, i < n → held i ≤ w i) → (∀ i, i < n → up i = 1 → sec - 1 ≤ held i) → vt_carI need (vt_go n need w fr kd ct lf k sec held up f a (-1)).2.1 (vt_go n need w fr kd ct lf k sec held up f a (-1)).2.2.1 = vt_carI need (f + remS 1 w fr ct up held n) (a + remS 0 w fr ct up held n)
  | 0, sec, held, up, f, a, hs, hw, hu => by
    have z : ∀ b, remS b w fr ct up held n = 0 := fun b => by
      unfold remS
      refine (vt_sum_congr n (fun i hi => ?_)).trans (vt_sum_0 n)
      have h1 := hw i hi
      have h2 := h99 i hi
      rw [if_neg (fun z => by have := hu i hi z.1; push_cast at hs; omega)]
    rw [z, z, Int.add_zero, Int.add_zero]
    rfl
  | k + 1, sec, held, up, f, a, hs, hw, hu => by
    obtain ⟨⟨g1, g2⟩, ⟨g3, g4⟩⟩ := go_range (need := need) (fr := fr) (kd := kd) (lf := lf) hct (k + 1) sec held up f a (-1) hw
    have m1 := remS_more (b := 1) (fr := fr) (up := up) (held := held) hct hl
    have m0 := remS_more (b := 0) (fr := fr) (up := up) (held := held) hct hl
    have r1 := remS_b (b := 1) (fr := fr) (up := up) hct hw
    have r0 := remS_b (b := 0) (fr := fr) (up := up) hct hw
    by_cases hset : vt_setI need f a up fr ct lf held n = 1
    · -- settled: decided
      unfold vt_setI at hset
      by_cases q : need * (f + (a + vt_more 0 up fr ct lf held n)) < 10 * f
      · unfold vt_carI
        rw [if_pos (car_mono hn q g1 (by omega)), if_pos (car_mono hn q (by omega) (by omega))]
      · rw [if_neg q] at hset
        by_cases q2 : need * (f + vt_more 1 up fr ct lf held n + a) < 10 * (f + vt_more 1 up fr ct lf held n)
        · rw [if_pos q2] at hset; omega
        · unfold vt_carI
          rw [if_neg (fun z => q2 (car_mono hn z (by omega) (by omega))), if_neg (fun z => q2 (car_mono hn z (by omega) (by omega)))]
    · obtain ⟨set', hs', hgo⟩ := go_succ (n := n) (need := need) (w := w) (fr := fr) (kd := kd) (ct := ct) (lf := lf) k sec held up f a (-1)
      rw [if_neg (fun z => hset z.2)] at hs'
      subst hs'
      rw [hgo]
      have hd : ∀ i, i < n → vt_up (-1) w kd held up i = if up i = 1 ∧ held i < w i then 1 else 0 := fun i hi => by
        have e : vt_up (-1) w kd held up i = if up i = 1 ∧ held i < w i ∧ ¬ ((-1 : Int) ≠ -1 ∧ kd i = 1) then 1 else 0 := rfl
        rw [e]
        by_cases z : up i = 1 ∧ held i < w i
        · rw [if_pos z, if_pos ⟨z.1, z.2, fun y => y.1 rfl⟩]
        · rw [if_neg z, if_neg (fun y => z ⟨y.1, y.2.1⟩)]
      have e1 := remS_eq (b := 1) (fr := fr) (ct := ct) hw hd
      have e0 := remS_eq (b := 0) (fr := fr) (ct := ct) hw hd
      by_cases q : vt_some (vt_up (-1) w kd held up) n = 1
      · rw [if_pos q, go_car hn hct hl h99 k (sec + 1) _ _ _ _ (by push_cast at hs; omega) (fun i hi => by
          have h1 := hw i hi
          rw [hd i hi]
          by_cases z : up i = 1 ∧ held i < w i
          · rw [if_pos z]; omega
          · rw [if_neg z]; omega) (fun i hi hz => by
          rw [hd i hi] at hz
          by_cases z : up i = 1 ∧ held i < w i
          · have := hu i hi z.1
            show sec + 1 - 1 ≤ held i + vt_up (-1) w kd held up i
            rw [hd i hi, if_pos z]; omega
          · rw [if_neg z] at hz; omega)]
        rw [show f + vt_add 1 (vt_up (-1) w kd held up) fr ct n + remS 1 w fr ct (vt_up (-1) w kd held up) (fun i => held i + vt_up (-1) w kd held up i) n = f + remS 1 w fr ct up held n by omega, show a + vt_add 0 (vt_up (-1) w kd held up) fr ct n + remS 0 w fr ct (vt_up (-1) w kd held up) (fun i => held i + vt_up (-1) w kd held up i) n = a + remS 0 w fr ct up held n by omega]
      · rw [if_neg q]
        have hz := vt_some_of n ((vt_some_01 _ n).resolve_right q)
        have z : ∀ b, remS b w fr ct up held n = 0 := fun b => by
          unfold remS
          refine (vt_sum_congr n (fun i hi => ?_)).trans (vt_sum_0 n)
          have h1 := hw i hi
          have h2 := hz i hi
          rw [hd i hi] at h2
          by_cases y : up i = 1 ∧ held i < w i
          · rw [if_pos y] at h2; exact absurd rfl h2
          · by_cases y2 : up i = 1 ∧ fr i = b
            · rw [if_pos y2, show w i - held i = 0 by omega, Int.mul_zero]
            · rw [if_neg y2]
        rw [z, z, Int.add_zero, Int.add_zero]
/-- all that is wanted, for and against -/
def wS (V : Vw) (n m : Nat) (b : Int) : Int := vt_sum (fun i => if fV V m i = b then V 4 i * wV V m i else 0) n
theorem wV_b {V : Vw} {n mt m i : Nat} (h : wfV V n mt) (hm : m < mt) (hi : i < n) : 0 ≤ wV V m i ∧ wV V m i ≤ V 8 i := vt_want_b h.2.1 (h.2.2.2.2 i m hi hm).1 (h.2.2.1 i hi).2.2.2.2 (h.2.2.2.2 i m hi hm).2
theorem carM_wS {V : Vw} {n mt m : Nat} (h : wfV V n mt) (hm : m < mt) : carM V n m = vt_carI (V 5 m) (wS V n m 1) (wS V n m 0) := by
  have hw := fun i hi => wV_b (i := i) h hm hi
  have key := go_car (n := n) (need := V 5 m) (w := wV V m) (fr := fV V m) (kd := V 1) (ct := V 4) (lf := V 8) (h.2.2.2.1 m hm).1 (fun i hi => by have := (h.2.2.1 i hi).2.2.2.1; omega) (fun i hi => (hw i hi).2) (fun i hi => by have := (hw i hi).2; have := (h.2.2.1 i hi).2.2.2.2; omega) 100 1 (fun _ => 0) (fun i => if 0 < wV V m i then 1 else 0) 0 0 (by omega) (fun i hi => (hw i hi).1) (fun i hi _ => by omega)
  have e : ∀ b, remS b (wV V m) (fV V m) (V 4) (fun i => if 0 < wV V m i then 1 else 0) (fun _ => 0) n = wS V n m b := fun b => by
    unfold remS wS
    refine vt_sum_congr n (fun i hi => ?_)
    have h1 := hw i hi
    by_cases q : 0 < wV V m i
    · by_cases q2 : fV V m i = b
      · rw [if_pos ⟨if_pos q, q2⟩, if_pos q2, Int.sub_zero]
      · rw [if_neg (fun z => q2 z.2), if_neg q2]
    · rw [if_neg (fun z => by have z1 : (if 0 < wV V m i then (1 : Int) else 0) = 1 := z.1; rw [if_neg q] at z1; omega)]
      by_cases q2 : fV V m i = b
      · rw [if_pos q2, show wV V m i = 0 by omega, Int.mul_zero]
      · rw [if_neg q2]
  rw [e, e, Int.zero_add, Int.zero_add] at key
  exact key
