/-! the vote, as a function -/
def vt_car (need f a : Int) : Prop := need * (f + a) < 10 * f
theorem vt_car_def (need f a : Int) : vt_car need f a ↔ need * (f + a) < 10 * f := Iff.rfl
def vt_carI (need f a : Int) : Int := if need * (f + a) < 10 * f then 1 else 0
def vt_sum (f : Nat → Int) : Nat → Int
  | 0 => 0
  | n + 1 => vt_sum f n + f n
/-- what those up, for (1) or against (0), could hold yet -/
def vt_more (b : Int) (up fr ct lf held : Nat → Int) (n : Nat) : Int := vt_sum (fun i => if up i = 1 ∧ fr i = b then ct i * (lf i - held i) else 0) n
def vt_set (need f a : Int) (up fr ct lf held : Nat → Int) (n : Nat) : Prop := need * (f + (a + vt_more 0 up fr ct lf held n)) < 10 * f ∨ ¬ need * (f + vt_more 1 up fr ct lf held n + a) < 10 * (f + vt_more 1 up fr ct lf held n)
def vt_setI (need f a : Int) (up fr ct lf held : Nat → Int) (n : Nat) : Int := if need * (f + (a + vt_more 0 up fr ct lf held n)) < 10 * f then 1 else if need * (f + vt_more 1 up fr ct lf held n + a) < 10 * (f + vt_more 1 up fr ct lf held n) then 0 else 1
/-- who is up in the second to come -/
def vt_up (set : Int) (w kd held up : Nat → Int) : Nat → Int := fun i => if up i = 1 ∧ held i < w i ∧ ¬ (set ≠ -1 ∧ kd i = 1) then 1 else 0
def vt_some (up : Nat → Int) : Nat → Int
  | 0 => 0
  | n + 1 => if vt_some up n = 1 ∨ up n = 1 then 1 else 0
/-- a second: sums -/
def vt_add (b : Int) (up fr ct : Nat → Int) (n : Nat) : Int := vt_sum (fun i => if up i = 1 ∧ fr i = b then ct i else 0) n
/-- THE VOTE from a second on: held, for, against, seconds, settled -/
def vt_go (n : Nat) (need : Int) (w fr kd ct lf : Nat → Int) : Nat → Int → (Nat → Int) → (Nat → Int) → Int → Int → Int → (Nat → Int) × Int × Int × Int × Int
  | 0, sec, held, _, f, a, set => (held, f, a, sec - 1, set)
  | k + 1, sec, held, up, f, a, set =>
    let set' := if set = -1 ∧ vt_setI need f a up fr ct lf held n = 1 then sec else set
    let up' := vt_up set' w kd held up
    if vt_some up' n = 1 then vt_go n need w fr kd ct lf k (sec + 1) (fun i => held i + up' i) up' (f + vt_add 1 up' fr ct n) (a + vt_add 0 up' fr ct n) set'
    else (held, f, a, sec - 1, set')
def vt_want (hold wo left kd told : Int) : Int := if wo = 0 then 0 else if (if kd < 2 then hold * (if 0 ≤ wo then wo else 0 - wo) else if kd = 2 then left else told) < left then (if kd < 2 then hold * (if 0 ≤ wo then wo else 0 - wo) else if kd = 2 then left else told) else left
theorem vt_sum_congr {f g : Nat → Int} : ∀ n : Nat, (∀ i, i < n → f i = g i) → vt_sum f n = vt_sum g n
  | 0, _ => rfl
  | n + 1, h => by rw [vt_sum, vt_sum, vt_sum_congr n (fun i hi => h i (by omega)), h n (by omega)]
theorem vt_sum_le {f : Nat → Int} {c : Int} : ∀ n : Nat, (∀ i, i < n → f i ≤ c) → vt_sum f n ≤ n * c
  | 0, _ => by simp [vt_sum]
  | n + 1, h => by
    have h1 := vt_sum_le n (fun i hi => h i (by omega))
    have h2 := h n (by omega)
    rw [vt_sum]
    push_cast
    rw [Int.add_mul]
    omega
theorem vt_sum_nn {f : Nat → Int} : ∀ n : Nat, (∀ i, i < n → 0 ≤ f i) → 0 ≤ vt_sum f n
  | 0, _ => by simp [vt_sum]
  | n + 1, h => by
    have h1 := vt_sum_nn n (fun i hi => h i (by omega))
    have h2 := h n (by omega)
    rw [vt_sum]
    omega
