/-! the law: the world behind the constructors; written by wip/whole/gen/gen_start1.py -/
def lw_cr : List (Nat × Nat) := [(0, 11), (0, 14), (0, 15), (0, 16), (0, 17), (0, 0), (0, 1), (0, 2), (0, 3), (0, 4), (0, 5), (0, 6), (0, 7), (0, 8), (0, 9), (0, 10), (0, 12), (1, 0), (1, 1), (1, 2), (1, 3), (1, 4), (1, 5), (1, 6), (1, 7), (1, 8), (1, 9), (1, 10), (2, 0), (2, 1), (2, 2), (2, 3), (2, 4), (2, 5), (2, 6), (2, 7), (2, 8), (2, 9), (2, 10), (0, 13), (0, 18), (9, 1), (9, 2), (9, 3), (9, 4), (9, 5), (0, 19), (0, 20), (0, 21), (0, 22), (0, 23), (0, 24), (0, 25), (0, 26), (0, 27), (0, 28), (0, 29), (0, 30), (0, 31), (0, 32), (0, 33), (0, 34), (0, 35), (0, 36), (0, 37), (0, 38), (0, 39), (0, 40), (3, 0), (3, 1), (3, 2), (3, 3), (3, 4), (3, 5), (3, 6), (3, 7), (3, 8), (3, 9), (3, 10), (4, 0), (4, 1), (4, 2), (4, 3), (4, 4), (4, 5), (4, 6), (4, 7), (4, 8), (4, 9), (4, 10), (5, 0), (5, 1), (5, 2), (5, 3), (5, 4), (5, 5), (5, 6), (5, 7), (5, 8), (5, 9), (5, 10), (6, 0), (6, 1), (6, 2), (6, 3), (6, 4), (6, 5), (6, 6), (6, 7), (6, 8), (6, 9), (6, 10), (7, 0), (7, 1), (7, 2), (7, 3), (7, 4), (7, 5), (7, 6), (7, 7), (7, 8), (7, 9), (7, 10), (8, 0), (8, 1), (8, 2), (8, 3), (8, 4), (8, 5), (8, 6), (8, 7), (8, 8), (8, 9), (8, 10), (0, 41), (0, 42), (0, 43), (0, 44), (0, 45), (0, 46), (0, 47), (0, 48), (0, 49), (0, 50), (0, 51), (0, 52), (0, 53), (0, 54), (0, 55), (0, 56)]
theorem lw_crs : ∀ c ∈ am_ids, c ∈ lw_cr := by decide +kernel
def lwρ (u1 : Nat → Nat → Nat) (u2 sk : Nat → Nat) : Nat → Nat → Nat := fun e p => if p = 99 then sk e else if 41 ≤ p then u2 p else u1 e p
def lwM : Am_M := (fun e p k => if p = 18 ∧ e = 0 ∧ k = 4 then 2 else if p = 41 ∧ e = 0 ∧ k = 5 then 2 else if p = 41 ∧ e = 0 ∧ k = 30 then -1 else 0, 0)
theorem lw_upd1 {D : va_G} {H : Heap} {a n : Nat} {cA : ClassId} {f g : Nat → Option Nat} (hP : va_at D vwCl (a, .inl (cA, n, .inr (.inr (.inr (.inr f))))) H) (hfg : ∀ i, i < n → f i = g i) : va_at D vwCl (a, .inl (cA, n, .inr (.inr (.inr (.inr g))))) H := by
  have h1 : H[a]? = some (vp_cell cA (n, .inr (.inr (.inr (.inr f))))) := hP
  show H[a]? = some (vp_cell cA (n, .inr (.inr (.inr (.inr g)))))
  rw [h1, vp_cell_q, vp_cell_q]
  unfold arrV
  congr 3
  funext j
  show va_rf (f j.val) = va_rf (g j.val)
  rw [hfg j.val j.isLt]
set_option maxRecDepth 100000 in
set_option maxHeartbeats 4000000 in
theorem lw_raE (cI cZ cE : ClassId) (u1 : Nat → Nat → Nat) : raW cI cZ cE u1 = [(u1 0 11, .inr (10, [.ref (u1 0 14), .ref (u1 0 0), .ref (u1 0 12), .ref (u1 0 13), .ref (u1 0 18), .ref (u1 0 25), .ref (u1 0 34)]))] ++ ([(u1 0 14, .inr (6, [.ref (u1 0 15), .int 0, .ref (u1 0 16), .ref (u1 0 17), .int 0, .int 0, .int 0, .int 0, .int 0])), (u1 0 15, .inl (cI, 200, .inl (fun _ => 0))), (u1 0 16, .inl (cI, 12, .inl (fun _ => 0))), (u1 0 17, .inl (cI, 36, .inl (fun _ => 0)))] ++ (evW cI cZ cE (u1 0) ++ ([(u1 0 12, .inl (cE, 2, .inr (.inr (.inr (.inr (va_up (va_up (fun _ => none) (0 : Int32).toNatClampNeg (some (u1 1 0))) (1 : Int32).toNatClampNeg (some (u1 2 0))))))))] ++ (evW cI cZ cE (u1 1) ++ (evW cI cZ cE (u1 2) ++ ([(u1 0 13, .inl (cZ, 2, .inl (fun _ => 0)))] ++ ([(u1 0 18, .inr (2, [.ref (u1 9 1), .ref (u1 0 19), .ref (u1 0 20), .int 0, .int 2, .ref (u1 0 21), .ref (u1 0 22), .ref (u1 0 23), .ref (u1 0 24), .int 0])), (u1 9 1, .inr (3, [.ref (u1 9 2), .ref (u1 9 3), .ref (u1 9 4), .ref (u1 9 5), .int 0])), (u1 9 2, .inl (cI, 6, .inl (fun _ => 0))), (u1 9 3, .inl (cI, 6, .inl (fun _ => 0))), (u1 9 4, .inl (cI, 6, .inl (fun _ => 0))), (u1 9 5, .inl (cI, 6, .inl (fun _ => 0))), (u1 0 19, .inl (cI, 5, .inl (fun _ => 0))), (u1 0 20, .inl (cI, 30, .inl (fun _ => 0))), (u1 0 21, .inl (cI, 8, .inl (fun _ => 0))), (u1 0 22, .inl (cI, 8, .inl (fun _ => 0))), (u1 0 23, .inl (cI, 8, .inl (fun _ => 0))), (u1 0 24, .inl (cI, 8, .inl (fun _ => 0)))] ++ ([(u1 0 25, .inr (8, [.ref (u1 0 18), .ref (u1 0 26), .ref (u1 0 27), .ref (u1 0 28), .ref (u1 0 29), .ref (u1 0 30), .ref (u1 0 31), .ref (u1 0 32), .ref (u1 0 33), .int 0, .int 0, .int 0, .int 0, .int 0])), (u1 0 26, .inr (4, [])), (u1 0 27, .inr (9, [])), (u1 0 28, .inr (5, [])), (u1 0 29, .inr (7, [])), (u1 0 30, .inl (cI, 6, .inl (fun _ => 0))), (u1 0 31, .inl (cI, 6, .inl (fun _ => 0))), (u1 0 32, .inl (cZ, 6, .inl (fun _ => 0))), (u1 0 33, .inl (cZ, 6, .inl (fun _ => 0)))] ++ ([(u1 0 34, .inr (1, [.ref (u1 0 18), .ref (u1 0 25), .ref (u1 0 35), .ref (u1 0 36), .ref (u1 0 37), .ref (u1 0 38), .int 0, .int 0, .ref (u1 0 39), .ref (u1 0 40), .int 0, .int 0, .int 0])), (u1 0 35, .inl (cE, 6, .inr (.inr (.inr (.inr (va_up (va_up (va_up (va_up (va_up (va_up (fun _ => none) (0 : Int32).toNatClampNeg (some (u1 3 0))) (1 : Int32).toNatClampNeg (some (u1 4 0))) (2 : Int32).toNatClampNeg (some (u1 5 0))) (3 : Int32).toNatClampNeg (some (u1 6 0))) (4 : Int32).toNatClampNeg (some (u1 7 0))) (5 : Int32).toNatClampNeg (some (u1 8 0)))))))), (u1 0 36, .inl (cI, 5, .inl (fun _ => 0))), (u1 0 37, .inl (cI, 3, .inl (fun _ => 0))), (u1 0 38, .inl (cI, 3, .inl (fun _ => 0))), (u1 0 39, .inl (cI, 6, .inl (fun _ => 0))), (u1 0 40, .inl (cI, 6, .inl (fun _ => 0)))] ++ (evW cI cZ cE (u1 3) ++ (evW cI cZ cE (u1 4) ++ (evW cI cZ cE (u1 5) ++ (evW cI cZ cE (u1 6) ++ (evW cI cZ cE (u1 7) ++ (evW cI cZ cE (u1 8)))))))))))))))) := rfl
theorem lw_va {D : va_G} {ws : va_W} {H : Heap} (h : va_P D vwCl ws H) : ∀ q ∈ ws, va_at D vwCl q H := fun q hq => by
  obtain ⟨k, hk⟩ := List.getElem?_of_mem hq
  exact h k q hk
theorem lw_b_o11 {D : va_G} {cI cZ cE : ClassId} {u1 : Nat → Nat → Nat} {u2 : Nat → Nat} {H : Heap} (hP : va_P D vwCl (raW cI cZ cE u1 ++ mdW cI cZ cE u2) H) : ∀ q ∈ ([(u1 0 11, .inr (10, [.ref (u1 0 14), .ref (u1 0 0), .ref (u1 0 12), .ref (u1 0 13), .ref (u1 0 18), .ref (u1 0 25), .ref (u1 0 34)]))] : va_W), va_at D vwCl q H := fun q h => lw_va hP q (List.mem_append_left _ (by rw [lw_raE]; exact (List.mem_append_left _ h)))
theorem lw_b_tx {D : va_G} {cI cZ cE : ClassId} {u1 : Nat → Nat → Nat} {u2 : Nat → Nat} {H : Heap} (hP : va_P D vwCl (raW cI cZ cE u1 ++ mdW cI cZ cE u2) H) : ∀ q ∈ ([(u1 0 14, .inr (6, [.ref (u1 0 15), .int 0, .ref (u1 0 16), .ref (u1 0 17), .int 0, .int 0, .int 0, .int 0, .int 0])), (u1 0 15, .inl (cI, 200, .inl (fun _ => 0))), (u1 0 16, .inl (cI, 12, .inl (fun _ => 0))), (u1 0 17, .inl (cI, 36, .inl (fun _ => 0)))] : va_W), va_at D vwCl q H := fun q h => lw_va hP q (List.mem_append_left _ (by rw [lw_raE]; exact (List.mem_append_right _ (List.mem_append_left _ h))))
theorem lw_b_ev0 {D : va_G} {cI cZ cE : ClassId} {u1 : Nat → Nat → Nat} {u2 : Nat → Nat} {H : Heap} (hP : va_P D vwCl (raW cI cZ cE u1 ++ mdW cI cZ cE u2) H) : ∀ q ∈ (evW cI cZ cE (u1 0) : va_W), va_at D vwCl q H := fun q h => lw_va hP q (List.mem_append_left _ (by rw [lw_raE]; exact (List.mem_append_right _ (List.mem_append_right _ (List.mem_append_left _ h)))))
theorem lw_b_o12 {D : va_G} {cI cZ cE : ClassId} {u1 : Nat → Nat → Nat} {u2 : Nat → Nat} {H : Heap} (hP : va_P D vwCl (raW cI cZ cE u1 ++ mdW cI cZ cE u2) H) : ∀ q ∈ ([(u1 0 12, .inl (cE, 2, .inr (.inr (.inr (.inr (va_up (va_up (fun _ => none) (0 : Int32).toNatClampNeg (some (u1 1 0))) (1 : Int32).toNatClampNeg (some (u1 2 0))))))))] : va_W), va_at D vwCl q H := fun q h => lw_va hP q (List.mem_append_left _ (by rw [lw_raE]; exact (List.mem_append_right _ (List.mem_append_right _ (List.mem_append_right _ (List.mem_append_left _ h))))))
theorem lw_b_ev1 {D : va_G} {cI cZ cE : ClassId} {u1 : Nat → Nat → Nat} {u2 : Nat → Nat} {H : Heap} (hP : va_P D vwCl (raW cI cZ cE u1 ++ mdW cI cZ cE u2) H) : ∀ q ∈ (evW cI cZ cE (u1 1) : va_W), va_at D vwCl q H := fun q h => lw_va hP q (List.mem_append_left _ (by rw [lw_raE]; exact (List.mem_append_right _ (List.mem_append_right _ (List.mem_append_right _ (List.mem_append_right _ (List.mem_append_left _ h)))))))
theorem lw_b_ev2 {D : va_G} {cI cZ cE : ClassId} {u1 : Nat → Nat → Nat} {u2 : Nat → Nat} {H : Heap} (hP : va_P D vwCl (raW cI cZ cE u1 ++ mdW cI cZ cE u2) H) : ∀ q ∈ (evW cI cZ cE (u1 2) : va_W), va_at D vwCl q H := fun q h => lw_va hP q (List.mem_append_left _ (by rw [lw_raE]; exact (List.mem_append_right _ (List.mem_append_right _ (List.mem_append_right _ (List.mem_append_right _ (List.mem_append_right _ (List.mem_append_left _ h))))))))
theorem lw_b_o13 {D : va_G} {cI cZ cE : ClassId} {u1 : Nat → Nat → Nat} {u2 : Nat → Nat} {H : Heap} (hP : va_P D vwCl (raW cI cZ cE u1 ++ mdW cI cZ cE u2) H) : ∀ q ∈ ([(u1 0 13, .inl (cZ, 2, .inl (fun _ => 0)))] : va_W), va_at D vwCl q H := fun q h => lw_va hP q (List.mem_append_left _ (by rw [lw_raE]; exact (List.mem_append_right _ (List.mem_append_right _ (List.mem_append_right _ (List.mem_append_right _ (List.mem_append_right _ (List.mem_append_right _ (List.mem_append_left _ h)))))))))
theorem lw_b_hl {D : va_G} {cI cZ cE : ClassId} {u1 : Nat → Nat → Nat} {u2 : Nat → Nat} {H : Heap} (hP : va_P D vwCl (raW cI cZ cE u1 ++ mdW cI cZ cE u2) H) : ∀ q ∈ ([(u1 0 18, .inr (2, [.ref (u1 9 1), .ref (u1 0 19), .ref (u1 0 20), .int 0, .int 2, .ref (u1 0 21), .ref (u1 0 22), .ref (u1 0 23), .ref (u1 0 24), .int 0])), (u1 9 1, .inr (3, [.ref (u1 9 2), .ref (u1 9 3), .ref (u1 9 4), .ref (u1 9 5), .int 0])), (u1 9 2, .inl (cI, 6, .inl (fun _ => 0))), (u1 9 3, .inl (cI, 6, .inl (fun _ => 0))), (u1 9 4, .inl (cI, 6, .inl (fun _ => 0))), (u1 9 5, .inl (cI, 6, .inl (fun _ => 0))), (u1 0 19, .inl (cI, 5, .inl (fun _ => 0))), (u1 0 20, .inl (cI, 30, .inl (fun _ => 0))), (u1 0 21, .inl (cI, 8, .inl (fun _ => 0))), (u1 0 22, .inl (cI, 8, .inl (fun _ => 0))), (u1 0 23, .inl (cI, 8, .inl (fun _ => 0))), (u1 0 24, .inl (cI, 8, .inl (fun _ => 0)))] : va_W), va_at D vwCl q H := fun q h => lw_va hP q (List.mem_append_left _ (by rw [lw_raE]; exact (List.mem_append_right _ (List.mem_append_right _ (List.mem_append_right _ (List.mem_append_right _ (List.mem_append_right _ (List.mem_append_right _ (List.mem_append_right _ (List.mem_append_left _ h))))))))))
theorem lw_b_vt {D : va_G} {cI cZ cE : ClassId} {u1 : Nat → Nat → Nat} {u2 : Nat → Nat} {H : Heap} (hP : va_P D vwCl (raW cI cZ cE u1 ++ mdW cI cZ cE u2) H) : ∀ q ∈ ([(u1 0 25, .inr (8, [.ref (u1 0 18), .ref (u1 0 26), .ref (u1 0 27), .ref (u1 0 28), .ref (u1 0 29), .ref (u1 0 30), .ref (u1 0 31), .ref (u1 0 32), .ref (u1 0 33), .int 0, .int 0, .int 0, .int 0, .int 0])), (u1 0 26, .inr (4, [])), (u1 0 27, .inr (9, [])), (u1 0 28, .inr (5, [])), (u1 0 29, .inr (7, [])), (u1 0 30, .inl (cI, 6, .inl (fun _ => 0))), (u1 0 31, .inl (cI, 6, .inl (fun _ => 0))), (u1 0 32, .inl (cZ, 6, .inl (fun _ => 0))), (u1 0 33, .inl (cZ, 6, .inl (fun _ => 0)))] : va_W), va_at D vwCl q H := fun q h => lw_va hP q (List.mem_append_left _ (by rw [lw_raE]; exact (List.mem_append_right _ (List.mem_append_right _ (List.mem_append_right _ (List.mem_append_right _ (List.mem_append_right _ (List.mem_append_right _ (List.mem_append_right _ (List.mem_append_right _ (List.mem_append_left _ h)))))))))))
theorem lw_b_fo {D : va_G} {cI cZ cE : ClassId} {u1 : Nat → Nat → Nat} {u2 : Nat → Nat} {H : Heap} (hP : va_P D vwCl (raW cI cZ cE u1 ++ mdW cI cZ cE u2) H) : ∀ q ∈ ([(u1 0 34, .inr (1, [.ref (u1 0 18), .ref (u1 0 25), .ref (u1 0 35), .ref (u1 0 36), .ref (u1 0 37), .ref (u1 0 38), .int 0, .int 0, .ref (u1 0 39), .ref (u1 0 40), .int 0, .int 0, .int 0])), (u1 0 35, .inl (cE, 6, .inr (.inr (.inr (.inr (va_up (va_up (va_up (va_up (va_up (va_up (fun _ => none) (0 : Int32).toNatClampNeg (some (u1 3 0))) (1 : Int32).toNatClampNeg (some (u1 4 0))) (2 : Int32).toNatClampNeg (some (u1 5 0))) (3 : Int32).toNatClampNeg (some (u1 6 0))) (4 : Int32).toNatClampNeg (some (u1 7 0))) (5 : Int32).toNatClampNeg (some (u1 8 0)))))))), (u1 0 36, .inl (cI, 5, .inl (fun _ => 0))), (u1 0 37, .inl (cI, 3, .inl (fun _ => 0))), (u1 0 38, .inl (cI, 3, .inl (fun _ => 0))), (u1 0 39, .inl (cI, 6, .inl (fun _ => 0))), (u1 0 40, .inl (cI, 6, .inl (fun _ => 0)))] : va_W), va_at D vwCl q H := fun q h => lw_va hP q (List.mem_append_left _ (by rw [lw_raE]; exact (List.mem_append_right _ (List.mem_append_right _ (List.mem_append_right _ (List.mem_append_right _ (List.mem_append_right _ (List.mem_append_right _ (List.mem_append_right _ (List.mem_append_right _ (List.mem_append_right _ (List.mem_append_left _ h))))))))))))
theorem lw_b_ev3 {D : va_G} {cI cZ cE : ClassId} {u1 : Nat → Nat → Nat} {u2 : Nat → Nat} {H : Heap} (hP : va_P D vwCl (raW cI cZ cE u1 ++ mdW cI cZ cE u2) H) : ∀ q ∈ (evW cI cZ cE (u1 3) : va_W), va_at D vwCl q H := fun q h => lw_va hP q (List.mem_append_left _ (by rw [lw_raE]; exact (List.mem_append_right _ (List.mem_append_right _ (List.mem_append_right _ (List.mem_append_right _ (List.mem_append_right _ (List.mem_append_right _ (List.mem_append_right _ (List.mem_append_right _ (List.mem_append_right _ (List.mem_append_right _ (List.mem_append_left _ h)))))))))))))
theorem lw_b_ev4 {D : va_G} {cI cZ cE : ClassId} {u1 : Nat → Nat → Nat} {u2 : Nat → Nat} {H : Heap} (hP : va_P D vwCl (raW cI cZ cE u1 ++ mdW cI cZ cE u2) H) : ∀ q ∈ (evW cI cZ cE (u1 4) : va_W), va_at D vwCl q H := fun q h => lw_va hP q (List.mem_append_left _ (by rw [lw_raE]; exact (List.mem_append_right _ (List.mem_append_right _ (List.mem_append_right _ (List.mem_append_right _ (List.mem_append_right _ (List.mem_append_right _ (List.mem_append_right _ (List.mem_append_right _ (List.mem_append_right _ (List.mem_append_right _ (List.mem_append_right _ (List.mem_append_left _ h))))))))))))))
theorem lw_b_ev5 {D : va_G} {cI cZ cE : ClassId} {u1 : Nat → Nat → Nat} {u2 : Nat → Nat} {H : Heap} (hP : va_P D vwCl (raW cI cZ cE u1 ++ mdW cI cZ cE u2) H) : ∀ q ∈ (evW cI cZ cE (u1 5) : va_W), va_at D vwCl q H := fun q h => lw_va hP q (List.mem_append_left _ (by rw [lw_raE]; exact (List.mem_append_right _ (List.mem_append_right _ (List.mem_append_right _ (List.mem_append_right _ (List.mem_append_right _ (List.mem_append_right _ (List.mem_append_right _ (List.mem_append_right _ (List.mem_append_right _ (List.mem_append_right _ (List.mem_append_right _ (List.mem_append_right _ (List.mem_append_left _ h)))))))))))))))
theorem lw_b_ev6 {D : va_G} {cI cZ cE : ClassId} {u1 : Nat → Nat → Nat} {u2 : Nat → Nat} {H : Heap} (hP : va_P D vwCl (raW cI cZ cE u1 ++ mdW cI cZ cE u2) H) : ∀ q ∈ (evW cI cZ cE (u1 6) : va_W), va_at D vwCl q H := fun q h => lw_va hP q (List.mem_append_left _ (by rw [lw_raE]; exact (List.mem_append_right _ (List.mem_append_right _ (List.mem_append_right _ (List.mem_append_right _ (List.mem_append_right _ (List.mem_append_right _ (List.mem_append_right _ (List.mem_append_right _ (List.mem_append_right _ (List.mem_append_right _ (List.mem_append_right _ (List.mem_append_right _ (List.mem_append_right _ (List.mem_append_left _ h))))))))))))))))
theorem lw_b_ev7 {D : va_G} {cI cZ cE : ClassId} {u1 : Nat → Nat → Nat} {u2 : Nat → Nat} {H : Heap} (hP : va_P D vwCl (raW cI cZ cE u1 ++ mdW cI cZ cE u2) H) : ∀ q ∈ (evW cI cZ cE (u1 7) : va_W), va_at D vwCl q H := fun q h => lw_va hP q (List.mem_append_left _ (by rw [lw_raE]; exact (List.mem_append_right _ (List.mem_append_right _ (List.mem_append_right _ (List.mem_append_right _ (List.mem_append_right _ (List.mem_append_right _ (List.mem_append_right _ (List.mem_append_right _ (List.mem_append_right _ (List.mem_append_right _ (List.mem_append_right _ (List.mem_append_right _ (List.mem_append_right _ (List.mem_append_right _ (List.mem_append_left _ h)))))))))))))))))
theorem lw_b_ev8 {D : va_G} {cI cZ cE : ClassId} {u1 : Nat → Nat → Nat} {u2 : Nat → Nat} {H : Heap} (hP : va_P D vwCl (raW cI cZ cE u1 ++ mdW cI cZ cE u2) H) : ∀ q ∈ (evW cI cZ cE (u1 8) : va_W), va_at D vwCl q H := fun q h => lw_va hP q (List.mem_append_left _ (by rw [lw_raE]; exact (List.mem_append_right _ (List.mem_append_right _ (List.mem_append_right _ (List.mem_append_right _ (List.mem_append_right _ (List.mem_append_right _ (List.mem_append_right _ (List.mem_append_right _ (List.mem_append_right _ (List.mem_append_right _ (List.mem_append_right _ (List.mem_append_right _ (List.mem_append_right _ (List.mem_append_right _ (List.mem_append_right _ h)))))))))))))))))
theorem lw_b_md {D : va_G} {cI cZ cE : ClassId} {u1 : Nat → Nat → Nat} {u2 : Nat → Nat} {H : Heap} (hP : va_P D vwCl (raW cI cZ cE u1 ++ mdW cI cZ cE u2) H) : ∀ q ∈ mdW cI cZ cE u2, va_at D vwCl q H := fun q h => lw_va hP q (List.mem_append_right _ h)
set_option maxRecDepth 100000 in
set_option maxHeartbeats 4000000 in
theorem lw_evE (D : va_G) (cI cZ cE : ClassId) (u1 : Nat → Nat → Nat) (u2 sk av : Nat → Nat) (e : Nat) : evW cI cZ cE (u1 e) = [(lwρ u1 u2 sk e 0, am_ent (D, (cI, cZ, cE), lwρ u1 u2 sk, av) lwM e 0), (lwρ u1 u2 sk e 1, am_ent (D, (cI, cZ, cE), lwρ u1 u2 sk, av) lwM e 1), (lwρ u1 u2 sk e 2, am_ent (D, (cI, cZ, cE), lwρ u1 u2 sk, av) lwM e 2), (lwρ u1 u2 sk e 3, am_ent (D, (cI, cZ, cE), lwρ u1 u2 sk, av) lwM e 3), (lwρ u1 u2 sk e 4, am_ent (D, (cI, cZ, cE), lwρ u1 u2 sk, av) lwM e 4), (lwρ u1 u2 sk e 5, am_ent (D, (cI, cZ, cE), lwρ u1 u2 sk, av) lwM e 5), (lwρ u1 u2 sk e 6, am_ent (D, (cI, cZ, cE), lwρ u1 u2 sk, av) lwM e 6), (lwρ u1 u2 sk e 7, am_ent (D, (cI, cZ, cE), lwρ u1 u2 sk, av) lwM e 7), (lwρ u1 u2 sk e 8, am_ent (D, (cI, cZ, cE), lwρ u1 u2 sk, av) lwM e 8), (lwρ u1 u2 sk e 9, am_ent (D, (cI, cZ, cE), lwρ u1 u2 sk, av) lwM e 9), (lwρ u1 u2 sk e 10, am_ent (D, (cI, cZ, cE), lwρ u1 u2 sk, av) lwM e 10)] := rfl
theorem lw_ev {D : va_G} {cI cZ cE : ClassId} {u1 : Nat → Nat → Nat} {u2 sk av : Nat → Nat} {H : Heap} {e : Nat} (h : ∀ q ∈ evW cI cZ cE (u1 e), va_at D vwCl q H) : ∀ p, p ≤ 10 → va_at D vwCl (lwρ u1 u2 sk e p, am_ent (D, (cI, cZ, cE), lwρ u1 u2 sk, av) lwM e p) H := by
  intro p hp
  refine h _ ?_
  rw [lw_evE D cI cZ cE u1 u2 sk av e]
  rcases (show p = 0 ∨ p = 1 ∨ p = 2 ∨ p = 3 ∨ p = 4 ∨ p = 5 ∨ p = 6 ∨ p = 7 ∨ p = 8 ∨ p = 9 ∨ p = 10 by omega) with rfl | rfl | rfl | rfl | rfl | rfl | rfl | rfl | rfl | rfl | rfl <;> simp
set_option maxRecDepth 100000 in
theorem lw_c_0_11 {D : va_G} {cI cZ cE : ClassId} {u1 : Nat → Nat → Nat} {u2 sk av : Nat → Nat} {H : Heap} (hP : va_P D vwCl (raW cI cZ cE u1 ++ mdW cI cZ cE u2) H) : va_at D vwCl (lwρ u1 u2 sk 0 11, am_ent (D, (cI, cZ, cE), lwρ u1 u2 sk, av) lwM 0 11) H := lw_b_o11 hP _ (List.mem_of_getElem? (i := 0) rfl)
set_option maxRecDepth 100000 in
theorem lw_c_0_14 {D : va_G} {cI cZ cE : ClassId} {u1 : Nat → Nat → Nat} {u2 sk av : Nat → Nat} {H : Heap} (hP : va_P D vwCl (raW cI cZ cE u1 ++ mdW cI cZ cE u2) H) : va_at D vwCl (lwρ u1 u2 sk 0 14, am_ent (D, (cI, cZ, cE), lwρ u1 u2 sk, av) lwM 0 14) H := lw_b_tx hP _ (List.mem_of_getElem? (i := 0) rfl)
set_option maxRecDepth 100000 in
theorem lw_c_0_15 {D : va_G} {cI cZ cE : ClassId} {u1 : Nat → Nat → Nat} {u2 sk av : Nat → Nat} {H : Heap} (hP : va_P D vwCl (raW cI cZ cE u1 ++ mdW cI cZ cE u2) H) : va_at D vwCl (lwρ u1 u2 sk 0 15, am_ent (D, (cI, cZ, cE), lwρ u1 u2 sk, av) lwM 0 15) H := lw_b_tx hP _ (List.mem_of_getElem? (i := 1) rfl)
set_option maxRecDepth 100000 in
theorem lw_c_0_16 {D : va_G} {cI cZ cE : ClassId} {u1 : Nat → Nat → Nat} {u2 sk av : Nat → Nat} {H : Heap} (hP : va_P D vwCl (raW cI cZ cE u1 ++ mdW cI cZ cE u2) H) : va_at D vwCl (lwρ u1 u2 sk 0 16, am_ent (D, (cI, cZ, cE), lwρ u1 u2 sk, av) lwM 0 16) H := lw_b_tx hP _ (List.mem_of_getElem? (i := 2) rfl)
set_option maxRecDepth 100000 in
theorem lw_c_0_17 {D : va_G} {cI cZ cE : ClassId} {u1 : Nat → Nat → Nat} {u2 sk av : Nat → Nat} {H : Heap} (hP : va_P D vwCl (raW cI cZ cE u1 ++ mdW cI cZ cE u2) H) : va_at D vwCl (lwρ u1 u2 sk 0 17, am_ent (D, (cI, cZ, cE), lwρ u1 u2 sk, av) lwM 0 17) H := lw_b_tx hP _ (List.mem_of_getElem? (i := 3) rfl)
set_option maxRecDepth 100000 in
theorem lw_c_0_13 {D : va_G} {cI cZ cE : ClassId} {u1 : Nat → Nat → Nat} {u2 sk av : Nat → Nat} {H : Heap} (hP : va_P D vwCl (raW cI cZ cE u1 ++ mdW cI cZ cE u2) H) : va_at D vwCl (lwρ u1 u2 sk 0 13, am_ent (D, (cI, cZ, cE), lwρ u1 u2 sk, av) lwM 0 13) H := lw_b_o13 hP _ (List.mem_of_getElem? (i := 0) rfl)
set_option maxRecDepth 100000 in
theorem lw_c_0_18 {D : va_G} {cI cZ cE : ClassId} {u1 : Nat → Nat → Nat} {u2 sk av : Nat → Nat} {H : Heap} (hP : va_P D vwCl (raW cI cZ cE u1 ++ mdW cI cZ cE u2) H) : va_at D vwCl (lwρ u1 u2 sk 0 18, am_ent (D, (cI, cZ, cE), lwρ u1 u2 sk, av) lwM 0 18) H := lw_b_hl hP _ (List.mem_of_getElem? (i := 0) rfl)
set_option maxRecDepth 100000 in
theorem lw_c_9_1 {D : va_G} {cI cZ cE : ClassId} {u1 : Nat → Nat → Nat} {u2 sk av : Nat → Nat} {H : Heap} (hP : va_P D vwCl (raW cI cZ cE u1 ++ mdW cI cZ cE u2) H) : va_at D vwCl (lwρ u1 u2 sk 9 1, am_ent (D, (cI, cZ, cE), lwρ u1 u2 sk, av) lwM 9 1) H := lw_b_hl hP _ (List.mem_of_getElem? (i := 1) rfl)
set_option maxRecDepth 100000 in
theorem lw_c_9_2 {D : va_G} {cI cZ cE : ClassId} {u1 : Nat → Nat → Nat} {u2 sk av : Nat → Nat} {H : Heap} (hP : va_P D vwCl (raW cI cZ cE u1 ++ mdW cI cZ cE u2) H) : va_at D vwCl (lwρ u1 u2 sk 9 2, am_ent (D, (cI, cZ, cE), lwρ u1 u2 sk, av) lwM 9 2) H := lw_b_hl hP _ (List.mem_of_getElem? (i := 2) rfl)
set_option maxRecDepth 100000 in
theorem lw_c_9_3 {D : va_G} {cI cZ cE : ClassId} {u1 : Nat → Nat → Nat} {u2 sk av : Nat → Nat} {H : Heap} (hP : va_P D vwCl (raW cI cZ cE u1 ++ mdW cI cZ cE u2) H) : va_at D vwCl (lwρ u1 u2 sk 9 3, am_ent (D, (cI, cZ, cE), lwρ u1 u2 sk, av) lwM 9 3) H := lw_b_hl hP _ (List.mem_of_getElem? (i := 3) rfl)
set_option maxRecDepth 100000 in
theorem lw_c_9_4 {D : va_G} {cI cZ cE : ClassId} {u1 : Nat → Nat → Nat} {u2 sk av : Nat → Nat} {H : Heap} (hP : va_P D vwCl (raW cI cZ cE u1 ++ mdW cI cZ cE u2) H) : va_at D vwCl (lwρ u1 u2 sk 9 4, am_ent (D, (cI, cZ, cE), lwρ u1 u2 sk, av) lwM 9 4) H := lw_b_hl hP _ (List.mem_of_getElem? (i := 4) rfl)
set_option maxRecDepth 100000 in
theorem lw_c_9_5 {D : va_G} {cI cZ cE : ClassId} {u1 : Nat → Nat → Nat} {u2 sk av : Nat → Nat} {H : Heap} (hP : va_P D vwCl (raW cI cZ cE u1 ++ mdW cI cZ cE u2) H) : va_at D vwCl (lwρ u1 u2 sk 9 5, am_ent (D, (cI, cZ, cE), lwρ u1 u2 sk, av) lwM 9 5) H := lw_b_hl hP _ (List.mem_of_getElem? (i := 5) rfl)
set_option maxRecDepth 100000 in
theorem lw_c_0_19 {D : va_G} {cI cZ cE : ClassId} {u1 : Nat → Nat → Nat} {u2 sk av : Nat → Nat} {H : Heap} (hP : va_P D vwCl (raW cI cZ cE u1 ++ mdW cI cZ cE u2) H) : va_at D vwCl (lwρ u1 u2 sk 0 19, am_ent (D, (cI, cZ, cE), lwρ u1 u2 sk, av) lwM 0 19) H := lw_b_hl hP _ (List.mem_of_getElem? (i := 6) rfl)
set_option maxRecDepth 100000 in
theorem lw_c_0_20 {D : va_G} {cI cZ cE : ClassId} {u1 : Nat → Nat → Nat} {u2 sk av : Nat → Nat} {H : Heap} (hP : va_P D vwCl (raW cI cZ cE u1 ++ mdW cI cZ cE u2) H) : va_at D vwCl (lwρ u1 u2 sk 0 20, am_ent (D, (cI, cZ, cE), lwρ u1 u2 sk, av) lwM 0 20) H := lw_b_hl hP _ (List.mem_of_getElem? (i := 7) rfl)
set_option maxRecDepth 100000 in
theorem lw_c_0_21 {D : va_G} {cI cZ cE : ClassId} {u1 : Nat → Nat → Nat} {u2 sk av : Nat → Nat} {H : Heap} (hP : va_P D vwCl (raW cI cZ cE u1 ++ mdW cI cZ cE u2) H) : va_at D vwCl (lwρ u1 u2 sk 0 21, am_ent (D, (cI, cZ, cE), lwρ u1 u2 sk, av) lwM 0 21) H := lw_b_hl hP _ (List.mem_of_getElem? (i := 8) rfl)
set_option maxRecDepth 100000 in
theorem lw_c_0_22 {D : va_G} {cI cZ cE : ClassId} {u1 : Nat → Nat → Nat} {u2 sk av : Nat → Nat} {H : Heap} (hP : va_P D vwCl (raW cI cZ cE u1 ++ mdW cI cZ cE u2) H) : va_at D vwCl (lwρ u1 u2 sk 0 22, am_ent (D, (cI, cZ, cE), lwρ u1 u2 sk, av) lwM 0 22) H := lw_b_hl hP _ (List.mem_of_getElem? (i := 9) rfl)
set_option maxRecDepth 100000 in
theorem lw_c_0_23 {D : va_G} {cI cZ cE : ClassId} {u1 : Nat → Nat → Nat} {u2 sk av : Nat → Nat} {H : Heap} (hP : va_P D vwCl (raW cI cZ cE u1 ++ mdW cI cZ cE u2) H) : va_at D vwCl (lwρ u1 u2 sk 0 23, am_ent (D, (cI, cZ, cE), lwρ u1 u2 sk, av) lwM 0 23) H := lw_b_hl hP _ (List.mem_of_getElem? (i := 10) rfl)
set_option maxRecDepth 100000 in
theorem lw_c_0_24 {D : va_G} {cI cZ cE : ClassId} {u1 : Nat → Nat → Nat} {u2 sk av : Nat → Nat} {H : Heap} (hP : va_P D vwCl (raW cI cZ cE u1 ++ mdW cI cZ cE u2) H) : va_at D vwCl (lwρ u1 u2 sk 0 24, am_ent (D, (cI, cZ, cE), lwρ u1 u2 sk, av) lwM 0 24) H := lw_b_hl hP _ (List.mem_of_getElem? (i := 11) rfl)
set_option maxRecDepth 100000 in
theorem lw_c_0_25 {D : va_G} {cI cZ cE : ClassId} {u1 : Nat → Nat → Nat} {u2 sk av : Nat → Nat} {H : Heap} (hP : va_P D vwCl (raW cI cZ cE u1 ++ mdW cI cZ cE u2) H) : va_at D vwCl (lwρ u1 u2 sk 0 25, am_ent (D, (cI, cZ, cE), lwρ u1 u2 sk, av) lwM 0 25) H := lw_b_vt hP _ (List.mem_of_getElem? (i := 0) rfl)
set_option maxRecDepth 100000 in
theorem lw_c_0_26 {D : va_G} {cI cZ cE : ClassId} {u1 : Nat → Nat → Nat} {u2 sk av : Nat → Nat} {H : Heap} (hP : va_P D vwCl (raW cI cZ cE u1 ++ mdW cI cZ cE u2) H) : va_at D vwCl (lwρ u1 u2 sk 0 26, am_ent (D, (cI, cZ, cE), lwρ u1 u2 sk, av) lwM 0 26) H := lw_b_vt hP _ (List.mem_of_getElem? (i := 1) rfl)
set_option maxRecDepth 100000 in
theorem lw_c_0_27 {D : va_G} {cI cZ cE : ClassId} {u1 : Nat → Nat → Nat} {u2 sk av : Nat → Nat} {H : Heap} (hP : va_P D vwCl (raW cI cZ cE u1 ++ mdW cI cZ cE u2) H) : va_at D vwCl (lwρ u1 u2 sk 0 27, am_ent (D, (cI, cZ, cE), lwρ u1 u2 sk, av) lwM 0 27) H := lw_b_vt hP _ (List.mem_of_getElem? (i := 2) rfl)
set_option maxRecDepth 100000 in
theorem lw_c_0_28 {D : va_G} {cI cZ cE : ClassId} {u1 : Nat → Nat → Nat} {u2 sk av : Nat → Nat} {H : Heap} (hP : va_P D vwCl (raW cI cZ cE u1 ++ mdW cI cZ cE u2) H) : va_at D vwCl (lwρ u1 u2 sk 0 28, am_ent (D, (cI, cZ, cE), lwρ u1 u2 sk, av) lwM 0 28) H := lw_b_vt hP _ (List.mem_of_getElem? (i := 3) rfl)
set_option maxRecDepth 100000 in
theorem lw_c_0_29 {D : va_G} {cI cZ cE : ClassId} {u1 : Nat → Nat → Nat} {u2 sk av : Nat → Nat} {H : Heap} (hP : va_P D vwCl (raW cI cZ cE u1 ++ mdW cI cZ cE u2) H) : va_at D vwCl (lwρ u1 u2 sk 0 29, am_ent (D, (cI, cZ, cE), lwρ u1 u2 sk, av) lwM 0 29) H := lw_b_vt hP _ (List.mem_of_getElem? (i := 4) rfl)
set_option maxRecDepth 100000 in
theorem lw_c_0_30 {D : va_G} {cI cZ cE : ClassId} {u1 : Nat → Nat → Nat} {u2 sk av : Nat → Nat} {H : Heap} (hP : va_P D vwCl (raW cI cZ cE u1 ++ mdW cI cZ cE u2) H) : va_at D vwCl (lwρ u1 u2 sk 0 30, am_ent (D, (cI, cZ, cE), lwρ u1 u2 sk, av) lwM 0 30) H := lw_b_vt hP _ (List.mem_of_getElem? (i := 5) rfl)
set_option maxRecDepth 100000 in
theorem lw_c_0_31 {D : va_G} {cI cZ cE : ClassId} {u1 : Nat → Nat → Nat} {u2 sk av : Nat → Nat} {H : Heap} (hP : va_P D vwCl (raW cI cZ cE u1 ++ mdW cI cZ cE u2) H) : va_at D vwCl (lwρ u1 u2 sk 0 31, am_ent (D, (cI, cZ, cE), lwρ u1 u2 sk, av) lwM 0 31) H := lw_b_vt hP _ (List.mem_of_getElem? (i := 6) rfl)
set_option maxRecDepth 100000 in
theorem lw_c_0_32 {D : va_G} {cI cZ cE : ClassId} {u1 : Nat → Nat → Nat} {u2 sk av : Nat → Nat} {H : Heap} (hP : va_P D vwCl (raW cI cZ cE u1 ++ mdW cI cZ cE u2) H) : va_at D vwCl (lwρ u1 u2 sk 0 32, am_ent (D, (cI, cZ, cE), lwρ u1 u2 sk, av) lwM 0 32) H := lw_b_vt hP _ (List.mem_of_getElem? (i := 7) rfl)
set_option maxRecDepth 100000 in
theorem lw_c_0_33 {D : va_G} {cI cZ cE : ClassId} {u1 : Nat → Nat → Nat} {u2 sk av : Nat → Nat} {H : Heap} (hP : va_P D vwCl (raW cI cZ cE u1 ++ mdW cI cZ cE u2) H) : va_at D vwCl (lwρ u1 u2 sk 0 33, am_ent (D, (cI, cZ, cE), lwρ u1 u2 sk, av) lwM 0 33) H := lw_b_vt hP _ (List.mem_of_getElem? (i := 8) rfl)
set_option maxRecDepth 100000 in
theorem lw_c_0_34 {D : va_G} {cI cZ cE : ClassId} {u1 : Nat → Nat → Nat} {u2 sk av : Nat → Nat} {H : Heap} (hP : va_P D vwCl (raW cI cZ cE u1 ++ mdW cI cZ cE u2) H) : va_at D vwCl (lwρ u1 u2 sk 0 34, am_ent (D, (cI, cZ, cE), lwρ u1 u2 sk, av) lwM 0 34) H := lw_b_fo hP _ (List.mem_of_getElem? (i := 0) rfl)
set_option maxRecDepth 100000 in
theorem lw_c_0_36 {D : va_G} {cI cZ cE : ClassId} {u1 : Nat → Nat → Nat} {u2 sk av : Nat → Nat} {H : Heap} (hP : va_P D vwCl (raW cI cZ cE u1 ++ mdW cI cZ cE u2) H) : va_at D vwCl (lwρ u1 u2 sk 0 36, am_ent (D, (cI, cZ, cE), lwρ u1 u2 sk, av) lwM 0 36) H := lw_b_fo hP _ (List.mem_of_getElem? (i := 2) rfl)
set_option maxRecDepth 100000 in
theorem lw_c_0_37 {D : va_G} {cI cZ cE : ClassId} {u1 : Nat → Nat → Nat} {u2 sk av : Nat → Nat} {H : Heap} (hP : va_P D vwCl (raW cI cZ cE u1 ++ mdW cI cZ cE u2) H) : va_at D vwCl (lwρ u1 u2 sk 0 37, am_ent (D, (cI, cZ, cE), lwρ u1 u2 sk, av) lwM 0 37) H := lw_b_fo hP _ (List.mem_of_getElem? (i := 3) rfl)
set_option maxRecDepth 100000 in
theorem lw_c_0_38 {D : va_G} {cI cZ cE : ClassId} {u1 : Nat → Nat → Nat} {u2 sk av : Nat → Nat} {H : Heap} (hP : va_P D vwCl (raW cI cZ cE u1 ++ mdW cI cZ cE u2) H) : va_at D vwCl (lwρ u1 u2 sk 0 38, am_ent (D, (cI, cZ, cE), lwρ u1 u2 sk, av) lwM 0 38) H := lw_b_fo hP _ (List.mem_of_getElem? (i := 4) rfl)
set_option maxRecDepth 100000 in
theorem lw_c_0_39 {D : va_G} {cI cZ cE : ClassId} {u1 : Nat → Nat → Nat} {u2 sk av : Nat → Nat} {H : Heap} (hP : va_P D vwCl (raW cI cZ cE u1 ++ mdW cI cZ cE u2) H) : va_at D vwCl (lwρ u1 u2 sk 0 39, am_ent (D, (cI, cZ, cE), lwρ u1 u2 sk, av) lwM 0 39) H := lw_b_fo hP _ (List.mem_of_getElem? (i := 5) rfl)
set_option maxRecDepth 100000 in
theorem lw_c_0_40 {D : va_G} {cI cZ cE : ClassId} {u1 : Nat → Nat → Nat} {u2 sk av : Nat → Nat} {H : Heap} (hP : va_P D vwCl (raW cI cZ cE u1 ++ mdW cI cZ cE u2) H) : va_at D vwCl (lwρ u1 u2 sk 0 40, am_ent (D, (cI, cZ, cE), lwρ u1 u2 sk, av) lwM 0 40) H := lw_b_fo hP _ (List.mem_of_getElem? (i := 6) rfl)
set_option maxRecDepth 100000 in
theorem lw_c_0_12 {D : va_G} {cI cZ cE : ClassId} {u1 : Nat → Nat → Nat} {u2 sk av : Nat → Nat} {H : Heap} (hP : va_P D vwCl (raW cI cZ cE u1 ++ mdW cI cZ cE u2) H) : va_at D vwCl (lwρ u1 u2 sk 0 12, am_ent (D, (cI, cZ, cE), lwρ u1 u2 sk, av) lwM 0 12) H := by
  have h1 := lw_b_o12 hP _ (List.mem_of_getElem? (i := 0) rfl)
  refine lw_upd1 (g := fun i => some (lwρ u1 u2 sk (1 + i) 0)) h1 (fun i hi => ?_)
  rcases (show i = 0 ∨ i = 1 by omega) with rfl | rfl <;> rfl
set_option maxRecDepth 100000 in
theorem lw_c_0_35 {D : va_G} {cI cZ cE : ClassId} {u1 : Nat → Nat → Nat} {u2 sk av : Nat → Nat} {H : Heap} (hP : va_P D vwCl (raW cI cZ cE u1 ++ mdW cI cZ cE u2) H) : va_at D vwCl (lwρ u1 u2 sk 0 35, am_ent (D, (cI, cZ, cE), lwρ u1 u2 sk, av) lwM 0 35) H := by
  have h1 := lw_b_fo hP _ (List.mem_of_getElem? (i := 1) rfl)
  refine lw_upd1 (g := fun i => some (lwρ u1 u2 sk (3 + i) 0)) h1 (fun i hi => ?_)
  rcases (show i = 0 ∨ i = 1 ∨ i = 2 ∨ i = 3 ∨ i = 4 ∨ i = 5 by omega) with rfl | rfl | rfl | rfl | rfl | rfl <;> rfl
set_option maxRecDepth 100000 in
set_option maxHeartbeats 4000000 in
theorem lw_e41 (D : va_G) (cI cZ cE : ClassId) (u1 : Nat → Nat → Nat) (u2 sk av : Nat → Nat) : am_ent (D, (cI, cZ, cE), lwρ u1 u2 sk, av) lwM 0 41 = .inr (11, [.int 0, .ref (u2 42), .int 0, .ref (u2 43), .ref (u2 44), .int 2, .int 0, .ref (u2 45), .int 0, .int 0, .long 0, .int 0, .int 0, .int 0, .int 0, .int 0, .int 0, .ref (u2 46), .ref (u2 47), .ref (u2 48), .ref (u2 49), .ref (u2 50), .int 0, .ref (u2 51), .int 0, .int 0, .int 0, .ref (u2 52), .ref (u2 53), .ref (u2 54), .int (-1), .int 0, .ref (u2 55), .ref (u2 56), .int 0]) := by
  rw [am_ent_obj (show am_shape 41 = some (.inr (11, [.inl 0, .inr (0, 42), .inl 0, .inr (0, 43), .inr (0, 44), .inl 0, .inl 0, .inr (0, 45), .inl 0, .inl 0, .inl 2, .inl 0, .inl 0, .inl 0, .inl 0, .inl 0, .inl 0, .inr (0, 46), .inr (0, 47), .inr (0, 48), .inr (0, 49), .inr (0, 50), .inl 0, .inr (0, 51), .inl 0, .inl 0, .inl 0, .inr (0, 52), .inr (0, 53), .inr (0, 54), .inl 0, .inl 1, .inr (0, 55), .inr (0, 56), .inl 0])) from rfl)]
  simp only [List.mapIdx_cons, List.mapIdx_nil]
  rfl
theorem lw_c_0_41 {D : va_G} {cI cZ cE : ClassId} {u1 : Nat → Nat → Nat} {u2 sk av : Nat → Nat} {H : Heap} (hP : va_P D vwCl (raW cI cZ cE u1 ++ mdW cI cZ cE u2) H) : va_at D vwCl (lwρ u1 u2 sk 0 41, am_ent (D, (cI, cZ, cE), lwρ u1 u2 sk, av) lwM 0 41) H := by
  rw [lw_e41]
  exact lw_b_md hP _ (List.mem_of_getElem? (i := 0) rfl)
set_option maxRecDepth 100000 in
theorem lw_c_0_42 {D : va_G} {cI cZ cE : ClassId} {u1 : Nat → Nat → Nat} {u2 sk av : Nat → Nat} {H : Heap} (hP : va_P D vwCl (raW cI cZ cE u1 ++ mdW cI cZ cE u2) H) : va_at D vwCl (lwρ u1 u2 sk 0 42, am_ent (D, (cI, cZ, cE), lwρ u1 u2 sk, av) lwM 0 42) H := lw_b_md hP _ (List.mem_of_getElem? (i := 1) rfl)
set_option maxRecDepth 100000 in
theorem lw_c_0_43 {D : va_G} {cI cZ cE : ClassId} {u1 : Nat → Nat → Nat} {u2 sk av : Nat → Nat} {H : Heap} (hP : va_P D vwCl (raW cI cZ cE u1 ++ mdW cI cZ cE u2) H) : va_at D vwCl (lwρ u1 u2 sk 0 43, am_ent (D, (cI, cZ, cE), lwρ u1 u2 sk, av) lwM 0 43) H := lw_b_md hP _ (List.mem_of_getElem? (i := 2) rfl)
set_option maxRecDepth 100000 in
theorem lw_c_0_44 {D : va_G} {cI cZ cE : ClassId} {u1 : Nat → Nat → Nat} {u2 sk av : Nat → Nat} {H : Heap} (hP : va_P D vwCl (raW cI cZ cE u1 ++ mdW cI cZ cE u2) H) : va_at D vwCl (lwρ u1 u2 sk 0 44, am_ent (D, (cI, cZ, cE), lwρ u1 u2 sk, av) lwM 0 44) H := lw_b_md hP _ (List.mem_of_getElem? (i := 3) rfl)
set_option maxRecDepth 100000 in
theorem lw_c_0_45 {D : va_G} {cI cZ cE : ClassId} {u1 : Nat → Nat → Nat} {u2 sk av : Nat → Nat} {H : Heap} (hP : va_P D vwCl (raW cI cZ cE u1 ++ mdW cI cZ cE u2) H) : va_at D vwCl (lwρ u1 u2 sk 0 45, am_ent (D, (cI, cZ, cE), lwρ u1 u2 sk, av) lwM 0 45) H := lw_b_md hP _ (List.mem_of_getElem? (i := 4) rfl)
set_option maxRecDepth 100000 in
theorem lw_c_0_46 {D : va_G} {cI cZ cE : ClassId} {u1 : Nat → Nat → Nat} {u2 sk av : Nat → Nat} {H : Heap} (hP : va_P D vwCl (raW cI cZ cE u1 ++ mdW cI cZ cE u2) H) : va_at D vwCl (lwρ u1 u2 sk 0 46, am_ent (D, (cI, cZ, cE), lwρ u1 u2 sk, av) lwM 0 46) H := lw_b_md hP _ (List.mem_of_getElem? (i := 5) rfl)
set_option maxRecDepth 100000 in
theorem lw_c_0_47 {D : va_G} {cI cZ cE : ClassId} {u1 : Nat → Nat → Nat} {u2 sk av : Nat → Nat} {H : Heap} (hP : va_P D vwCl (raW cI cZ cE u1 ++ mdW cI cZ cE u2) H) : va_at D vwCl (lwρ u1 u2 sk 0 47, am_ent (D, (cI, cZ, cE), lwρ u1 u2 sk, av) lwM 0 47) H := lw_b_md hP _ (List.mem_of_getElem? (i := 6) rfl)
set_option maxRecDepth 100000 in
theorem lw_c_0_48 {D : va_G} {cI cZ cE : ClassId} {u1 : Nat → Nat → Nat} {u2 sk av : Nat → Nat} {H : Heap} (hP : va_P D vwCl (raW cI cZ cE u1 ++ mdW cI cZ cE u2) H) : va_at D vwCl (lwρ u1 u2 sk 0 48, am_ent (D, (cI, cZ, cE), lwρ u1 u2 sk, av) lwM 0 48) H := lw_b_md hP _ (List.mem_of_getElem? (i := 7) rfl)
set_option maxRecDepth 100000 in
theorem lw_c_0_49 {D : va_G} {cI cZ cE : ClassId} {u1 : Nat → Nat → Nat} {u2 sk av : Nat → Nat} {H : Heap} (hP : va_P D vwCl (raW cI cZ cE u1 ++ mdW cI cZ cE u2) H) : va_at D vwCl (lwρ u1 u2 sk 0 49, am_ent (D, (cI, cZ, cE), lwρ u1 u2 sk, av) lwM 0 49) H := lw_b_md hP _ (List.mem_of_getElem? (i := 8) rfl)
set_option maxRecDepth 100000 in
theorem lw_c_0_50 {D : va_G} {cI cZ cE : ClassId} {u1 : Nat → Nat → Nat} {u2 sk av : Nat → Nat} {H : Heap} (hP : va_P D vwCl (raW cI cZ cE u1 ++ mdW cI cZ cE u2) H) : va_at D vwCl (lwρ u1 u2 sk 0 50, am_ent (D, (cI, cZ, cE), lwρ u1 u2 sk, av) lwM 0 50) H := lw_b_md hP _ (List.mem_of_getElem? (i := 9) rfl)
set_option maxRecDepth 100000 in
theorem lw_c_0_51 {D : va_G} {cI cZ cE : ClassId} {u1 : Nat → Nat → Nat} {u2 sk av : Nat → Nat} {H : Heap} (hP : va_P D vwCl (raW cI cZ cE u1 ++ mdW cI cZ cE u2) H) : va_at D vwCl (lwρ u1 u2 sk 0 51, am_ent (D, (cI, cZ, cE), lwρ u1 u2 sk, av) lwM 0 51) H := lw_b_md hP _ (List.mem_of_getElem? (i := 10) rfl)
set_option maxRecDepth 100000 in
theorem lw_c_0_52 {D : va_G} {cI cZ cE : ClassId} {u1 : Nat → Nat → Nat} {u2 sk av : Nat → Nat} {H : Heap} (hP : va_P D vwCl (raW cI cZ cE u1 ++ mdW cI cZ cE u2) H) : va_at D vwCl (lwρ u1 u2 sk 0 52, am_ent (D, (cI, cZ, cE), lwρ u1 u2 sk, av) lwM 0 52) H := lw_b_md hP _ (List.mem_of_getElem? (i := 11) rfl)
set_option maxRecDepth 100000 in
theorem lw_c_0_53 {D : va_G} {cI cZ cE : ClassId} {u1 : Nat → Nat → Nat} {u2 sk av : Nat → Nat} {H : Heap} (hP : va_P D vwCl (raW cI cZ cE u1 ++ mdW cI cZ cE u2) H) : va_at D vwCl (lwρ u1 u2 sk 0 53, am_ent (D, (cI, cZ, cE), lwρ u1 u2 sk, av) lwM 0 53) H := lw_b_md hP _ (List.mem_of_getElem? (i := 12) rfl)
set_option maxRecDepth 100000 in
theorem lw_c_0_54 {D : va_G} {cI cZ cE : ClassId} {u1 : Nat → Nat → Nat} {u2 sk av : Nat → Nat} {H : Heap} (hP : va_P D vwCl (raW cI cZ cE u1 ++ mdW cI cZ cE u2) H) : va_at D vwCl (lwρ u1 u2 sk 0 54, am_ent (D, (cI, cZ, cE), lwρ u1 u2 sk, av) lwM 0 54) H := lw_b_md hP _ (List.mem_of_getElem? (i := 13) rfl)
set_option maxRecDepth 100000 in
theorem lw_c_0_55 {D : va_G} {cI cZ cE : ClassId} {u1 : Nat → Nat → Nat} {u2 sk av : Nat → Nat} {H : Heap} (hP : va_P D vwCl (raW cI cZ cE u1 ++ mdW cI cZ cE u2) H) : va_at D vwCl (lwρ u1 u2 sk 0 55, am_ent (D, (cI, cZ, cE), lwρ u1 u2 sk, av) lwM 0 55) H := lw_b_md hP _ (List.mem_of_getElem? (i := 14) rfl)
set_option maxRecDepth 100000 in
theorem lw_c_0_56 {D : va_G} {cI cZ cE : ClassId} {u1 : Nat → Nat → Nat} {u2 sk av : Nat → Nat} {H : Heap} (hP : va_P D vwCl (raW cI cZ cE u1 ++ mdW cI cZ cE u2) H) : va_at D vwCl (lwρ u1 u2 sk 0 56, am_ent (D, (cI, cZ, cE), lwρ u1 u2 sk, av) lwM 0 56) H := lw_b_md hP _ (List.mem_of_getElem? (i := 15) rfl)
theorem lw_idk : ∀ c ∈ am_ids, (c.1 ≤ 8 ∧ c.2 ≤ 10) ∨ (c.1 = 9 ∧ 1 ≤ c.2 ∧ c.2 ≤ 5) ∨ (c.1 = 0 ∧ 11 ≤ c.2 ∧ c.2 ≤ 56) := by decide +kernel
theorem lw_P0 {D : va_G} {cI cZ cE : ClassId} {u1 : Nat → Nat → Nat} {u2 sk av : Nat → Nat} {H : Heap} (hP : va_P D vwCl (raW cI cZ cE u1 ++ mdW cI cZ cE u2) H) : va_P D vwCl (am_world (D, (cI, cZ, cE), lwρ u1 u2 sk, av) lwM) H := by
  intro k q hk
  unfold am_world at hk
  rw [List.getElem?_map] at hk
  cases hc : am_ids[k]? with
  | none => rw [hc] at hk; cases hk
  | some c =>
    rw [hc] at hk
    have hq := Option.some.inj hk
    subst hq
    obtain ⟨e, p⟩ := c
    rcases lw_idk _ (List.mem_of_getElem? hc) with h | h | h
    · obtain ⟨h1, h2⟩ := h
      have h1 : e ≤ 8 := h1
      have h2 : p ≤ 10 := h2
      show va_at D vwCl (lwρ u1 u2 sk e p, am_ent (D, (cI, cZ, cE), lwρ u1 u2 sk, av) lwM e p) H
      rcases (show e = 0 ∨ e = 1 ∨ e = 2 ∨ e = 3 ∨ e = 4 ∨ e = 5 ∨ e = 6 ∨ e = 7 ∨ e = 8 by omega) with rfl | rfl | rfl | rfl | rfl | rfl | rfl | rfl | rfl
      · exact lw_ev (lw_b_ev0 hP) p h2
      · exact lw_ev (lw_b_ev1 hP) p h2
      · exact lw_ev (lw_b_ev2 hP) p h2
      · exact lw_ev (lw_b_ev3 hP) p h2
      · exact lw_ev (lw_b_ev4 hP) p h2
      · exact lw_ev (lw_b_ev5 hP) p h2
      · exact lw_ev (lw_b_ev6 hP) p h2
      · exact lw_ev (lw_b_ev7 hP) p h2
      · exact lw_ev (lw_b_ev8 hP) p h2
    · obtain ⟨h1, h2, h3⟩ := h
      have h1 : e = 9 := h1
      have h2 : 1 ≤ p := h2
      have h3 : p ≤ 5 := h3
      subst h1
      show va_at D vwCl (lwρ u1 u2 sk 9 p, am_ent (D, (cI, cZ, cE), lwρ u1 u2 sk, av) lwM 9 p) H
      rcases (show p = 1 ∨ p = 2 ∨ p = 3 ∨ p = 4 ∨ p = 5 by omega) with rfl | rfl | rfl | rfl | rfl
      · exact lw_c_9_1 (u1 := u1) (u2 := u2) (sk := sk) (av := av) hP
      · exact lw_c_9_2 (u1 := u1) (u2 := u2) (sk := sk) (av := av) hP
      · exact lw_c_9_3 (u1 := u1) (u2 := u2) (sk := sk) (av := av) hP
      · exact lw_c_9_4 (u1 := u1) (u2 := u2) (sk := sk) (av := av) hP
      · exact lw_c_9_5 (u1 := u1) (u2 := u2) (sk := sk) (av := av) hP
    · obtain ⟨h1, h2, h3⟩ := h
      have h1 : e = 0 := h1
      have h2 : 11 ≤ p := h2
      have h3 : p ≤ 56 := h3
      subst h1
      show va_at D vwCl (lwρ u1 u2 sk 0 p, am_ent (D, (cI, cZ, cE), lwρ u1 u2 sk, av) lwM 0 p) H
      rcases (show p = 11 ∨ p = 12 ∨ p = 13 ∨ p = 14 ∨ p = 15 ∨ p = 16 ∨ p = 17 ∨ p = 18 ∨ p = 19 ∨ p = 20 ∨ p = 21 ∨ p = 22 ∨ p = 23 ∨ p = 24 ∨ p = 25 ∨ p = 26 ∨ p = 27 ∨ p = 28 ∨ p = 29 ∨ p = 30 ∨ p = 31 ∨ p = 32 ∨ p = 33 ∨ p = 34 ∨ p = 35 ∨ p = 36 ∨ p = 37 ∨ p = 38 ∨ p = 39 ∨ p = 40 ∨ p = 41 ∨ p = 42 ∨ p = 43 ∨ p = 44 ∨ p = 45 ∨ p = 46 ∨ p = 47 ∨ p = 48 ∨ p = 49 ∨ p = 50 ∨ p = 51 ∨ p = 52 ∨ p = 53 ∨ p = 54 ∨ p = 55 ∨ p = 56 by omega) with rfl | rfl | rfl | rfl | rfl | rfl | rfl | rfl | rfl | rfl | rfl | rfl | rfl | rfl | rfl | rfl | rfl | rfl | rfl | rfl | rfl | rfl | rfl | rfl | rfl | rfl | rfl | rfl | rfl | rfl | rfl | rfl | rfl | rfl | rfl | rfl | rfl | rfl | rfl | rfl | rfl | rfl | rfl | rfl | rfl | rfl
      · exact lw_c_0_11 (u1 := u1) (u2 := u2) (sk := sk) (av := av) hP
      · exact lw_c_0_12 (u1 := u1) (u2 := u2) (sk := sk) (av := av) hP
      · exact lw_c_0_13 (u1 := u1) (u2 := u2) (sk := sk) (av := av) hP
      · exact lw_c_0_14 (u1 := u1) (u2 := u2) (sk := sk) (av := av) hP
      · exact lw_c_0_15 (u1 := u1) (u2 := u2) (sk := sk) (av := av) hP
      · exact lw_c_0_16 (u1 := u1) (u2 := u2) (sk := sk) (av := av) hP
      · exact lw_c_0_17 (u1 := u1) (u2 := u2) (sk := sk) (av := av) hP
      · exact lw_c_0_18 (u1 := u1) (u2 := u2) (sk := sk) (av := av) hP
      · exact lw_c_0_19 (u1 := u1) (u2 := u2) (sk := sk) (av := av) hP
      · exact lw_c_0_20 (u1 := u1) (u2 := u2) (sk := sk) (av := av) hP
      · exact lw_c_0_21 (u1 := u1) (u2 := u2) (sk := sk) (av := av) hP
      · exact lw_c_0_22 (u1 := u1) (u2 := u2) (sk := sk) (av := av) hP
      · exact lw_c_0_23 (u1 := u1) (u2 := u2) (sk := sk) (av := av) hP
      · exact lw_c_0_24 (u1 := u1) (u2 := u2) (sk := sk) (av := av) hP
      · exact lw_c_0_25 (u1 := u1) (u2 := u2) (sk := sk) (av := av) hP
      · exact lw_c_0_26 (u1 := u1) (u2 := u2) (sk := sk) (av := av) hP
      · exact lw_c_0_27 (u1 := u1) (u2 := u2) (sk := sk) (av := av) hP
      · exact lw_c_0_28 (u1 := u1) (u2 := u2) (sk := sk) (av := av) hP
      · exact lw_c_0_29 (u1 := u1) (u2 := u2) (sk := sk) (av := av) hP
      · exact lw_c_0_30 (u1 := u1) (u2 := u2) (sk := sk) (av := av) hP
      · exact lw_c_0_31 (u1 := u1) (u2 := u2) (sk := sk) (av := av) hP
      · exact lw_c_0_32 (u1 := u1) (u2 := u2) (sk := sk) (av := av) hP
      · exact lw_c_0_33 (u1 := u1) (u2 := u2) (sk := sk) (av := av) hP
      · exact lw_c_0_34 (u1 := u1) (u2 := u2) (sk := sk) (av := av) hP
      · exact lw_c_0_35 (u1 := u1) (u2 := u2) (sk := sk) (av := av) hP
      · exact lw_c_0_36 (u1 := u1) (u2 := u2) (sk := sk) (av := av) hP
      · exact lw_c_0_37 (u1 := u1) (u2 := u2) (sk := sk) (av := av) hP
      · exact lw_c_0_38 (u1 := u1) (u2 := u2) (sk := sk) (av := av) hP
      · exact lw_c_0_39 (u1 := u1) (u2 := u2) (sk := sk) (av := av) hP
      · exact lw_c_0_40 (u1 := u1) (u2 := u2) (sk := sk) (av := av) hP
      · exact lw_c_0_41 (u1 := u1) (u2 := u2) (sk := sk) (av := av) hP
      · exact lw_c_0_42 (u1 := u1) (u2 := u2) (sk := sk) (av := av) hP
      · exact lw_c_0_43 (u1 := u1) (u2 := u2) (sk := sk) (av := av) hP
      · exact lw_c_0_44 (u1 := u1) (u2 := u2) (sk := sk) (av := av) hP
      · exact lw_c_0_45 (u1 := u1) (u2 := u2) (sk := sk) (av := av) hP
      · exact lw_c_0_46 (u1 := u1) (u2 := u2) (sk := sk) (av := av) hP
      · exact lw_c_0_47 (u1 := u1) (u2 := u2) (sk := sk) (av := av) hP
      · exact lw_c_0_48 (u1 := u1) (u2 := u2) (sk := sk) (av := av) hP
      · exact lw_c_0_49 (u1 := u1) (u2 := u2) (sk := sk) (av := av) hP
      · exact lw_c_0_50 (u1 := u1) (u2 := u2) (sk := sk) (av := av) hP
      · exact lw_c_0_51 (u1 := u1) (u2 := u2) (sk := sk) (av := av) hP
      · exact lw_c_0_52 (u1 := u1) (u2 := u2) (sk := sk) (av := av) hP
      · exact lw_c_0_53 (u1 := u1) (u2 := u2) (sk := sk) (av := av) hP
      · exact lw_c_0_54 (u1 := u1) (u2 := u2) (sk := sk) (av := av) hP
      · exact lw_c_0_55 (u1 := u1) (u2 := u2) (sk := sk) (av := av) hP
      · exact lw_c_0_56 (u1 := u1) (u2 := u2) (sk := sk) (av := av) hP
set_option maxRecDepth 100000 in
set_option maxHeartbeats 4000000 in
theorem lw_adr {cI cZ cE : ClassId} {u1 : Nat → Nat → Nat} {u2 sk : Nat → Nat} : (raW cI cZ cE u1 ++ mdW cI cZ cE u2).map (fun x => x.1) = lw_cr.map (fun c => lwρ u1 u2 sk c.1 c.2) := rfl
theorem lw_at {cI cZ cE : ClassId} {u1 : Nat → Nat → Nat} {u2 sk : Nat → Nat} {c : Nat × Nat} {k : Nat} (h : lw_cr[k]? = some c) : ∃ x, (raW cI cZ cE u1 ++ mdW cI cZ cE u2)[k]? = some x ∧ x.1 = lwρ u1 u2 sk c.1 c.2 := by
  have e := lw_adr (cI := cI) (cZ := cZ) (cE := cE) (u1 := u1) (u2 := u2) (sk := sk)
  have h1 : ((raW cI cZ cE u1 ++ mdW cI cZ cE u2).map (fun x => x.1))[k]? = some (lwρ u1 u2 sk c.1 c.2) := by
    rw [e, List.getElem?_map, h]
    rfl
  rw [List.getElem?_map] at h1
  cases hx : (raW cI cZ cE u1 ++ mdW cI cZ cE u2)[k]? with
  | none => rw [hx] at h1; cases h1
  | some x =>
    rw [hx] at h1
    exact ⟨x, rfl, Option.some.inj h1⟩
theorem lw_okr {A : Nat → Prop} {cI cZ cE : ClassId} {u1 : Nat → Nat → Nat} {u2 sk : Nat → Nat} (hD : va_D A (raW cI cZ cE u1 ++ mdW cI cZ cE u2)) : am_okr (lwρ u1 u2 sk) ∧ ∀ c ∈ am_ids, A (lwρ u1 u2 sk c.1 c.2) := by
  refine ⟨fun c hc c' hc' he => ?_, fun c hc => ?_⟩
  · obtain ⟨k, hk⟩ := List.getElem?_of_mem (lw_crs c hc)
    obtain ⟨k', hk'⟩ := List.getElem?_of_mem (lw_crs c' hc')
    obtain ⟨x, h1, h2⟩ := lw_at (cI := cI) (cZ := cZ) (cE := cE) (u1 := u1) (u2 := u2) (sk := sk) hk
    obtain ⟨x', h1', h2'⟩ := lw_at (cI := cI) (cZ := cZ) (cE := cE) (u1 := u1) (u2 := u2) (sk := sk) hk'
    have := hD.1 k k' x x' h1 h1' (by rw [h2, h2', he])
    subst this
    rw [hk] at hk'
    exact Option.some.inj hk'
  · obtain ⟨k, hk⟩ := List.getElem?_of_mem (lw_crs c hc)
    obtain ⟨x, h1, h2⟩ := lw_at (cI := cI) (cZ := cZ) (cE := cE) (u1 := u1) (u2 := u2) (sk := sk) hk
    rw [← h2]
    exact hD.2 k x h1
theorem lw_rel : Rel lwM := by
  refine ⟨0, 0, ⟨⟨rfl, rfl, by omega⟩, ⟨rfl, rfl, by omega⟩, ⟨rfl, (show (1 : Int) ≤ 2 by omega), (show (2 : Int) ≤ 9 by omega)⟩, fun i hi => absurd hi (Nat.not_lt_zero i), fun i hi => absurd hi (Nat.not_lt_zero i), fun i m hi => absurd hi (Nat.not_lt_zero i), fun i m _ _ _ => rfl, fun k _ => (show -9 ≤ (0 : Int) ∧ (0 : Int) ≤ 9 by omega)⟩, ⟨⟨rfl, rfl⟩, fun i hi => absurd hi (Nat.not_lt_zero i), ⟨rfl, (show (0 : Int) ≤ 0 by omega), (show (0 : Int) ≤ 0 by omega)⟩, fun i hi => absurd hi (Nat.not_lt_zero i), fun i hi => absurd hi (Nat.not_lt_zero i), fun i hi => absurd hi (Nat.not_lt_zero i), fun k _ => ⟨rfl, (show (0 : Int) ≤ 0 by omega), (show (0 : Int) ≤ 99 by omega)⟩, fun k m hk _ => absurd (show (k : Int) < 0 from hk) (by omega)⟩, fun k _ => ⟨rfl, Or.inl rfl, fun h => absurd (show (0 : Int) = 1 from h) (by omega)⟩, ⟨⟨rfl, (show (0 : Int) ≤ 0 by omega), (show (0 : Int) ≤ 8 by omega)⟩, fun k hk => absurd (show (k : Int) < 0 from hk) (by omega)⟩, ⟨⟨rfl, (show (0 : Int) ≤ 0 by omega), (show (0 : Int) ≤ 200 by omega)⟩, fun k hk => absurd (show (k : Int) < 0 from hk) (by omega)⟩, rfl, rfl⟩
