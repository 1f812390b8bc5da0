theorem am_sh_ok : ∀ p, p < 57 → am_shchk p = true := by decide +kernel
theorem am_sh_none : ∀ p, 57 ≤ p → am_shape p = none := by
  intro p h
  unfold am_shape
  split <;> first | rfl | omega
theorem am_id_ok : am_ids.all am_idchk = true := by decide +kernel
theorem am_id_nd : am_ids.Nodup := by decide +kernel
