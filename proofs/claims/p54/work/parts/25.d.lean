/-! ===== the pure side: a slab copied ===== -/
theorem ln_off (i r : Nat) (hr : r < 16) : ln (sl i + r) = lslab.getD r 0 := by
  unfold ln sl
  rw [if_neg (by omega), show (100 + 16 * i + r - 100) % 16 = r by omega]
theorem cpy_row {i j r : Nat} {w : Wd} (hij : i ≠ j) (hr : r + 1 < 16) : p_X5_copy (sl i + r) (sl j + r) w = some (setR w (sl i + (r + 1)) (fun x => if 0 ≤ x ∧ x < (lslab.getD (r + 1) 0 : Nat) then gA w (sl j + (r + 1)) x else gA w (sl i + (r + 1)) x)) := by
  have h := copy_eq (o0 := sl i + r) (o1 := sl j + r) (w := w) (by unfold sl; omega) ((ln_off i (r + 1) hr).trans (ln_off j (r + 1) hr).symm)
  rw [show ln (sl i + r + 1) = lslab.getD (r + 1) 0 from ln_off i (r + 1) hr] at h
  exact h
