theorem allW_s {s k : Nat} {w : List Nat} (h : ∀ x, x < s - 1 → allW s k (x :: w) = true) : allW s (k + 1) w = true := by
  show (List.range (s - 1)).all (fun x => allW s k (x :: w)) = true
  exact List.all_eq_true.mpr (fun x hx => h x (List.mem_range.mp hx))
theorem aw8_00 : allW 4 6 [0, 0] = true := by decide +kernel
theorem aw8_01 : allW 4 6 [0, 1] = true := by decide +kernel
theorem aw8_02 : allW 4 6 [0, 2] = true := by decide +kernel
theorem aw8_10 : allW 4 6 [1, 0] = true := by decide +kernel
theorem aw8_11 : allW 4 6 [1, 1] = true := by decide +kernel
