theorem aw7_0 : allW 4 6 [0] = true := by decide +kernel
theorem aw7_1 : allW 4 6 [1] = true := by decide +kernel
theorem aw7_2 : allW 4 6 [2] = true := by decide +kernel
theorem aw4_0 : allW 4 0 [] = true := by decide +kernel
theorem aw4_1 : allW 4 1 [] = true := by decide +kernel
theorem aw4_2 : allW 4 2 [] = true := by decide +kernel
theorem aw4_3 : allW 4 3 [] = true := by decide +kernel
theorem aw4_4 : allW 4 4 [] = true := by decide +kernel
theorem aw4_5 : allW 4 5 [] = true := by decide +kernel
theorem aw4_6 : allW 4 6 [] = true := by decide +kernel
theorem aw3_0 : allW 3 0 [] = true := by decide +kernel
theorem aw3_1 : allW 3 1 [] = true := by decide +kernel
theorem aw3_2 : allW 3 2 [] = true := by decide +kernel
theorem aw3_3 : allW 3 3 [] = true := by decide +kernel
theorem aw3_4 : allW 3 4 [] = true := by decide +kernel
theorem aw3_5 : allW 3 5 [] = true := by decide +kernel
theorem aw3_6 : allW 3 6 [] = true := by decide +kernel
theorem aw3_7 : allW 3 7 [] = true := by decide +kernel
theorem aw3_8 : allW 3 8 [] = true := by decide +kernel
theorem aw2_0 : allW 2 0 [] = true := by decide +kernel
theorem aw2_1 : allW 2 1 [] = true := by decide +kernel
theorem aw2_2 : allW 2 2 [] = true := by decide +kernel
theorem aw2_3 : allW 2 3 [] = true := by decide +kernel
theorem aw2_4 : allW 2 4 [] = true := by decide +kernel
theorem aw2_5 : allW 2 5 [] = true := by decide +kernel
theorem aw2_6 : allW 2 6 [] = true := by decide +kernel
theorem aw2_7 : allW 2 7 [] = true := by decide +kernel
theorem aw2_8 : allW 2 8 [] = true := by decide +kernel
theorem lt3 {p : Nat → Prop} (h0 : p 0) (h1 : p 1) (h2 : p 2) : ∀ x, x < 4 - 1 → p x
  | 0, _ => h0
  | 1, _ => h1
  | 2, _ => h2
  | n + 3, h => absurd h (by omega)
theorem aw4_7 : allW 4 7 [] = true := allW_s (lt3 aw7_0 aw7_1 aw7_2)
theorem aw4_8 : allW 4 8 [] = true := allW_s (lt3 (allW_s (lt3 aw8_00 aw8_10 aw8_20)) (allW_s (lt3 aw8_01 aw8_11 aw8_21)) (allW_s (lt3 aw8_02 aw8_12 aw8_22)))
theorem lt9 {p : Nat → Prop} (h0 : p 0) (h1 : p 1) (h2 : p 2) (h3 : p 3) (h4 : p 4) (h5 : p 5) (h6 : p 6) (h7 : p 7) (h8 : p 8) : ∀ x, x ≤ 8 → p x
  | 0, _ => h0
  | 1, _ => h1
  | 2, _ => h2
  | 3, _ => h3
  | 4, _ => h4
  | 5, _ => h5
  | 6, _ => h6
  | 7, _ => h7
  | 8, _ => h8
  | n + 9, h => absurd h (by omega)
theorem aw_all (s n : Nat) (s2 : 2 ≤ s) (s4 : s ≤ 4) (hn : n ≤ 8) : allW s n [] = true := by
  have h : s = 2 ∨ s = 3 ∨ s = 4 := by omega
  rcases h with h | h | h
  · subst h; exact lt9 (p := fun n => allW 2 n [] = true) aw2_0 aw2_1 aw2_2 aw2_3 aw2_4 aw2_5 aw2_6 aw2_7 aw2_8 n hn
  · subst h; exact lt9 (p := fun n => allW 3 n [] = true) aw3_0 aw3_1 aw3_2 aw3_3 aw3_4 aw3_5 aw3_6 aw3_7 aw3_8 n hn
  · subst h; exact lt9 (p := fun n => allW 4 n [] = true) aw4_0 aw4_1 aw4_2 aw4_3 aw4_4 aw4_5 aw4_6 aw4_7 aw4_8 n hn
