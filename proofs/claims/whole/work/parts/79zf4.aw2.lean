theorem aw8_12 : allW 4 6 [1, 2] = true := by decide +kernel
theorem aw8_20 : allW 4 6 [2, 0] = true := by decide +kernel
theorem aw8_21 : allW 4 6 [2, 1] = true := by decide +kernel
theorem aw8_22 : allW 4 6 [2, 2] = true := by decide +kernel
