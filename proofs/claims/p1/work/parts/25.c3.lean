theorem sy_g21b : sy_law sy_it 6 200000 (sy_Kop 2147483650 4294967295 21 21) = true := by decide +kernel
theorem sy_g22 : sy_law sy_it 6 200000 (sy_Kop 0 4294967295 22 31) = true := by decide +kernel
