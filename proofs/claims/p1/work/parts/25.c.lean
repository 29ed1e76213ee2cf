theorem sy_g18 : sy_law sy_it 6 200000 (sy_Kop 0 4294967295 18 18) = true := by decide +kernel
theorem sy_g19 : sy_law sy_it 6 200000 (sy_Kop 0 4294967295 19 20) = true := by decide +kernel
theorem sy_g21 : sy_law sy_it 6 200000 (sy_Kop 0 4294967295 21 21) = true := by decide +kernel
theorem sy_g22 : sy_law sy_it 6 200000 (sy_Kop 0 4294967295 22 31) = true := by decide +kernel
