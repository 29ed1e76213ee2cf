theorem sy_g0 : sy_law sy_it 6 200000 (sy_Kop 0 4294967295 0 0) = true := by decide +kernel
theorem sy_g2 : sy_law sy_it 6 200000 (sy_Kop 0 4294967295 2 4) = true := by decide +kernel
theorem sy_g5 : sy_law sy_it 6 200000 (sy_Kop 0 4294967295 5 5) = true := by decide +kernel
theorem sy_g6 : sy_law sy_it 6 200000 (sy_Kop 0 4294967295 6 11) = true := by decide +kernel
theorem sy_g12 : sy_law sy_it 6 200000 (sy_Kop 0 4294967295 12 17) = true := by decide +kernel
