theorem sy_g19 : sy_law sy_it 6 200000 (sy_Kop 0 4294967295 19 20) = true := by decide +kernel
theorem sy_g21a : sy_law sy_it 6 200000 (sy_Kop 0 2147483649 21 21) = true := by decide +kernel
