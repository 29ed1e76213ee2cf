theorem sy_f0 : sy_law sy_it 6 200000 (sy_Kop 0 2147483648 1 1) = true := by decide +kernel
theorem sy_f1 : sy_law sy_it 6 200000 (sy_Kop 2147483649 2147483649 1 1) = true := by decide +kernel
