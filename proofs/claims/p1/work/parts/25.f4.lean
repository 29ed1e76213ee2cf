theorem sy_f4 : sy_law sy_it 6 200000 (sy_Kop 2147483652 2147483652 1 1) = true := by decide +kernel
theorem sy_f5 : sy_law sy_it 6 200000 (sy_Kop 2147483653 2147483653 1 1) = true := by decide +kernel
