theorem sy_f6 : sy_law sy_it 6 200000 (sy_Kop 2147483654 2147483654 1 1) = true := by decide +kernel
theorem sy_f7 : sy_law sy_it 6 200000 (sy_Kop 2147483655 2147483655 1 1) = true := by decide +kernel
