theorem sy_f8 : sy_law sy_it 6 200000 (sy_Kop 2147483656 2147483656 1 1) = true := by decide +kernel
theorem sy_f9 : sy_law sy_it 6 200000 (sy_Kop 2147483657 4294967295 1 1) = true := by decide +kernel
