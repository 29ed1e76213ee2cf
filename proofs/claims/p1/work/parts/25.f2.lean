theorem sy_f2 : sy_law sy_it 6 200000 (sy_Kop 2147483650 2147483650 1 1) = true := by decide +kernel
theorem sy_f3 : sy_law sy_it 6 200000 (sy_Kop 2147483651 2147483651 1 1) = true := by decide +kernel
