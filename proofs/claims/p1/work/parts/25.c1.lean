theorem sy_g18 : sy_law sy_it 6 200000 (sy_Kop 0 4294967295 18 18) = true := by decide +kernel
