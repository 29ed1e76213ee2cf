theorem sy_len0 : sy_law sy_it 0 100000 [] = true := by decide +kernel
theorem sy_len1 : sy_law sy_it 1 100000 [] = true := by decide +kernel
theorem sy_len2 : sy_law sy_it 2 100000 [] = true := by decide +kernel
theorem sy_len3 : sy_law sy_it 3 100000 [] = true := by decide +kernel
theorem sy_len4 : sy_law sy_it 4 100000 [] = true := by decide +kernel
theorem sy_len5 : sy_law sy_it 5 100000 [] = true := by decide +kernel
