theorem rX11_never_0 : mj_chkr eX11_never kX11_never 0 50 = true := by decide +kernel
theorem rX11_never : mj_Rok eX11_never := mj_Rok.of (n := 50) (by decide +kernel) (fun i hi => mj_chkr_spec rX11_never_0 i (Nat.zero_le i) (by omega))
theorem mX11_never : mj_Mok eX11_never := ⟨by decide +kernel, rfl⟩
theorem rX11_count_0 : mj_chkr eX11_count kX11_count 0 14 = true := by decide +kernel
theorem rX11_count : mj_Rok eX11_count := mj_Rok.of (n := 14) (by decide +kernel) (fun i hi => mj_chkr_spec rX11_count_0 i (Nat.zero_le i) (by omega))
theorem mX11_count : mj_Mok eX11_count := ⟨by decide +kernel, rfl⟩
theorem rX11_image_0 : mj_chkr eX11_image kX11_image 0 25 = true := by decide +kernel
theorem rX11_image : mj_Rok eX11_image := mj_Rok.of (n := 25) (by decide +kernel) (fun i hi => mj_chkr_spec rX11_image_0 i (Nat.zero_le i) (by omega))
theorem mX11_image : mj_Mok eX11_image := ⟨by decide +kernel, rfl⟩
theorem rX11_greatestGap_0 : mj_chkr eX11_greatestGap kX11_greatestGap 0 27 = true := by decide +kernel
theorem rX11_greatestGap : mj_Rok eX11_greatestGap := mj_Rok.of (n := 27) (by decide +kernel) (fun i hi => mj_chkr_spec rX11_greatestGap_0 i (Nat.zero_le i) (by omega))
theorem mX11_greatestGap : mj_Mok eX11_greatestGap := ⟨by decide +kernel, rfl⟩
theorem rX11_statesOf_0 : mj_chkr eX11_statesOf kX11_statesOf 0 25 = true := by decide +kernel
theorem rX11_statesOf : mj_Rok eX11_statesOf := mj_Rok.of (n := 25) (by decide +kernel) (fun i hi => mj_chkr_spec rX11_statesOf_0 i (Nat.zero_le i) (by omega))
theorem mX11_statesOf : mj_Mok eX11_statesOf := ⟨by decide +kernel, rfl⟩
theorem rX11_told_0 : mj_chkr eX11_told kX11_told 0 28 = true := by decide +kernel
theorem rX11_told : mj_Rok eX11_told := mj_Rok.of (n := 28) (by decide +kernel) (fun i hi => mj_chkr_spec rX11_told_0 i (Nat.zero_le i) (by omega))
theorem mX11_told : mj_Mok eX11_told := ⟨by decide +kernel, rfl⟩
theorem rX11_look_0 : mj_chkr eX11_look kX11_look 0 91 = true := by decide +kernel
theorem rX11_look : mj_Rok eX11_look := mj_Rok.of (n := 91) (by decide +kernel) (fun i hi => mj_chkr_spec rX11_look_0 i (Nat.zero_le i) (by omega))
theorem mX11_look : mj_Mok eX11_look := ⟨by decide +kernel, rfl⟩
theorem rJ9_max_7cf53_0 : mj_chkr eJ9_max_7cf53 kJ9_max_7cf53 0 7 = true := by decide +kernel
theorem rJ9_max_7cf53 : mj_Rok eJ9_max_7cf53 := mj_Rok.of (n := 7) (by decide +kernel) (fun i hi => mj_chkr_spec rJ9_max_7cf53_0 i (Nat.zero_le i) (by omega))
theorem rJ9_min_7cf53_0 : mj_chkr eJ9_min_7cf53 kJ9_min_7cf53 0 7 = true := by decide +kernel
theorem rJ9_min_7cf53 : mj_Rok eJ9_min_7cf53 := mj_Rok.of (n := 7) (by decide +kernel) (fun i hi => mj_chkr_spec rJ9_min_7cf53_0 i (Nat.zero_le i) (by omega))
theorem rJ7_fill_53178_0 : mj_chkr eJ7_fill_53178 kJ7_fill_53178 0 15 = true := by decide +kernel
theorem rJ7_fill_53178 : mj_Rok eJ7_fill_53178 := mj_Rok.of (n := 15) (by decide +kernel) (fun i hi => mj_chkr_spec rJ7_fill_53178_0 i (Nat.zero_le i) (by omega))
theorem mJ7_fill_53178 : mj_Mok eJ7_fill_53178 := ⟨by decide +kernel, rfl⟩
theorem rL_law_0 : mj_chkr eL_law kL_law 0 60 = true := by decide +kernel
theorem rL_law_60 : mj_chkr eL_law kL_law 60 60 = true := by decide +kernel
theorem rL_law_120 : mj_chkr eL_law kL_law 120 60 = true := by decide +kernel
theorem rL_law_180 : mj_chkr eL_law kL_law 180 60 = true := by decide +kernel
theorem rL_law_240 : mj_chkr eL_law kL_law 240 60 = true := by decide +kernel
theorem rL_law_300 : mj_chkr eL_law kL_law 300 60 = true := by decide +kernel
theorem rL_law_360 : mj_chkr eL_law kL_law 360 60 = true := by decide +kernel
theorem rL_law_420 : mj_chkr eL_law kL_law 420 60 = true := by decide +kernel
theorem rL_law_480 : mj_chkr eL_law kL_law 480 60 = true := by decide +kernel
theorem rL_law_540 : mj_chkr eL_law kL_law 540 60 = true := by decide +kernel
theorem rL_law_600 : mj_chkr eL_law kL_law 600 60 = true := by decide +kernel
theorem rL_law_660 : mj_chkr eL_law kL_law 660 60 = true := by decide +kernel
theorem rL_law_720 : mj_chkr eL_law kL_law 720 9 = true := by decide +kernel
theorem rL_law : mj_Rok eL_law := mj_Rok.of (n := 729) (by decide +kernel) (fun i hi => if h0 : i < 60 then mj_chkr_spec rL_law_0 i (by omega) (by omega) else if h60 : i < 120 then mj_chkr_spec rL_law_60 i (by omega) (by omega) else if h120 : i < 180 then mj_chkr_spec rL_law_120 i (by omega) (by omega) else if h180 : i < 240 then mj_chkr_spec rL_law_180 i (by omega) (by omega) else if h240 : i < 300 then mj_chkr_spec rL_law_240 i (by omega) (by omega) else if h300 : i < 360 then mj_chkr_spec rL_law_300 i (by omega) (by omega) else if h360 : i < 420 then mj_chkr_spec rL_law_360 i (by omega) (by omega) else if h420 : i < 480 then mj_chkr_spec rL_law_420 i (by omega) (by omega) else if h480 : i < 540 then mj_chkr_spec rL_law_480 i (by omega) (by omega) else if h540 : i < 600 then mj_chkr_spec rL_law_540 i (by omega) (by omega) else if h600 : i < 660 then mj_chkr_spec rL_law_600 i (by omega) (by omega) else if h660 : i < 720 then mj_chkr_spec rL_law_660 i (by omega) (by omega) else mj_chkr_spec rL_law_720 i (by omega) (by omega))
