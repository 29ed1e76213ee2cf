theorem rX10_compact_0 : mj_chkr eX10_compact kX10_compact 0 5 = true := by decide +kernel
theorem rX10_compact : mj_Rok eX10_compact := mj_Rok.of (n := 5) (by decide +kernel) (fun i hi => mj_chkr_spec rX10_compact_0 i (Nat.zero_le i) (by omega))
theorem mX10_compact : mj_Mok eX10_compact := ⟨by decide +kernel, rfl⟩
theorem rX10_deep_0 : mj_chkr eX10_deep kX10_deep 0 14 = true := by decide +kernel
theorem rX10_deep : mj_Rok eX10_deep := mj_Rok.of (n := 14) (by decide +kernel) (fun i hi => mj_chkr_spec rX10_deep_0 i (Nat.zero_le i) (by omega))
theorem mX10_deep : mj_Mok eX10_deep := ⟨by decide +kernel, rfl⟩
theorem rX10_need_0 : mj_chkr eX10_need kX10_need 0 13 = true := by decide +kernel
theorem rX10_need : mj_Rok eX10_need := mj_Rok.of (n := 13) (by decide +kernel) (fun i hi => mj_chkr_spec rX10_need_0 i (Nat.zero_le i) (by omega))
theorem mX10_need : mj_Mok eX10_need := ⟨by decide +kernel, rfl⟩
theorem rX10_task_0 : mj_chkr eX10_task kX10_task 0 90 = true := by decide +kernel
theorem rX10_task : mj_Rok eX10_task := mj_Rok.of (n := 90) (by decide +kernel) (fun i hi => mj_chkr_spec rX10_task_0 i (Nat.zero_le i) (by omega))
theorem mX10_task : mj_Mok eX10_task := ⟨by decide +kernel, rfl⟩
theorem rX10_frame_0 : mj_chkr eX10_frame kX10_frame 0 77 = true := by decide +kernel
theorem rX10_frame : mj_Rok eX10_frame := mj_Rok.of (n := 77) (by decide +kernel) (fun i hi => mj_chkr_spec rX10_frame_0 i (Nat.zero_le i) (by omega))
theorem mX10_frame : mj_Mok eX10_frame := ⟨by decide +kernel, rfl⟩
theorem rX10_slot_0 : mj_chkr eX10_slot kX10_slot 0 60 = true := by decide +kernel
theorem rX10_slot_60 : mj_chkr eX10_slot kX10_slot 60 47 = true := by decide +kernel
theorem rX10_slot : mj_Rok eX10_slot := mj_Rok.of (n := 107) (by decide +kernel) (fun i hi => if h0 : i < 60 then mj_chkr_spec rX10_slot_0 i (by omega) (by omega) else mj_chkr_spec rX10_slot_60 i (by omega) (by omega))
theorem mX10_slot : mj_Mok eX10_slot := ⟨by decide +kernel, rfl⟩
theorem rX10_piece_0 : mj_chkr eX10_piece kX10_piece 0 54 = true := by decide +kernel
theorem rX10_piece : mj_Rok eX10_piece := mj_Rok.of (n := 54) (by decide +kernel) (fun i hi => mj_chkr_spec rX10_piece_0 i (Nat.zero_le i) (by omega))
theorem mX10_piece : mj_Mok eX10_piece := ⟨by decide +kernel, rfl⟩
theorem rX10_gap_0 : mj_chkr eX10_gap kX10_gap 0 22 = true := by decide +kernel
theorem rX10_gap : mj_Rok eX10_gap := mj_Rok.of (n := 22) (by decide +kernel) (fun i hi => mj_chkr_spec rX10_gap_0 i (Nat.zero_le i) (by omega))
theorem mX10_gap : mj_Mok eX10_gap := ⟨by decide +kernel, rfl⟩
theorem rX10_endless_0 : mj_chkr eX10_endless kX10_endless 0 40 = true := by decide +kernel
theorem rX10_endless : mj_Rok eX10_endless := mj_Rok.of (n := 40) (by decide +kernel) (fun i hi => mj_chkr_spec rX10_endless_0 i (Nat.zero_le i) (by omega))
theorem mX10_endless : mj_Mok eX10_endless := ⟨by decide +kernel, rfl⟩
theorem rX10_land_0 : mj_chkr eX10_land kX10_land 0 62 = true := by decide +kernel
theorem rX10_land : mj_Rok eX10_land := mj_Rok.of (n := 62) (by decide +kernel) (fun i hi => mj_chkr_spec rX10_land_0 i (Nat.zero_le i) (by omega))
theorem mX10_land : mj_Mok eX10_land := ⟨by decide +kernel, rfl⟩
theorem rX10_alone_0 : mj_chkr eX10_alone kX10_alone 0 73 = true := by decide +kernel
theorem rX10_alone : mj_Rok eX10_alone := mj_Rok.of (n := 73) (by decide +kernel) (fun i hi => mj_chkr_spec rX10_alone_0 i (Nat.zero_le i) (by omega))
theorem mX10_alone : mj_Mok eX10_alone := ⟨by decide +kernel, rfl⟩
theorem rX10_log_0 : mj_chkr eX10_log kX10_log 0 7 = true := by decide +kernel
theorem rX10_log : mj_Rok eX10_log := mj_Rok.of (n := 7) (by decide +kernel) (fun i hi => mj_chkr_spec rX10_log_0 i (Nat.zero_le i) (by omega))
theorem mX10_log : mj_Mok eX10_log := ⟨by decide +kernel, rfl⟩
theorem rX10_never_0 : mj_chkr eX10_never kX10_never 0 24 = true := by decide +kernel
theorem rX10_never : mj_Rok eX10_never := mj_Rok.of (n := 24) (by decide +kernel) (fun i hi => mj_chkr_spec rX10_never_0 i (Nat.zero_le i) (by omega))
theorem mX10_never : mj_Mok eX10_never := ⟨by decide +kernel, rfl⟩
theorem rX10_count_0 : mj_chkr eX10_count kX10_count 0 13 = true := by decide +kernel
theorem rX10_count : mj_Rok eX10_count := mj_Rok.of (n := 13) (by decide +kernel) (fun i hi => mj_chkr_spec rX10_count_0 i (Nat.zero_le i) (by omega))
theorem mX10_count : mj_Mok eX10_count := ⟨by decide +kernel, rfl⟩
theorem rX10_image_0 : mj_chkr eX10_image kX10_image 0 36 = true := by decide +kernel
theorem rX10_image : mj_Rok eX10_image := mj_Rok.of (n := 36) (by decide +kernel) (fun i hi => mj_chkr_spec rX10_image_0 i (Nat.zero_le i) (by omega))
theorem mX10_image : mj_Mok eX10_image := ⟨by decide +kernel, rfl⟩
theorem rX10_look_0 : mj_chkr eX10_look kX10_look 0 59 = true := by decide +kernel
theorem rX10_look : mj_Rok eX10_look := mj_Rok.of (n := 59) (by decide +kernel) (fun i hi => mj_chkr_spec rX10_look_0 i (Nat.zero_le i) (by omega))
theorem mX10_look : mj_Mok eX10_look := ⟨by decide +kernel, rfl⟩
theorem rX10_isTask_0 : mj_chkr eX10_isTask kX10_isTask 0 9 = true := by decide +kernel
theorem rX10_isTask : mj_Rok eX10_isTask := mj_Rok.of (n := 9) (by decide +kernel) (fun i hi => mj_chkr_spec rX10_isTask_0 i (Nat.zero_le i) (by omega))
theorem mX10_isTask : mj_Mok eX10_isTask := ⟨by decide +kernel, rfl⟩
theorem rX10_isFunction_0 : mj_chkr eX10_isFunction kX10_isFunction 0 9 = true := by decide +kernel
theorem rX10_isFunction : mj_Rok eX10_isFunction := mj_Rok.of (n := 9) (by decide +kernel) (fun i hi => mj_chkr_spec rX10_isFunction_0 i (Nat.zero_le i) (by omega))
theorem mX10_isFunction : mj_Mok eX10_isFunction := ⟨by decide +kernel, rfl⟩
theorem rX10_hasFrame_0 : mj_chkr eX10_hasFrame kX10_hasFrame 0 17 = true := by decide +kernel
theorem rX10_hasFrame : mj_Rok eX10_hasFrame := mj_Rok.of (n := 17) (by decide +kernel) (fun i hi => mj_chkr_spec rX10_hasFrame_0 i (Nat.zero_le i) (by omega))
theorem mX10_hasFrame : mj_Mok eX10_hasFrame := ⟨by decide +kernel, rfl⟩
theorem rX10_compareResults_0 : mj_chkr eX10_compareResults kX10_compareResults 0 17 = true := by decide +kernel
theorem rX10_compareResults : mj_Rok eX10_compareResults := mj_Rok.of (n := 17) (by decide +kernel) (fun i hi => mj_chkr_spec rX10_compareResults_0 i (Nat.zero_le i) (by omega))
theorem mX10_compareResults : mj_Mok eX10_compareResults := ⟨by decide +kernel, rfl⟩
theorem rX10_thinkEndless_0 : mj_chkr eX10_thinkEndless kX10_thinkEndless 0 52 = true := by decide +kernel
theorem rX10_thinkEndless : mj_Rok eX10_thinkEndless := mj_Rok.of (n := 52) (by decide +kernel) (fun i hi => mj_chkr_spec rX10_thinkEndless_0 i (Nat.zero_le i) (by omega))
theorem mX10_thinkEndless : mj_Mok eX10_thinkEndless := ⟨by decide +kernel, rfl⟩
theorem rX10_thinkAlone_0 : mj_chkr eX10_thinkAlone kX10_thinkAlone 0 62 = true := by decide +kernel
theorem rX10_thinkAlone : mj_Rok eX10_thinkAlone := mj_Rok.of (n := 62) (by decide +kernel) (fun i hi => mj_chkr_spec rX10_thinkAlone_0 i (Nat.zero_le i) (by omega))
theorem mX10_thinkAlone : mj_Mok eX10_thinkAlone := ⟨by decide +kernel, rfl⟩
theorem rX10_leastFirstFor_0 : mj_chkr eX10_leastFirstFor kX10_leastFirstFor 0 21 = true := by decide +kernel
theorem rX10_leastFirstFor : mj_Rok eX10_leastFirstFor := mj_Rok.of (n := 21) (by decide +kernel) (fun i hi => mj_chkr_spec rX10_leastFirstFor_0 i (Nat.zero_le i) (by omega))
theorem mX10_leastFirstFor : mj_Mok eX10_leastFirstFor := ⟨by decide +kernel, rfl⟩
theorem rX11_isIn_0 : mj_chkr eX11_isIn kX11_isIn 0 10 = true := by decide +kernel
theorem rX11_isIn : mj_Rok eX11_isIn := mj_Rok.of (n := 10) (by decide +kernel) (fun i hi => mj_chkr_spec rX11_isIn_0 i (Nat.zero_le i) (by omega))
theorem mX11_isIn : mj_Mok eX11_isIn := ⟨by decide +kernel, rfl⟩
theorem rX11_has_0 : mj_chkr eX11_has kX11_has 0 11 = true := by decide +kernel
theorem rX11_has : mj_Rok eX11_has := mj_Rok.of (n := 11) (by decide +kernel) (fun i hi => mj_chkr_spec rX11_has_0 i (Nat.zero_le i) (by omega))
theorem mX11_has : mj_Mok eX11_has := ⟨by decide +kernel, rfl⟩
theorem rX11_copies_0 : mj_chkr eX11_copies kX11_copies 0 14 = true := by decide +kernel
theorem rX11_copies : mj_Rok eX11_copies := mj_Rok.of (n := 14) (by decide +kernel) (fun i hi => mj_chkr_spec rX11_copies_0 i (Nat.zero_le i) (by omega))
theorem mX11_copies : mj_Mok eX11_copies := ⟨by decide +kernel, rfl⟩
theorem rX11_init_0 : mj_chkr eX11_init kX11_init 0 89 = true := by decide +kernel
theorem rX11_init : mj_Rok eX11_init := mj_Rok.of (n := 89) (by decide +kernel) (fun i hi => mj_chkr_spec rX11_init_0 i (Nat.zero_le i) (by omega))
theorem mX11_init : mj_Mok eX11_init := ⟨by decide +kernel, rfl⟩
theorem rX11_clears_0 : mj_chkr eX11_clears kX11_clears 0 29 = true := by decide +kernel
theorem rX11_clears : mj_Rok eX11_clears := mj_Rok.of (n := 29) (by decide +kernel) (fun i hi => mj_chkr_spec rX11_clears_0 i (Nat.zero_le i) (by omega))
theorem mX11_clears : mj_Mok eX11_clears := ⟨by decide +kernel, rfl⟩
theorem rX11_word_0 : mj_chkr eX11_word kX11_word 0 13 = true := by decide +kernel
theorem rX11_word : mj_Rok eX11_word := mj_Rok.of (n := 13) (by decide +kernel) (fun i hi => mj_chkr_spec rX11_word_0 i (Nat.zero_le i) (by omega))
theorem mX11_word : mj_Mok eX11_word := ⟨by decide +kernel, rfl⟩
theorem rX11_lays_0 : mj_chkr eX11_lays kX11_lays 0 15 = true := by decide +kernel
theorem rX11_lays : mj_Rok eX11_lays := mj_Rok.of (n := 15) (by decide +kernel) (fun i hi => mj_chkr_spec rX11_lays_0 i (Nat.zero_le i) (by omega))
theorem mX11_lays : mj_Mok eX11_lays := ⟨by decide +kernel, rfl⟩
theorem rX11_counts_0 : mj_chkr eX11_counts kX11_counts 0 14 = true := by decide +kernel
theorem rX11_counts : mj_Rok eX11_counts := mj_Rok.of (n := 14) (by decide +kernel) (fun i hi => mj_chkr_spec rX11_counts_0 i (Nat.zero_le i) (by omega))
theorem mX11_counts : mj_Mok eX11_counts := ⟨by decide +kernel, rfl⟩
theorem rX11_logs_0 : mj_chkr eX11_logs kX11_logs 0 79 = true := by decide +kernel
theorem rX11_logs : mj_Rok eX11_logs := mj_Rok.of (n := 79) (by decide +kernel) (fun i hi => mj_chkr_spec rX11_logs_0 i (Nat.zero_le i) (by omega))
theorem mX11_logs : mj_Mok eX11_logs := ⟨by decide +kernel, rfl⟩
