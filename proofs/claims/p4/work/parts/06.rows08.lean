theorem rX11_task_0 : mj_chkr eX11_task kX11_task 0 60 = true := by decide +kernel
theorem rX11_task_60 : mj_chkr eX11_task kX11_task 60 60 = true := by decide +kernel
theorem rX11_task_120 : mj_chkr eX11_task kX11_task 120 22 = true := by decide +kernel
theorem rX11_task : mj_Rok eX11_task := mj_Rok.of (n := 142) (by decide +kernel) (fun i hi => if h0 : i < 60 then mj_chkr_spec rX11_task_0 i (by omega) (by omega) else if h60 : i < 120 then mj_chkr_spec rX11_task_60 i (by omega) (by omega) else mj_chkr_spec rX11_task_120 i (by omega) (by omega))
theorem mX11_task : mj_Mok eX11_task := ⟨by decide +kernel, rfl⟩
theorem rX11_looksAt_0 : mj_chkr eX11_looksAt kX11_looksAt 0 41 = true := by decide +kernel
theorem rX11_looksAt : mj_Rok eX11_looksAt := mj_Rok.of (n := 41) (by decide +kernel) (fun i hi => mj_chkr_spec rX11_looksAt_0 i (Nat.zero_le i) (by omega))
theorem mX11_looksAt : mj_Mok eX11_looksAt := ⟨by decide +kernel, rfl⟩
theorem rX11_goesBack_0 : mj_chkr eX11_goesBack kX11_goesBack 0 28 = true := by decide +kernel
theorem rX11_goesBack : mj_Rok eX11_goesBack := mj_Rok.of (n := 28) (by decide +kernel) (fun i hi => mj_chkr_spec rX11_goesBack_0 i (Nat.zero_le i) (by omega))
theorem mX11_goesBack : mj_Mok eX11_goesBack := ⟨by decide +kernel, rfl⟩
theorem rX11_isFrame_0 : mj_chkr eX11_isFrame kX11_isFrame 0 19 = true := by decide +kernel
theorem rX11_isFrame : mj_Rok eX11_isFrame := mj_Rok.of (n := 19) (by decide +kernel) (fun i hi => mj_chkr_spec rX11_isFrame_0 i (Nat.zero_le i) (by omega))
theorem mX11_isFrame : mj_Mok eX11_isFrame := ⟨by decide +kernel, rfl⟩
theorem rX11_frame_0 : mj_chkr eX11_frame kX11_frame 0 76 = true := by decide +kernel
theorem rX11_frame : mj_Rok eX11_frame := mj_Rok.of (n := 76) (by decide +kernel) (fun i hi => mj_chkr_spec rX11_frame_0 i (Nat.zero_le i) (by omega))
theorem mX11_frame : mj_Mok eX11_frame := ⟨by decide +kernel, rfl⟩
theorem rX11_pointed_0 : mj_chkr eX11_pointed kX11_pointed 0 77 = true := by decide +kernel
theorem rX11_pointed : mj_Rok eX11_pointed := mj_Rok.of (n := 77) (by decide +kernel) (fun i hi => mj_chkr_spec rX11_pointed_0 i (Nat.zero_le i) (by omega))
theorem mX11_pointed : mj_Mok eX11_pointed := ⟨by decide +kernel, rfl⟩
theorem rX11_slot_0 : mj_chkr eX11_slot kX11_slot 0 82 = true := by decide +kernel
theorem rX11_slot : mj_Rok eX11_slot := mj_Rok.of (n := 82) (by decide +kernel) (fun i hi => mj_chkr_spec rX11_slot_0 i (Nat.zero_le i) (by omega))
theorem mX11_slot : mj_Mok eX11_slot := ⟨by decide +kernel, rfl⟩
theorem rX11_piece_0 : mj_chkr eX11_piece kX11_piece 0 64 = true := by decide +kernel
theorem rX11_piece : mj_Rok eX11_piece := mj_Rok.of (n := 64) (by decide +kernel) (fun i hi => mj_chkr_spec rX11_piece_0 i (Nat.zero_le i) (by omega))
theorem mX11_piece : mj_Mok eX11_piece := ⟨by decide +kernel, rfl⟩
theorem rX11_gap_0 : mj_chkr eX11_gap kX11_gap 0 71 = true := by decide +kernel
theorem rX11_gap : mj_Rok eX11_gap := mj_Rok.of (n := 71) (by decide +kernel) (fun i hi => mj_chkr_spec rX11_gap_0 i (Nat.zero_le i) (by omega))
theorem mX11_gap : mj_Mok eX11_gap := ⟨by decide +kernel, rfl⟩
theorem rX11_runsEndless_0 : mj_chkr eX11_runsEndless kX11_runsEndless 0 48 = true := by decide +kernel
theorem rX11_runsEndless : mj_Rok eX11_runsEndless := mj_Rok.of (n := 48) (by decide +kernel) (fun i hi => mj_chkr_spec rX11_runsEndless_0 i (Nat.zero_le i) (by omega))
theorem mX11_runsEndless : mj_Mok eX11_runsEndless := ⟨by decide +kernel, rfl⟩
theorem rX11_endless_0 : mj_chkr eX11_endless kX11_endless 0 36 = true := by decide +kernel
theorem rX11_endless : mj_Rok eX11_endless := mj_Rok.of (n := 36) (by decide +kernel) (fun i hi => mj_chkr_spec rX11_endless_0 i (Nat.zero_le i) (by omega))
theorem mX11_endless : mj_Mok eX11_endless := ⟨by decide +kernel, rfl⟩
theorem rX11_land_0 : mj_chkr eX11_land kX11_land 0 75 = true := by decide +kernel
theorem rX11_land : mj_Rok eX11_land := mj_Rok.of (n := 75) (by decide +kernel) (fun i hi => mj_chkr_spec rX11_land_0 i (Nat.zero_le i) (by omega))
theorem mX11_land : mj_Mok eX11_land := ⟨by decide +kernel, rfl⟩
theorem rX11_runsAlone_0 : mj_chkr eX11_runsAlone kX11_runsAlone 0 54 = true := by decide +kernel
theorem rX11_runsAlone : mj_Rok eX11_runsAlone := mj_Rok.of (n := 54) (by decide +kernel) (fun i hi => mj_chkr_spec rX11_runsAlone_0 i (Nat.zero_le i) (by omega))
theorem mX11_runsAlone : mj_Mok eX11_runsAlone := ⟨by decide +kernel, rfl⟩
theorem rX11_alone_0 : mj_chkr eX11_alone kX11_alone 0 60 = true := by decide +kernel
theorem rX11_alone_60 : mj_chkr eX11_alone kX11_alone 60 47 = true := by decide +kernel
theorem rX11_alone : mj_Rok eX11_alone := mj_Rok.of (n := 107) (by decide +kernel) (fun i hi => if h0 : i < 60 then mj_chkr_spec rX11_alone_0 i (by omega) (by omega) else mj_chkr_spec rX11_alone_60 i (by omega) (by omega))
theorem mX11_alone : mj_Mok eX11_alone := ⟨by decide +kernel, rfl⟩
theorem rX11_log_0 : mj_chkr eX11_log kX11_log 0 42 = true := by decide +kernel
theorem rX11_log : mj_Rok eX11_log := mj_Rok.of (n := 42) (by decide +kernel) (fun i hi => mj_chkr_spec rX11_log_0 i (Nat.zero_le i) (by omega))
theorem mX11_log : mj_Mok eX11_log := ⟨by decide +kernel, rfl⟩
theorem rX11_wrongWords_0 : mj_chkr eX11_wrongWords kX11_wrongWords 0 60 = true := by decide +kernel
theorem rX11_wrongWords_60 : mj_chkr eX11_wrongWords kX11_wrongWords 60 54 = true := by decide +kernel
theorem rX11_wrongWords : mj_Rok eX11_wrongWords := mj_Rok.of (n := 114) (by decide +kernel) (fun i hi => if h0 : i < 60 then mj_chkr_spec rX11_wrongWords_0 i (by omega) (by omega) else mj_chkr_spec rX11_wrongWords_60 i (by omega) (by omega))
theorem mX11_wrongWords : mj_Mok eX11_wrongWords := ⟨by decide +kernel, rfl⟩
theorem rX11_wrongFrames_0 : mj_chkr eX11_wrongFrames kX11_wrongFrames 0 96 = true := by decide +kernel
theorem rX11_wrongFrames : mj_Rok eX11_wrongFrames := mj_Rok.of (n := 96) (by decide +kernel) (fun i hi => mj_chkr_spec rX11_wrongFrames_0 i (Nat.zero_le i) (by omega))
theorem mX11_wrongFrames : mj_Mok eX11_wrongFrames := ⟨by decide +kernel, rfl⟩
