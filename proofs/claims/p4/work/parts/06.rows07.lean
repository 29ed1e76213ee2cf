theorem rX11_isDone_0 : mj_chkr eX11_isDone kX11_isDone 0 61 = true := by decide +kernel
theorem rX11_isDone : mj_Rok eX11_isDone := mj_Rok.of (n := 61) (by decide +kernel) (fun i hi => mj_chkr_spec rX11_isDone_0 i (Nat.zero_le i) (by omega))
theorem mX11_isDone : mj_Mok eX11_isDone := ⟨by decide +kernel, rfl⟩
theorem rX11_foreignOver_0 : mj_chkr eX11_foreignOver kX11_foreignOver 0 46 = true := by decide +kernel
theorem rX11_foreignOver : mj_Rok eX11_foreignOver := mj_Rok.of (n := 46) (by decide +kernel) (fun i hi => mj_chkr_spec rX11_foreignOver_0 i (Nat.zero_le i) (by omega))
theorem mX11_foreignOver : mj_Mok eX11_foreignOver := ⟨by decide +kernel, rfl⟩
theorem rX11_freeSide_0 : mj_chkr eX11_freeSide kX11_freeSide 0 22 = true := by decide +kernel
theorem rX11_freeSide : mj_Rok eX11_freeSide := mj_Rok.of (n := 22) (by decide +kernel) (fun i hi => mj_chkr_spec rX11_freeSide_0 i (Nat.zero_le i) (by omega))
theorem mX11_freeSide : mj_Mok eX11_freeSide := ⟨by decide +kernel, rfl⟩
theorem rX11_hasSide_0 : mj_chkr eX11_hasSide kX11_hasSide 0 93 = true := by decide +kernel
theorem rX11_hasSide : mj_Rok eX11_hasSide := mj_Rok.of (n := 93) (by decide +kernel) (fun i hi => mj_chkr_spec rX11_hasSide_0 i (Nat.zero_le i) (by omega))
theorem mX11_hasSide : mj_Mok eX11_hasSide := ⟨by decide +kernel, rfl⟩
theorem rX11_foreign_0 : mj_chkr eX11_foreign kX11_foreign 0 60 = true := by decide +kernel
theorem rX11_foreign : mj_Rok eX11_foreign := mj_Rok.of (n := 60) (by decide +kernel) (fun i hi => mj_chkr_spec rX11_foreign_0 i (Nat.zero_le i) (by omega))
theorem mX11_foreign : mj_Mok eX11_foreign := ⟨by decide +kernel, rfl⟩
theorem rX11_steps_0 : mj_chkr eX11_steps kX11_steps 0 60 = true := by decide +kernel
theorem rX11_steps_60 : mj_chkr eX11_steps kX11_steps 60 60 = true := by decide +kernel
theorem rX11_steps_120 : mj_chkr eX11_steps kX11_steps 120 60 = true := by decide +kernel
theorem rX11_steps_180 : mj_chkr eX11_steps kX11_steps 180 60 = true := by decide +kernel
theorem rX11_steps_240 : mj_chkr eX11_steps kX11_steps 240 6 = true := by decide +kernel
theorem rX11_steps : mj_Rok eX11_steps := mj_Rok.of (n := 246) (by decide +kernel) (fun i hi => if h0 : i < 60 then mj_chkr_spec rX11_steps_0 i (by omega) (by omega) else if h60 : i < 120 then mj_chkr_spec rX11_steps_60 i (by omega) (by omega) else if h120 : i < 180 then mj_chkr_spec rX11_steps_120 i (by omega) (by omega) else if h180 : i < 240 then mj_chkr_spec rX11_steps_180 i (by omega) (by omega) else mj_chkr_spec rX11_steps_240 i (by omega) (by omega))
theorem mX11_steps : mj_Mok eX11_steps := ⟨by decide +kernel, rfl⟩
theorem rX11_begins_0 : mj_chkr eX11_begins kX11_begins 0 68 = true := by decide +kernel
theorem rX11_begins : mj_Rok eX11_begins := mj_Rok.of (n := 68) (by decide +kernel) (fun i hi => mj_chkr_spec rX11_begins_0 i (Nat.zero_le i) (by omega))
theorem mX11_begins : mj_Mok eX11_begins := ⟨by decide +kernel, rfl⟩
theorem rX11_isTask_0 : mj_chkr eX11_isTask kX11_isTask 0 5 = true := by decide +kernel
theorem rX11_isTask : mj_Rok eX11_isTask := mj_Rok.of (n := 5) (by decide +kernel) (fun i hi => mj_chkr_spec rX11_isTask_0 i (Nat.zero_le i) (by omega))
theorem mX11_isTask : mj_Mok eX11_isTask := ⟨by decide +kernel, rfl⟩
theorem rX11_start_0 : mj_chkr eX11_start kX11_start 0 25 = true := by decide +kernel
theorem rX11_start : mj_Rok eX11_start := mj_Rok.of (n := 25) (by decide +kernel) (fun i hi => mj_chkr_spec rX11_start_0 i (Nat.zero_le i) (by omega))
theorem mX11_start : mj_Mok eX11_start := ⟨by decide +kernel, rfl⟩
theorem rX11_runs_0 : mj_chkr eX11_runs kX11_runs 0 16 = true := by decide +kernel
theorem rX11_runs : mj_Rok eX11_runs := mj_Rok.of (n := 16) (by decide +kernel) (fun i hi => mj_chkr_spec rX11_runs_0 i (Nat.zero_le i) (by omega))
theorem mX11_runs : mj_Mok eX11_runs := ⟨by decide +kernel, rfl⟩
theorem rX11_step_0 : mj_chkr eX11_step kX11_step 0 15 = true := by decide +kernel
theorem rX11_step : mj_Rok eX11_step := mj_Rok.of (n := 15) (by decide +kernel) (fun i hi => mj_chkr_spec rX11_step_0 i (Nat.zero_le i) (by omega))
theorem mX11_step : mj_Mok eX11_step := ⟨by decide +kernel, rfl⟩
theorem rX11_round_0 : mj_chkr eX11_round kX11_round 0 32 = true := by decide +kernel
theorem rX11_round : mj_Rok eX11_round := mj_Rok.of (n := 32) (by decide +kernel) (fun i hi => mj_chkr_spec rX11_round_0 i (Nat.zero_le i) (by omega))
theorem mX11_round : mj_Mok eX11_round := ⟨by decide +kernel, rfl⟩
theorem rX11_stop_0 : mj_chkr eX11_stop kX11_stop 0 20 = true := by decide +kernel
theorem rX11_stop : mj_Rok eX11_stop := mj_Rok.of (n := 20) (by decide +kernel) (fun i hi => mj_chkr_spec rX11_stop_0 i (Nat.zero_le i) (by omega))
theorem mX11_stop : mj_Mok eX11_stop := ⟨by decide +kernel, rfl⟩
theorem rX11_quiet_0 : mj_chkr eX11_quiet kX11_quiet 0 15 = true := by decide +kernel
theorem rX11_quiet : mj_Rok eX11_quiet := mj_Rok.of (n := 15) (by decide +kernel) (fun i hi => mj_chkr_spec rX11_quiet_0 i (Nat.zero_le i) (by omega))
theorem mX11_quiet : mj_Mok eX11_quiet := ⟨by decide +kernel, rfl⟩
theorem rX11_usedIn_0 : mj_chkr eX11_usedIn kX11_usedIn 0 93 = true := by decide +kernel
theorem rX11_usedIn : mj_Rok eX11_usedIn := mj_Rok.of (n := 93) (by decide +kernel) (fun i hi => mj_chkr_spec rX11_usedIn_0 i (Nat.zero_le i) (by omega))
theorem mX11_usedIn : mj_Mok eX11_usedIn := ⟨by decide +kernel, rfl⟩
theorem rX11_join_0 : mj_chkr eX11_join kX11_join 0 60 = true := by decide +kernel
theorem rX11_join_60 : mj_chkr eX11_join kX11_join 60 60 = true := by decide +kernel
theorem rX11_join_120 : mj_chkr eX11_join kX11_join 120 42 = true := by decide +kernel
theorem rX11_join : mj_Rok eX11_join := mj_Rok.of (n := 162) (by decide +kernel) (fun i hi => if h0 : i < 60 then mj_chkr_spec rX11_join_0 i (by omega) (by omega) else if h60 : i < 120 then mj_chkr_spec rX11_join_60 i (by omega) (by omega) else mj_chkr_spec rX11_join_120 i (by omega) (by omega))
theorem mX11_join : mj_Mok eX11_join := ⟨by decide +kernel, rfl⟩
theorem rX11_compact_0 : mj_chkr eX11_compact kX11_compact 0 91 = true := by decide +kernel
theorem rX11_compact : mj_Rok eX11_compact := mj_Rok.of (n := 91) (by decide +kernel) (fun i hi => mj_chkr_spec rX11_compact_0 i (Nat.zero_le i) (by omega))
theorem mX11_compact : mj_Mok eX11_compact := ⟨by decide +kernel, rfl⟩
theorem rX11_piecesOf_0 : mj_chkr eX11_piecesOf kX11_piecesOf 0 28 = true := by decide +kernel
theorem rX11_piecesOf : mj_Rok eX11_piecesOf := mj_Rok.of (n := 28) (by decide +kernel) (fun i hi => mj_chkr_spec rX11_piecesOf_0 i (Nat.zero_le i) (by omega))
theorem mX11_piecesOf : mj_Mok eX11_piecesOf := ⟨by decide +kernel, rfl⟩
theorem rX11_wordsOf_0 : mj_chkr eX11_wordsOf kX11_wordsOf 0 33 = true := by decide +kernel
theorem rX11_wordsOf : mj_Rok eX11_wordsOf := mj_Rok.of (n := 33) (by decide +kernel) (fun i hi => mj_chkr_spec rX11_wordsOf_0 i (Nat.zero_le i) (by omega))
theorem mX11_wordsOf : mj_Mok eX11_wordsOf := ⟨by decide +kernel, rfl⟩
