theorem rX7_init_0 : mj_chkr eX7_init kX7_init 0 10 = true := by decide +kernel
theorem rX7_init : mj_Rok eX7_init := mj_Rok.of (n := 10) (by decide +kernel) (fun i hi => mj_chkr_spec rX7_init_0 i (Nat.zero_le i) (by omega))
theorem mX7_init : mj_Mok eX7_init := ⟨by decide +kernel, rfl⟩
theorem rX7_on_0 : mj_chkr eX7_on kX7_on 0 12 = true := by decide +kernel
theorem rX7_on : mj_Rok eX7_on := mj_Rok.of (n := 12) (by decide +kernel) (fun i hi => mj_chkr_spec rX7_on_0 i (Nat.zero_le i) (by omega))
theorem mX7_on : mj_Mok eX7_on := ⟨by decide +kernel, rfl⟩
theorem rX7_clear_0 : mj_chkr eX7_clear kX7_clear 0 28 = true := by decide +kernel
theorem rX7_clear : mj_Rok eX7_clear := mj_Rok.of (n := 28) (by decide +kernel) (fun i hi => mj_chkr_spec rX7_clear_0 i (Nat.zero_le i) (by omega))
theorem mX7_clear : mj_Mok eX7_clear := ⟨by decide +kernel, rfl⟩
theorem rX7_dropStack_0 : mj_chkr eX7_dropStack kX7_dropStack 0 28 = true := by decide +kernel
theorem rX7_dropStack : mj_Rok eX7_dropStack := mj_Rok.of (n := 28) (by decide +kernel) (fun i hi => mj_chkr_spec rX7_dropStack_0 i (Nat.zero_le i) (by omega))
theorem mX7_dropStack : mj_Mok eX7_dropStack := ⟨by decide +kernel, rfl⟩
theorem rX7_takeOver_0 : mj_chkr eX7_takeOver kX7_takeOver 0 73 = true := by decide +kernel
theorem rX7_takeOver : mj_Rok eX7_takeOver := mj_Rok.of (n := 73) (by decide +kernel) (fun i hi => mj_chkr_spec rX7_takeOver_0 i (Nat.zero_le i) (by omega))
theorem mX7_takeOver : mj_Mok eX7_takeOver := ⟨by decide +kernel, rfl⟩
theorem rX8_init_0 : mj_chkr eX8_init kX8_init 0 6 = true := by decide +kernel
theorem rX8_init : mj_Rok eX8_init := mj_Rok.of (n := 6) (by decide +kernel) (fun i hi => mj_chkr_spec rX8_init_0 i (Nat.zero_le i) (by omega))
theorem mX8_init : mj_Mok eX8_init := ⟨by decide +kernel, rfl⟩
theorem rX8_toLast_0 : mj_chkr eX8_toLast kX8_toLast 0 13 = true := by decide +kernel
theorem rX8_toLast : mj_Rok eX8_toLast := mj_Rok.of (n := 13) (by decide +kernel) (fun i hi => mj_chkr_spec rX8_toLast_0 i (Nat.zero_le i) (by omega))
theorem mX8_toLast : mj_Mok eX8_toLast := ⟨by decide +kernel, rfl⟩
theorem rX8_toCaller_0 : mj_chkr eX8_toCaller kX8_toCaller 0 28 = true := by decide +kernel
theorem rX8_toCaller : mj_Rok eX8_toCaller := mj_Rok.of (n := 28) (by decide +kernel) (fun i hi => mj_chkr_spec rX8_toCaller_0 i (Nat.zero_le i) (by omega))
theorem mX8_toCaller : mj_Mok eX8_toCaller := ⟨by decide +kernel, rfl⟩
theorem rX8_toFrame_0 : mj_chkr eX8_toFrame kX8_toFrame 0 16 = true := by decide +kernel
theorem rX8_toFrame : mj_Rok eX8_toFrame := mj_Rok.of (n := 16) (by decide +kernel) (fun i hi => mj_chkr_spec rX8_toFrame_0 i (Nat.zero_le i) (by omega))
theorem mX8_toFrame : mj_Mok eX8_toFrame := ⟨by decide +kernel, rfl⟩
theorem rX8_toPlace_0 : mj_chkr eX8_toPlace kX8_toPlace 0 33 = true := by decide +kernel
theorem rX8_toPlace : mj_Rok eX8_toPlace := mj_Rok.of (n := 33) (by decide +kernel) (fun i hi => mj_chkr_spec rX8_toPlace_0 i (Nat.zero_le i) (by omega))
theorem mX8_toPlace : mj_Mok eX8_toPlace := ⟨by decide +kernel, rfl⟩
theorem rX9_init_0 : mj_chkr eX9_init kX9_init 0 59 = true := by decide +kernel
theorem rX9_init : mj_Rok eX9_init := mj_Rok.of (n := 59) (by decide +kernel) (fun i hi => mj_chkr_spec rX9_init_0 i (Nat.zero_le i) (by omega))
theorem mX9_init : mj_Mok eX9_init := ⟨by decide +kernel, rfl⟩
theorem rX9_clear_0 : mj_chkr eX9_clear kX9_clear 0 42 = true := by decide +kernel
theorem rX9_clear : mj_Rok eX9_clear := mj_Rok.of (n := 42) (by decide +kernel) (fun i hi => mj_chkr_spec rX9_clear_0 i (Nat.zero_le i) (by omega))
theorem mX9_clear : mj_Mok eX9_clear := ⟨by decide +kernel, rfl⟩
theorem rX9_takeOver_0 : mj_chkr eX9_takeOver kX9_takeOver 0 52 = true := by decide +kernel
theorem rX9_takeOver : mj_Rok eX9_takeOver := mj_Rok.of (n := 52) (by decide +kernel) (fun i hi => mj_chkr_spec rX9_takeOver_0 i (Nat.zero_le i) (by omega))
theorem mX9_takeOver : mj_Mok eX9_takeOver := ⟨by decide +kernel, rfl⟩
theorem rX9_add_0 : mj_chkr eX9_add kX9_add 0 22 = true := by decide +kernel
theorem rX9_add : mj_Rok eX9_add := mj_Rok.of (n := 22) (by decide +kernel) (fun i hi => mj_chkr_spec rX9_add_0 i (Nat.zero_le i) (by omega))
theorem mX9_add : mj_Mok eX9_add := ⟨by decide +kernel, rfl⟩
theorem rX9_writeLog_0 : mj_chkr eX9_writeLog kX9_writeLog 0 17 = true := by decide +kernel
theorem rX9_writeLog : mj_Rok eX9_writeLog := mj_Rok.of (n := 17) (by decide +kernel) (fun i hi => mj_chkr_spec rX9_writeLog_0 i (Nat.zero_le i) (by omega))
theorem mX9_writeLog : mj_Mok eX9_writeLog := ⟨by decide +kernel, rfl⟩
theorem rX9_busy_0 : mj_chkr eX9_busy kX9_busy 0 12 = true := by decide +kernel
theorem rX9_busy : mj_Rok eX9_busy := mj_Rok.of (n := 12) (by decide +kernel) (fun i hi => mj_chkr_spec rX9_busy_0 i (Nat.zero_le i) (by omega))
theorem mX9_busy : mj_Mok eX9_busy := ⟨by decide +kernel, rfl⟩
theorem rX9_tasksThatAre_0 : mj_chkr eX9_tasksThatAre kX9_tasksThatAre 0 31 = true := by decide +kernel
theorem rX9_tasksThatAre : mj_Rok eX9_tasksThatAre := mj_Rok.of (n := 31) (by decide +kernel) (fun i hi => mj_chkr_spec rX9_tasksThatAre_0 i (Nat.zero_le i) (by omega))
theorem mX9_tasksThatAre : mj_Mok eX9_tasksThatAre := ⟨by decide +kernel, rfl⟩
theorem rX9_sidesTaken_0 : mj_chkr eX9_sidesTaken kX9_sidesTaken 0 31 = true := by decide +kernel
theorem rX9_sidesTaken : mj_Rok eX9_sidesTaken := mj_Rok.of (n := 31) (by decide +kernel) (fun i hi => mj_chkr_spec rX9_sidesTaken_0 i (Nat.zero_le i) (by omega))
theorem mX9_sidesTaken : mj_Mok eX9_sidesTaken := ⟨by decide +kernel, rfl⟩
theorem rX9_freeSide_0 : mj_chkr eX9_freeSide kX9_freeSide 0 45 = true := by decide +kernel
theorem rX9_freeSide : mj_Rok eX9_freeSide := mj_Rok.of (n := 45) (by decide +kernel) (fun i hi => mj_chkr_spec rX9_freeSide_0 i (Nat.zero_le i) (by omega))
theorem mX9_freeSide : mj_Mok eX9_freeSide := ⟨by decide +kernel, rfl⟩
theorem rX9_covers_0 : mj_chkr eX9_covers kX9_covers 0 24 = true := by decide +kernel
theorem rX9_covers : mj_Rok eX9_covers := mj_Rok.of (n := 24) (by decide +kernel) (fun i hi => mj_chkr_spec rX9_covers_0 i (Nat.zero_le i) (by omega))
theorem mX9_covers : mj_Mok eX9_covers := ⟨by decide +kernel, rfl⟩
theorem rX9_needOf_0 : mj_chkr eX9_needOf kX9_needOf 0 14 = true := by decide +kernel
theorem rX9_needOf : mj_Rok eX9_needOf := mj_Rok.of (n := 14) (by decide +kernel) (fun i hi => mj_chkr_spec rX9_needOf_0 i (Nat.zero_le i) (by omega))
theorem mX9_needOf : mj_Mok eX9_needOf := ⟨by decide +kernel, rfl⟩
theorem rX9_lastCovered_0 : mj_chkr eX9_lastCovered kX9_lastCovered 0 17 = true := by decide +kernel
theorem rX9_lastCovered : mj_Rok eX9_lastCovered := mj_Rok.of (n := 17) (by decide +kernel) (fun i hi => mj_chkr_spec rX9_lastCovered_0 i (Nat.zero_le i) (by omega))
theorem mX9_lastCovered : mj_Mok eX9_lastCovered := ⟨by decide +kernel, rfl⟩
theorem rX9_piecesOf_0 : mj_chkr eX9_piecesOf kX9_piecesOf 0 20 = true := by decide +kernel
theorem rX9_piecesOf : mj_Rok eX9_piecesOf := mj_Rok.of (n := 20) (by decide +kernel) (fun i hi => mj_chkr_spec rX9_piecesOf_0 i (Nat.zero_le i) (by omega))
theorem mX9_piecesOf : mj_Mok eX9_piecesOf := ⟨by decide +kernel, rfl⟩
theorem rX9_wordsOf_0 : mj_chkr eX9_wordsOf kX9_wordsOf 0 33 = true := by decide +kernel
theorem rX9_wordsOf : mj_Rok eX9_wordsOf := mj_Rok.of (n := 33) (by decide +kernel) (fun i hi => mj_chkr_spec rX9_wordsOf_0 i (Nat.zero_le i) (by omega))
theorem mX9_wordsOf : mj_Mok eX9_wordsOf := ⟨by decide +kernel, rfl⟩
theorem rX9_pieceOf_0 : mj_chkr eX9_pieceOf kX9_pieceOf 0 42 = true := by decide +kernel
theorem rX9_pieceOf : mj_Rok eX9_pieceOf := mj_Rok.of (n := 42) (by decide +kernel) (fun i hi => mj_chkr_spec rX9_pieceOf_0 i (Nat.zero_le i) (by omega))
theorem mX9_pieceOf : mj_Mok eX9_pieceOf := ⟨by decide +kernel, rfl⟩
theorem rX9_releasePieces_0 : mj_chkr eX9_releasePieces kX9_releasePieces 0 31 = true := by decide +kernel
theorem rX9_releasePieces : mj_Rok eX9_releasePieces := mj_Rok.of (n := 31) (by decide +kernel) (fun i hi => mj_chkr_spec rX9_releasePieces_0 i (Nat.zero_le i) (by omega))
theorem mX9_releasePieces : mj_Mok eX9_releasePieces := ⟨by decide +kernel, rfl⟩
theorem rX10_init_0 : mj_chkr eX10_init kX10_init 0 55 = true := by decide +kernel
theorem rX10_init : mj_Rok eX10_init := mj_Rok.of (n := 55) (by decide +kernel) (fun i hi => mj_chkr_spec rX10_init_0 i (Nat.zero_le i) (by omega))
theorem mX10_init : mj_Mok eX10_init := ⟨by decide +kernel, rfl⟩
theorem rX10_set_0 : mj_chkr eX10_set kX10_set 0 29 = true := by decide +kernel
theorem rX10_set : mj_Rok eX10_set := mj_Rok.of (n := 29) (by decide +kernel) (fun i hi => mj_chkr_spec rX10_set_0 i (Nat.zero_le i) (by omega))
theorem mX10_set : mj_Mok eX10_set := ⟨by decide +kernel, rfl⟩
theorem rX10_function_0 : mj_chkr eX10_function kX10_function 0 32 = true := by decide +kernel
theorem rX10_function : mj_Rok eX10_function := mj_Rok.of (n := 32) (by decide +kernel) (fun i hi => mj_chkr_spec rX10_function_0 i (Nat.zero_le i) (by omega))
theorem mX10_function : mj_Mok eX10_function := ⟨by decide +kernel, rfl⟩
theorem rX10_line_0 : mj_chkr eX10_line kX10_line 0 32 = true := by decide +kernel
theorem rX10_line : mj_Rok eX10_line := mj_Rok.of (n := 32) (by decide +kernel) (fun i hi => mj_chkr_spec rX10_line_0 i (Nat.zero_le i) (by omega))
theorem mX10_line : mj_Mok eX10_line := ⟨by decide +kernel, rfl⟩
theorem rX10_start_0 : mj_chkr eX10_start kX10_start 0 39 = true := by decide +kernel
theorem rX10_start : mj_Rok eX10_start := mj_Rok.of (n := 39) (by decide +kernel) (fun i hi => mj_chkr_spec rX10_start_0 i (Nat.zero_le i) (by omega))
theorem mX10_start : mj_Mok eX10_start := ⟨by decide +kernel, rfl⟩
theorem rX10_step_0 : mj_chkr eX10_step kX10_step 0 51 = true := by decide +kernel
theorem rX10_step : mj_Rok eX10_step := mj_Rok.of (n := 51) (by decide +kernel) (fun i hi => mj_chkr_spec rX10_step_0 i (Nat.zero_le i) (by omega))
theorem mX10_step : mj_Mok eX10_step := ⟨by decide +kernel, rfl⟩
theorem rX10_round_0 : mj_chkr eX10_round kX10_round 0 58 = true := by decide +kernel
theorem rX10_round : mj_Rok eX10_round := mj_Rok.of (n := 58) (by decide +kernel) (fun i hi => mj_chkr_spec rX10_round_0 i (Nat.zero_le i) (by omega))
theorem mX10_round : mj_Mok eX10_round := ⟨by decide +kernel, rfl⟩
theorem rX10_stop_0 : mj_chkr eX10_stop kX10_stop 0 28 = true := by decide +kernel
theorem rX10_stop : mj_Rok eX10_stop := mj_Rok.of (n := 28) (by decide +kernel) (fun i hi => mj_chkr_spec rX10_stop_0 i (Nat.zero_le i) (by omega))
theorem mX10_stop : mj_Mok eX10_stop := ⟨by decide +kernel, rfl⟩
theorem rX10_quiet_0 : mj_chkr eX10_quiet kX10_quiet 0 24 = true := by decide +kernel
theorem rX10_quiet : mj_Rok eX10_quiet := mj_Rok.of (n := 24) (by decide +kernel) (fun i hi => mj_chkr_spec rX10_quiet_0 i (Nat.zero_le i) (by omega))
theorem mX10_quiet : mj_Mok eX10_quiet := ⟨by decide +kernel, rfl⟩
theorem rX10_join_0 : mj_chkr eX10_join kX10_join 0 30 = true := by decide +kernel
theorem rX10_join : mj_Rok eX10_join := mj_Rok.of (n := 30) (by decide +kernel) (fun i hi => mj_chkr_spec rX10_join_0 i (Nat.zero_le i) (by omega))
theorem mX10_join : mj_Mok eX10_join := ⟨by decide +kernel, rfl⟩
