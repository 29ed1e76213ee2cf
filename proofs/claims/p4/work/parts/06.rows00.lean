theorem rX0_init_0 : mj_chkr eX0_init kX0_init 0 10 = true := by decide +kernel
theorem rX0_init : mj_Rok eX0_init := mj_Rok.of (n := 10) (by decide +kernel) (fun i hi => mj_chkr_spec rX0_init_0 i (Nat.zero_le i) (by omega))
theorem mX0_init : mj_Mok eX0_init := ⟨by decide +kernel, rfl⟩
theorem rX0_mark_0 : mj_chkr eX0_mark kX0_mark 0 14 = true := by decide +kernel
theorem rX0_mark : mj_Rok eX0_mark := mj_Rok.of (n := 14) (by decide +kernel) (fun i hi => mj_chkr_spec rX0_mark_0 i (Nat.zero_le i) (by omega))
theorem mX0_mark : mj_Mok eX0_mark := ⟨by decide +kernel, rfl⟩
theorem rX0_marksAt_0 : mj_chkr eX0_marksAt kX0_marksAt 0 12 = true := by decide +kernel
theorem rX0_marksAt : mj_Rok eX0_marksAt := mj_Rok.of (n := 12) (by decide +kernel) (fun i hi => mj_chkr_spec rX0_marksAt_0 i (Nat.zero_le i) (by omega))
theorem mX0_marksAt : mj_Mok eX0_marksAt := ⟨by decide +kernel, rfl⟩
theorem rX0_goToLast_0 : mj_chkr eX0_goToLast kX0_goToLast 0 13 = true := by decide +kernel
theorem rX0_goToLast : mj_Rok eX0_goToLast := mj_Rok.of (n := 13) (by decide +kernel) (fun i hi => mj_chkr_spec rX0_goToLast_0 i (Nat.zero_le i) (by omega))
theorem mX0_goToLast : mj_Mok eX0_goToLast := ⟨by decide +kernel, rfl⟩
theorem rX0_goToCaller_0 : mj_chkr eX0_goToCaller kX0_goToCaller 0 56 = true := by decide +kernel
theorem rX0_goToCaller : mj_Rok eX0_goToCaller := mj_Rok.of (n := 56) (by decide +kernel) (fun i hi => mj_chkr_spec rX0_goToCaller_0 i (Nat.zero_le i) (by omega))
theorem mX0_goToCaller : mj_Mok eX0_goToCaller := ⟨by decide +kernel, rfl⟩
theorem rX0_wrongPlaces_0 : mj_chkr eX0_wrongPlaces kX0_wrongPlaces 0 71 = true := by decide +kernel
theorem rX0_wrongPlaces : mj_Rok eX0_wrongPlaces := mj_Rok.of (n := 71) (by decide +kernel) (fun i hi => mj_chkr_spec rX0_wrongPlaces_0 i (Nat.zero_le i) (by omega))
theorem mX0_wrongPlaces : mj_Mok eX0_wrongPlaces := ⟨by decide +kernel, rfl⟩
theorem rX0_markNumbers_0 : mj_chkr eX0_markNumbers kX0_markNumbers 0 44 = true := by decide +kernel
theorem rX0_markNumbers : mj_Rok eX0_markNumbers := mj_Rok.of (n := 44) (by decide +kernel) (fun i hi => mj_chkr_spec rX0_markNumbers_0 i (Nat.zero_le i) (by omega))
theorem mX0_markNumbers : mj_Mok eX0_markNumbers := ⟨by decide +kernel, rfl⟩
theorem rX0_wrongPointers_0 : mj_chkr eX0_wrongPointers kX0_wrongPointers 0 49 = true := by decide +kernel
theorem rX0_wrongPointers : mj_Rok eX0_wrongPointers := mj_Rok.of (n := 49) (by decide +kernel) (fun i hi => mj_chkr_spec rX0_wrongPointers_0 i (Nat.zero_le i) (by omega))
theorem mX0_wrongPointers : mj_Mok eX0_wrongPointers := ⟨by decide +kernel, rfl⟩
theorem rX0_wrongFrames_0 : mj_chkr eX0_wrongFrames kX0_wrongFrames 0 76 = true := by decide +kernel
theorem rX0_wrongFrames : mj_Rok eX0_wrongFrames := mj_Rok.of (n := 76) (by decide +kernel) (fun i hi => mj_chkr_spec rX0_wrongFrames_0 i (Nat.zero_le i) (by omega))
theorem mX0_wrongFrames : mj_Mok eX0_wrongFrames := ⟨by decide +kernel, rfl⟩
theorem rX0_markWords_0 : mj_chkr eX0_markWords kX0_markWords 0 40 = true := by decide +kernel
theorem rX0_markWords : mj_Rok eX0_markWords := mj_Rok.of (n := 40) (by decide +kernel) (fun i hi => mj_chkr_spec rX0_markWords_0 i (Nat.zero_le i) (by omega))
theorem mX0_markWords : mj_Mok eX0_markWords := ⟨by decide +kernel, rfl⟩
theorem rX0_liesWell_0 : mj_chkr eX0_liesWell kX0_liesWell 0 66 = true := by decide +kernel
theorem rX0_liesWell : mj_Rok eX0_liesWell := mj_Rok.of (n := 66) (by decide +kernel) (fun i hi => mj_chkr_spec rX0_liesWell_0 i (Nat.zero_le i) (by omega))
theorem mX0_liesWell : mj_Mok eX0_liesWell := ⟨by decide +kernel, rfl⟩
theorem rX1_init_0 : mj_chkr eX1_init kX1_init 0 7 = true := by decide +kernel
theorem rX1_init : mj_Rok eX1_init := mj_Rok.of (n := 7) (by decide +kernel) (fun i hi => mj_chkr_spec rX1_init_0 i (Nat.zero_le i) (by omega))
theorem mX1_init : mj_Mok eX1_init := ⟨by decide +kernel, rfl⟩
theorem rX1_write_0 : mj_chkr eX1_write kX1_write 0 49 = true := by decide +kernel
theorem rX1_write : mj_Rok eX1_write := mj_Rok.of (n := 49) (by decide +kernel) (fun i hi => mj_chkr_spec rX1_write_0 i (Nat.zero_le i) (by omega))
theorem mX1_write : mj_Mok eX1_write := ⟨by decide +kernel, rfl⟩
theorem rX1_read_0 : mj_chkr eX1_read kX1_read 0 32 = true := by decide +kernel
theorem rX1_read : mj_Rok eX1_read := mj_Rok.of (n := 32) (by decide +kernel) (fun i hi => mj_chkr_spec rX1_read_0 i (Nat.zero_le i) (by omega))
theorem mX1_read : mj_Mok eX1_read := ⟨by decide +kernel, rfl⟩
theorem rX1_takeOver_0 : mj_chkr eX1_takeOver kX1_takeOver 0 15 = true := by decide +kernel
theorem rX1_takeOver : mj_Rok eX1_takeOver := mj_Rok.of (n := 15) (by decide +kernel) (fun i hi => mj_chkr_spec rX1_takeOver_0 i (Nat.zero_le i) (by omega))
theorem mX1_takeOver : mj_Mok eX1_takeOver := ⟨by decide +kernel, rfl⟩
theorem rX2_init_0 : mj_chkr eX2_init kX2_init 0 24 = true := by decide +kernel
theorem rX2_init : mj_Rok eX2_init := mj_Rok.of (n := 24) (by decide +kernel) (fun i hi => mj_chkr_spec rX2_init_0 i (Nat.zero_le i) (by omega))
theorem mX2_init : mj_Mok eX2_init := ⟨by decide +kernel, rfl⟩
theorem rX2_begin_0 : mj_chkr eX2_begin kX2_begin 0 63 = true := by decide +kernel
theorem rX2_begin : mj_Rok eX2_begin := mj_Rok.of (n := 63) (by decide +kernel) (fun i hi => mj_chkr_spec rX2_begin_0 i (Nat.zero_le i) (by omega))
theorem mX2_begin : mj_Mok eX2_begin := ⟨by decide +kernel, rfl⟩
theorem rX2_makeStep_0 : mj_chkr eX2_makeStep kX2_makeStep 0 60 = true := by decide +kernel
theorem rX2_makeStep_60 : mj_chkr eX2_makeStep kX2_makeStep 60 43 = true := by decide +kernel
theorem rX2_makeStep : mj_Rok eX2_makeStep := mj_Rok.of (n := 103) (by decide +kernel) (fun i hi => if h0 : i < 60 then mj_chkr_spec rX2_makeStep_0 i (by omega) (by omega) else mj_chkr_spec rX2_makeStep_60 i (by omega) (by omega))
theorem mX2_makeStep : mj_Mok eX2_makeStep := ⟨by decide +kernel, rfl⟩
theorem rX2_reckon_0 : mj_chkr eX2_reckon kX2_reckon 0 60 = true := by decide +kernel
theorem rX2_reckon_60 : mj_chkr eX2_reckon kX2_reckon 60 60 = true := by decide +kernel
theorem rX2_reckon_120 : mj_chkr eX2_reckon kX2_reckon 120 23 = true := by decide +kernel
theorem rX2_reckon : mj_Rok eX2_reckon := mj_Rok.of (n := 143) (by decide +kernel) (fun i hi => if h0 : i < 60 then mj_chkr_spec rX2_reckon_0 i (by omega) (by omega) else if h60 : i < 120 then mj_chkr_spec rX2_reckon_60 i (by omega) (by omega) else mj_chkr_spec rX2_reckon_120 i (by omega) (by omega))
theorem mX2_reckon : mj_Mok eX2_reckon := ⟨by decide +kernel, rfl⟩
theorem rX2_callFunction_0 : mj_chkr eX2_callFunction kX2_callFunction 0 33 = true := by decide +kernel
theorem rX2_callFunction : mj_Rok eX2_callFunction := mj_Rok.of (n := 33) (by decide +kernel) (fun i hi => mj_chkr_spec rX2_callFunction_0 i (Nat.zero_le i) (by omega))
theorem mX2_callFunction : mj_Mok eX2_callFunction := ⟨by decide +kernel, rfl⟩
theorem rX2_callForeign_0 : mj_chkr eX2_callForeign kX2_callForeign 0 100 = true := by decide +kernel
theorem rX2_callForeign : mj_Rok eX2_callForeign := mj_Rok.of (n := 100) (by decide +kernel) (fun i hi => mj_chkr_spec rX2_callForeign_0 i (Nat.zero_le i) (by omega))
theorem mX2_callForeign : mj_Mok eX2_callForeign := ⟨by decide +kernel, rfl⟩
theorem rX2_endForeign_0 : mj_chkr eX2_endForeign kX2_endForeign 0 19 = true := by decide +kernel
theorem rX2_endForeign : mj_Rok eX2_endForeign := mj_Rok.of (n := 19) (by decide +kernel) (fun i hi => mj_chkr_spec rX2_endForeign_0 i (Nat.zero_le i) (by omega))
theorem mX2_endForeign : mj_Mok eX2_endForeign := ⟨by decide +kernel, rfl⟩
theorem rX2_roomFor_0 : mj_chkr eX2_roomFor kX2_roomFor 0 89 = true := by decide +kernel
theorem rX2_roomFor : mj_Rok eX2_roomFor := mj_Rok.of (n := 89) (by decide +kernel) (fun i hi => mj_chkr_spec rX2_roomFor_0 i (Nat.zero_le i) (by omega))
theorem mX2_roomFor : mj_Mok eX2_roomFor := ⟨by decide +kernel, rfl⟩
