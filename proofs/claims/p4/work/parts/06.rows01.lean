theorem rX2_enter_0 : mj_chkr eX2_enter kX2_enter 0 80 = true := by decide +kernel
theorem rX2_enter : mj_Rok eX2_enter := mj_Rok.of (n := 80) (by decide +kernel) (fun i hi => mj_chkr_spec rX2_enter_0 i (Nat.zero_le i) (by omega))
theorem mX2_enter : mj_Mok eX2_enter := ⟨by decide +kernel, rfl⟩
theorem rX2_pushFrame_0 : mj_chkr eX2_pushFrame kX2_pushFrame 0 87 = true := by decide +kernel
theorem rX2_pushFrame : mj_Rok eX2_pushFrame := mj_Rok.of (n := 87) (by decide +kernel) (fun i hi => mj_chkr_spec rX2_pushFrame_0 i (Nat.zero_le i) (by omega))
theorem mX2_pushFrame : mj_Mok eX2_pushFrame := ⟨by decide +kernel, rfl⟩
theorem rX2_leaveFrame_0 : mj_chkr eX2_leaveFrame kX2_leaveFrame 0 60 = true := by decide +kernel
theorem rX2_leaveFrame_60 : mj_chkr eX2_leaveFrame kX2_leaveFrame 60 58 = true := by decide +kernel
theorem rX2_leaveFrame : mj_Rok eX2_leaveFrame := mj_Rok.of (n := 118) (by decide +kernel) (fun i hi => if h0 : i < 60 then mj_chkr_spec rX2_leaveFrame_0 i (by omega) (by omega) else mj_chkr_spec rX2_leaveFrame_60 i (by omega) (by omega))
theorem mX2_leaveFrame : mj_Mok eX2_leaveFrame := ⟨by decide +kernel, rfl⟩
theorem rX2_end_0 : mj_chkr eX2_end kX2_end 0 35 = true := by decide +kernel
theorem rX2_end : mj_Rok eX2_end := mj_Rok.of (n := 35) (by decide +kernel) (fun i hi => mj_chkr_spec rX2_end_0 i (Nat.zero_le i) (by omega))
theorem mX2_end : mj_Mok eX2_end := ⟨by decide +kernel, rfl⟩
theorem rX3_init_0 : mj_chkr eX3_init kX3_init 0 9 = true := by decide +kernel
theorem rX3_init : mj_Rok eX3_init := mj_Rok.of (n := 9) (by decide +kernel) (fun i hi => mj_chkr_spec rX3_init_0 i (Nat.zero_le i) (by omega))
theorem mX3_init : mj_Mok eX3_init := ⟨by decide +kernel, rfl⟩
theorem rX3_word_0 : mj_chkr eX3_word kX3_word 0 14 = true := by decide +kernel
theorem rX3_word : mj_Rok eX3_word := mj_Rok.of (n := 14) (by decide +kernel) (fun i hi => mj_chkr_spec rX3_word_0 i (Nat.zero_le i) (by omega))
theorem mX3_word : mj_Mok eX3_word := ⟨by decide +kernel, rfl⟩
theorem rX3_put_0 : mj_chkr eX3_put kX3_put 0 13 = true := by decide +kernel
theorem rX3_put : mj_Rok eX3_put := mj_Rok.of (n := 13) (by decide +kernel) (fun i hi => mj_chkr_spec rX3_put_0 i (Nat.zero_le i) (by omega))
theorem mX3_put : mj_Mok eX3_put := ⟨by decide +kernel, rfl⟩
theorem rX3_bring_0 : mj_chkr eX3_bring kX3_bring 0 27 = true := by decide +kernel
theorem rX3_bring : mj_Rok eX3_bring := mj_Rok.of (n := 27) (by decide +kernel) (fun i hi => mj_chkr_spec rX3_bring_0 i (Nat.zero_le i) (by omega))
theorem mX3_bring : mj_Mok eX3_bring := ⟨by decide +kernel, rfl⟩
theorem rX3_takeOver_0 : mj_chkr eX3_takeOver kX3_takeOver 0 15 = true := by decide +kernel
theorem rX3_takeOver : mj_Rok eX3_takeOver := mj_Rok.of (n := 15) (by decide +kernel) (fun i hi => mj_chkr_spec rX3_takeOver_0 i (Nat.zero_le i) (by omega))
theorem mX3_takeOver : mj_Mok eX3_takeOver := ⟨by decide +kernel, rfl⟩
theorem rX4_init_0 : mj_chkr eX4_init kX4_init 0 14 = true := by decide +kernel
theorem rX4_init : mj_Rok eX4_init := mj_Rok.of (n := 14) (by decide +kernel) (fun i hi => mj_chkr_spec rX4_init_0 i (Nat.zero_le i) (by omega))
theorem mX4_init : mj_Mok eX4_init := ⟨by decide +kernel, rfl⟩
theorem rX4_moveInto_0 : mj_chkr eX4_moveInto kX4_moveInto 0 67 = true := by decide +kernel
theorem rX4_moveInto : mj_Rok eX4_moveInto := mj_Rok.of (n := 67) (by decide +kernel) (fun i hi => mj_chkr_spec rX4_moveInto_0 i (Nat.zero_le i) (by omega))
theorem mX4_moveInto : mj_Mok eX4_moveInto := ⟨by decide +kernel, rfl⟩
theorem rX4_linkPiece_0 : mj_chkr eX4_linkPiece kX4_linkPiece 0 77 = true := by decide +kernel
theorem rX4_linkPiece : mj_Rok eX4_linkPiece := mj_Rok.of (n := 77) (by decide +kernel) (fun i hi => mj_chkr_spec rX4_linkPiece_0 i (Nat.zero_le i) (by omega))
theorem mX4_linkPiece : mj_Mok eX4_linkPiece := ⟨by decide +kernel, rfl⟩
theorem rX4_leavePiece_0 : mj_chkr eX4_leavePiece kX4_leavePiece 0 39 = true := by decide +kernel
theorem rX4_leavePiece : mj_Rok eX4_leavePiece := mj_Rok.of (n := 39) (by decide +kernel) (fun i hi => mj_chkr_spec rX4_leavePiece_0 i (Nat.zero_le i) (by omega))
theorem mX4_leavePiece : mj_Mok eX4_leavePiece := ⟨by decide +kernel, rfl⟩
theorem rX4_dropSpare_0 : mj_chkr eX4_dropSpare kX4_dropSpare 0 22 = true := by decide +kernel
theorem rX4_dropSpare : mj_Rok eX4_dropSpare := mj_Rok.of (n := 22) (by decide +kernel) (fun i hi => mj_chkr_spec rX4_dropSpare_0 i (Nat.zero_le i) (by omega))
theorem mX4_dropSpare : mj_Mok eX4_dropSpare := ⟨by decide +kernel, rfl⟩
theorem rX4_keptWords_0 : mj_chkr eX4_keptWords kX4_keptWords 0 16 = true := by decide +kernel
theorem rX4_keptWords : mj_Rok eX4_keptWords := mj_Rok.of (n := 16) (by decide +kernel) (fun i hi => mj_chkr_spec rX4_keptWords_0 i (Nat.zero_le i) (by omega))
theorem mX4_keptWords : mj_Mok eX4_keptWords := ⟨by decide +kernel, rfl⟩
theorem rX4_makeSmaller_0 : mj_chkr eX4_makeSmaller kX4_makeSmaller 0 40 = true := by decide +kernel
theorem rX4_makeSmaller : mj_Rok eX4_makeSmaller := mj_Rok.of (n := 40) (by decide +kernel) (fun i hi => mj_chkr_spec rX4_makeSmaller_0 i (Nat.zero_le i) (by omega))
theorem mX4_makeSmaller : mj_Mok eX4_makeSmaller := ⟨by decide +kernel, rfl⟩
theorem rX4_joinPieces_0 : mj_chkr eX4_joinPieces kX4_joinPieces 0 60 = true := by decide +kernel
theorem rX4_joinPieces_60 : mj_chkr eX4_joinPieces kX4_joinPieces 60 53 = true := by decide +kernel
theorem rX4_joinPieces : mj_Rok eX4_joinPieces := mj_Rok.of (n := 113) (by decide +kernel) (fun i hi => if h0 : i < 60 then mj_chkr_spec rX4_joinPieces_0 i (by omega) (by omega) else mj_chkr_spec rX4_joinPieces_60 i (by omega) (by omega))
theorem mX4_joinPieces : mj_Mok eX4_joinPieces := ⟨by decide +kernel, rfl⟩
theorem rX4_gather_0 : mj_chkr eX4_gather kX4_gather 0 81 = true := by decide +kernel
theorem rX4_gather : mj_Rok eX4_gather := mj_Rok.of (n := 81) (by decide +kernel) (fun i hi => mj_chkr_spec rX4_gather_0 i (Nat.zero_le i) (by omega))
theorem mX4_gather : mj_Mok eX4_gather := ⟨by decide +kernel, rfl⟩
theorem rX4_bringOver_0 : mj_chkr eX4_bringOver kX4_bringOver 0 20 = true := by decide +kernel
theorem rX4_bringOver : mj_Rok eX4_bringOver := mj_Rok.of (n := 20) (by decide +kernel) (fun i hi => mj_chkr_spec rX4_bringOver_0 i (Nat.zero_le i) (by omega))
theorem mX4_bringOver : mj_Mok eX4_bringOver := ⟨by decide +kernel, rfl⟩
theorem rX4_turnPlaces_0 : mj_chkr eX4_turnPlaces kX4_turnPlaces 0 78 = true := by decide +kernel
theorem rX4_turnPlaces : mj_Rok eX4_turnPlaces := mj_Rok.of (n := 78) (by decide +kernel) (fun i hi => mj_chkr_spec rX4_turnPlaces_0 i (Nat.zero_le i) (by omega))
theorem mX4_turnPlaces : mj_Mok eX4_turnPlaces := ⟨by decide +kernel, rfl⟩
theorem rX4_doubled_0 : mj_chkr eX4_doubled kX4_doubled 0 18 = true := by decide +kernel
theorem rX4_doubled : mj_Rok eX4_doubled := mj_Rok.of (n := 18) (by decide +kernel) (fun i hi => mj_chkr_spec rX4_doubled_0 i (Nat.zero_le i) (by omega))
theorem mX4_doubled : mj_Mok eX4_doubled := ⟨by decide +kernel, rfl⟩
theorem rX5_init_0 : mj_chkr eX5_init kX5_init 0 31 = true := by decide +kernel
theorem rX5_init : mj_Rok eX5_init := mj_Rok.of (n := 31) (by decide +kernel) (fun i hi => mj_chkr_spec rX5_init_0 i (Nat.zero_le i) (by omega))
theorem mX5_init : mj_Mok eX5_init := ⟨by decide +kernel, rfl⟩
theorem rX5_clear_0 : mj_chkr eX5_clear kX5_clear 0 22 = true := by decide +kernel
theorem rX5_clear : mj_Rok eX5_clear := mj_Rok.of (n := 22) (by decide +kernel) (fun i hi => mj_chkr_spec rX5_clear_0 i (Nat.zero_le i) (by omega))
theorem mX5_clear : mj_Mok eX5_clear := ⟨by decide +kernel, rfl⟩
theorem rX5_placeOf_0 : mj_chkr eX5_placeOf kX5_placeOf 0 12 = true := by decide +kernel
theorem rX5_placeOf : mj_Rok eX5_placeOf := mj_Rok.of (n := 12) (by decide +kernel) (fun i hi => mj_chkr_spec rX5_placeOf_0 i (Nat.zero_le i) (by omega))
theorem mX5_placeOf : mj_Mok eX5_placeOf := ⟨by decide +kernel, rfl⟩
theorem rX5_wordsOf_0 : mj_chkr eX5_wordsOf kX5_wordsOf 0 12 = true := by decide +kernel
theorem rX5_wordsOf : mj_Rok eX5_wordsOf := mj_Rok.of (n := 12) (by decide +kernel) (fun i hi => mj_chkr_spec rX5_wordsOf_0 i (Nat.zero_le i) (by omega))
theorem mX5_wordsOf : mj_Mok eX5_wordsOf := ⟨by decide +kernel, rfl⟩
theorem rX5_usedOf_0 : mj_chkr eX5_usedOf kX5_usedOf 0 12 = true := by decide +kernel
theorem rX5_usedOf : mj_Rok eX5_usedOf := mj_Rok.of (n := 12) (by decide +kernel) (fun i hi => mj_chkr_spec rX5_usedOf_0 i (Nat.zero_le i) (by omega))
theorem mX5_usedOf : mj_Mok eX5_usedOf := ⟨by decide +kernel, rfl⟩
theorem rX5_belowOf_0 : mj_chkr eX5_belowOf kX5_belowOf 0 12 = true := by decide +kernel
theorem rX5_belowOf : mj_Rok eX5_belowOf := mj_Rok.of (n := 12) (by decide +kernel) (fun i hi => mj_chkr_spec rX5_belowOf_0 i (Nat.zero_le i) (by omega))
theorem mX5_belowOf : mj_Mok eX5_belowOf := ⟨by decide +kernel, rfl⟩
theorem rX5_ownerOf_0 : mj_chkr eX5_ownerOf kX5_ownerOf 0 12 = true := by decide +kernel
theorem rX5_ownerOf : mj_Rok eX5_ownerOf := mj_Rok.of (n := 12) (by decide +kernel) (fun i hi => mj_chkr_spec rX5_ownerOf_0 i (Nat.zero_le i) (by omega))
theorem mX5_ownerOf : mj_Mok eX5_ownerOf := ⟨by decide +kernel, rfl⟩
theorem rX5_shiftOf_0 : mj_chkr eX5_shiftOf kX5_shiftOf 0 12 = true := by decide +kernel
theorem rX5_shiftOf : mj_Rok eX5_shiftOf := mj_Rok.of (n := 12) (by decide +kernel) (fun i hi => mj_chkr_spec rX5_shiftOf_0 i (Nat.zero_le i) (by omega))
theorem mX5_shiftOf : mj_Mok eX5_shiftOf := ⟨by decide +kernel, rfl⟩
