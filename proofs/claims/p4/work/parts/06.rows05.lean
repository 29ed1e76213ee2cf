theorem rX11_isBusy_0 : mj_chkr eX11_isBusy kX11_isBusy 0 20 = true := by decide +kernel
theorem rX11_isBusy : mj_Rok eX11_isBusy := mj_Rok.of (n := 20) (by decide +kernel) (fun i hi => mj_chkr_spec rX11_isBusy_0 i (Nat.zero_le i) (by omega))
theorem mX11_isBusy : mj_Mok eX11_isBusy := ⟨by decide +kernel, rfl⟩
theorem rX11_isAnyBusy_0 : mj_chkr eX11_isAnyBusy kX11_isAnyBusy 0 15 = true := by decide +kernel
theorem rX11_isAnyBusy : mj_Rok eX11_isAnyBusy := mj_Rok.of (n := 15) (by decide +kernel) (fun i hi => mj_chkr_spec rX11_isAnyBusy_0 i (Nat.zero_le i) (by omega))
theorem mX11_isAnyBusy : mj_Mok eX11_isAnyBusy := ⟨by decide +kernel, rfl⟩
theorem rX11_canBe_0 : mj_chkr eX11_canBe kX11_canBe 0 29 = true := by decide +kernel
theorem rX11_canBe : mj_Rok eX11_canBe := mj_Rok.of (n := 29) (by decide +kernel) (fun i hi => mj_chkr_spec rX11_canBe_0 i (Nat.zero_le i) (by omega))
theorem mX11_canBe : mj_Mok eX11_canBe := ⟨by decide +kernel, rfl⟩
theorem rX11_set_0 : mj_chkr eX11_set kX11_set 0 18 = true := by decide +kernel
theorem rX11_set : mj_Rok eX11_set := mj_Rok.of (n := 18) (by decide +kernel) (fun i hi => mj_chkr_spec rX11_set_0 i (Nat.zero_le i) (by omega))
theorem mX11_set : mj_Mok eX11_set := ⟨by decide +kernel, rfl⟩
theorem rX11_isFunction_0 : mj_chkr eX11_isFunction kX11_isFunction 0 5 = true := by decide +kernel
theorem rX11_isFunction : mj_Rok eX11_isFunction := mj_Rok.of (n := 5) (by decide +kernel) (fun i hi => mj_chkr_spec rX11_isFunction_0 i (Nat.zero_le i) (by omega))
theorem mX11_isFunction : mj_Mok eX11_isFunction := ⟨by decide +kernel, rfl⟩
theorem rX11_isTold_0 : mj_chkr eX11_isTold kX11_isTold 0 14 = true := by decide +kernel
theorem rX11_isTold : mj_Rok eX11_isTold := mj_Rok.of (n := 14) (by decide +kernel) (fun i hi => mj_chkr_spec rX11_isTold_0 i (Nat.zero_le i) (by omega))
theorem mX11_isTold : mj_Mok eX11_isTold := ⟨by decide +kernel, rfl⟩
theorem rX11_function_0 : mj_chkr eX11_function kX11_function 0 45 = true := by decide +kernel
theorem rX11_function : mj_Rok eX11_function := mj_Rok.of (n := 45) (by decide +kernel) (fun i hi => mj_chkr_spec rX11_function_0 i (Nat.zero_le i) (by omega))
theorem mX11_function : mj_Mok eX11_function := ⟨by decide +kernel, rfl⟩
theorem rX11_isSlot_0 : mj_chkr eX11_isSlot kX11_isSlot 0 12 = true := by decide +kernel
theorem rX11_isSlot : mj_Rok eX11_isSlot := mj_Rok.of (n := 12) (by decide +kernel) (fun i hi => mj_chkr_spec rX11_isSlot_0 i (Nat.zero_le i) (by omega))
theorem mX11_isSlot : mj_Mok eX11_isSlot := ⟨by decide +kernel, rfl⟩
theorem rX11_isPointer_0 : mj_chkr eX11_isPointer kX11_isPointer 0 18 = true := by decide +kernel
theorem rX11_isPointer : mj_Rok eX11_isPointer := mj_Rok.of (n := 18) (by decide +kernel) (fun i hi => mj_chkr_spec rX11_isPointer_0 i (Nat.zero_le i) (by omega))
theorem mX11_isPointer : mj_Mok eX11_isPointer := ⟨by decide +kernel, rfl⟩
theorem rX11_isNumber_0 : mj_chkr eX11_isNumber kX11_isNumber 0 18 = true := by decide +kernel
theorem rX11_isNumber : mj_Rok eX11_isNumber := mj_Rok.of (n := 18) (by decide +kernel) (fun i hi => mj_chkr_spec rX11_isNumber_0 i (Nat.zero_le i) (by omega))
theorem mX11_isNumber : mj_Mok eX11_isNumber := ⟨by decide +kernel, rfl⟩
theorem rX11_canLine_0 : mj_chkr eX11_canLine kX11_canLine 0 60 = true := by decide +kernel
theorem rX11_canLine_60 : mj_chkr eX11_canLine kX11_canLine 60 60 = true := by decide +kernel
theorem rX11_canLine_120 : mj_chkr eX11_canLine kX11_canLine 120 20 = true := by decide +kernel
theorem rX11_canLine : mj_Rok eX11_canLine := mj_Rok.of (n := 140) (by decide +kernel) (fun i hi => if h0 : i < 60 then mj_chkr_spec rX11_canLine_0 i (by omega) (by omega) else if h60 : i < 120 then mj_chkr_spec rX11_canLine_60 i (by omega) (by omega) else mj_chkr_spec rX11_canLine_120 i (by omega) (by omega))
theorem mX11_canLine : mj_Mok eX11_canLine := ⟨by decide +kernel, rfl⟩
theorem rX11_codeAt_0 : mj_chkr eX11_codeAt kX11_codeAt 0 10 = true := by decide +kernel
theorem rX11_codeAt : mj_Rok eX11_codeAt := mj_Rok.of (n := 10) (by decide +kernel) (fun i hi => mj_chkr_spec rX11_codeAt_0 i (Nat.zero_le i) (by omega))
theorem mX11_codeAt : mj_Mok eX11_codeAt := ⟨by decide +kernel, rfl⟩
theorem rX11_line_0 : mj_chkr eX11_line kX11_line 0 80 = true := by decide +kernel
theorem rX11_line : mj_Rok eX11_line := mj_Rok.of (n := 80) (by decide +kernel) (fun i hi => mj_chkr_spec rX11_line_0 i (Nat.zero_le i) (by omega))
theorem mX11_line : mj_Mok eX11_line := ⟨by decide +kernel, rfl⟩
theorem rX11_calledBy_0 : mj_chkr eX11_calledBy kX11_calledBy 0 59 = true := by decide +kernel
theorem rX11_calledBy : mj_Rok eX11_calledBy := mj_Rok.of (n := 59) (by decide +kernel) (fun i hi => mj_chkr_spec rX11_calledBy_0 i (Nat.zero_le i) (by omega))
theorem mX11_calledBy : mj_Mok eX11_calledBy := ⟨by decide +kernel, rfl⟩
theorem rX11_reachedBy_0 : mj_chkr eX11_reachedBy kX11_reachedBy 0 31 = true := by decide +kernel
theorem rX11_reachedBy : mj_Rok eX11_reachedBy := mj_Rok.of (n := 31) (by decide +kernel) (fun i hi => mj_chkr_spec rX11_reachedBy_0 i (Nat.zero_le i) (by omega))
theorem mX11_reachedBy : mj_Mok eX11_reachedBy := ⟨by decide +kernel, rfl⟩
theorem rX11_isEndlessOne_0 : mj_chkr eX11_isEndlessOne kX11_isEndlessOne 0 31 = true := by decide +kernel
theorem rX11_isEndlessOne : mj_Rok eX11_isEndlessOne := mj_Rok.of (n := 31) (by decide +kernel) (fun i hi => mj_chkr_spec rX11_isEndlessOne_0 i (Nat.zero_le i) (by omega))
theorem mX11_isEndlessOne : mj_Mok eX11_isEndlessOne := ⟨by decide +kernel, rfl⟩
theorem rX11_frameOf_0 : mj_chkr eX11_frameOf kX11_frameOf 0 9 = true := by decide +kernel
theorem rX11_frameOf : mj_Rok eX11_frameOf := mj_Rok.of (n := 9) (by decide +kernel) (fun i hi => mj_chkr_spec rX11_frameOf_0 i (Nat.zero_le i) (by omega))
theorem mX11_frameOf : mj_Mok eX11_frameOf := ⟨by decide +kernel, rfl⟩
theorem rX11_depth_0 : mj_chkr eX11_depth kX11_depth 0 35 = true := by decide +kernel
theorem rX11_depth : mj_Rok eX11_depth := mj_Rok.of (n := 35) (by decide +kernel) (fun i hi => mj_chkr_spec rX11_depth_0 i (Nat.zero_le i) (by omega))
theorem mX11_depth : mj_Mok eX11_depth := ⟨by decide +kernel, rfl⟩
theorem rX11_deepOf_0 : mj_chkr eX11_deepOf kX11_deepOf 0 10 = true := by decide +kernel
theorem rX11_deepOf : mj_Rok eX11_deepOf := mj_Rok.of (n := 10) (by decide +kernel) (fun i hi => mj_chkr_spec rX11_deepOf_0 i (Nat.zero_le i) (by omega))
theorem mX11_deepOf : mj_Mok eX11_deepOf := ⟨by decide +kernel, rfl⟩
theorem rX11_isMerged_0 : mj_chkr eX11_isMerged kX11_isMerged 0 24 = true := by decide +kernel
theorem rX11_isMerged : mj_Rok eX11_isMerged := mj_Rok.of (n := 24) (by decide +kernel) (fun i hi => mj_chkr_spec rX11_isMerged_0 i (Nat.zero_le i) (by omega))
theorem mX11_isMerged : mj_Mok eX11_isMerged := ⟨by decide +kernel, rfl⟩
theorem rX11_needOf_0 : mj_chkr eX11_needOf kX11_needOf 0 12 = true := by decide +kernel
theorem rX11_needOf : mj_Rok eX11_needOf := mj_Rok.of (n := 12) (by decide +kernel) (fun i hi => mj_chkr_spec rX11_needOf_0 i (Nat.zero_le i) (by omega))
theorem mX11_needOf : mj_Mok eX11_needOf := ⟨by decide +kernel, rfl⟩
theorem rX11_deep_0 : mj_chkr eX11_deep kX11_deep 0 10 = true := by decide +kernel
theorem rX11_deep : mj_Rok eX11_deep := mj_Rok.of (n := 10) (by decide +kernel) (fun i hi => mj_chkr_spec rX11_deep_0 i (Nat.zero_le i) (by omega))
theorem mX11_deep : mj_Mok eX11_deep := ⟨by decide +kernel, rfl⟩
theorem rX11_need_0 : mj_chkr eX11_need kX11_need 0 10 = true := by decide +kernel
theorem rX11_need : mj_Rok eX11_need := mj_Rok.of (n := 10) (by decide +kernel) (fun i hi => mj_chkr_spec rX11_need_0 i (Nat.zero_le i) (by omega))
theorem mX11_need : mj_Mok eX11_need := ⟨by decide +kernel, rfl⟩
theorem rX11_gapFor_0 : mj_chkr eX11_gapFor kX11_gapFor 0 47 = true := by decide +kernel
theorem rX11_gapFor : mj_Rok eX11_gapFor := mj_Rok.of (n := 47) (by decide +kernel) (fun i hi => mj_chkr_spec rX11_gapFor_0 i (Nat.zero_le i) (by omega))
theorem mX11_gapFor : mj_Mok eX11_gapFor := ⟨by decide +kernel, rfl⟩
theorem rX11_shifts_0 : mj_chkr eX11_shifts kX11_shifts 0 49 = true := by decide +kernel
theorem rX11_shifts : mj_Rok eX11_shifts := mj_Rok.of (n := 49) (by decide +kernel) (fun i hi => mj_chkr_spec rX11_shifts_0 i (Nat.zero_le i) (by omega))
theorem mX11_shifts : mj_Mok eX11_shifts := ⟨by decide +kernel, rfl⟩
theorem rX11_takes_0 : mj_chkr eX11_takes kX11_takes 0 62 = true := by decide +kernel
theorem rX11_takes : mj_Rok eX11_takes := mj_Rok.of (n := 62) (by decide +kernel) (fun i hi => mj_chkr_spec rX11_takes_0 i (Nat.zero_le i) (by omega))
theorem mX11_takes : mj_Mok eX11_takes := ⟨by decide +kernel, rfl⟩
theorem rX11_gives_0 : mj_chkr eX11_gives kX11_gives 0 25 = true := by decide +kernel
theorem rX11_gives : mj_Rok eX11_gives := mj_Rok.of (n := 25) (by decide +kernel) (fun i hi => mj_chkr_spec rX11_gives_0 i (Nat.zero_le i) (by omega))
theorem mX11_gives : mj_Mok eX11_gives := ⟨by decide +kernel, rfl⟩
theorem rX11_pieceOf_0 : mj_chkr eX11_pieceOf kX11_pieceOf 0 30 = true := by decide +kernel
theorem rX11_pieceOf : mj_Rok eX11_pieceOf := mj_Rok.of (n := 30) (by decide +kernel) (fun i hi => mj_chkr_spec rX11_pieceOf_0 i (Nat.zero_le i) (by omega))
theorem mX11_pieceOf : mj_Mok eX11_pieceOf := ⟨by decide +kernel, rfl⟩
theorem rX11_pieceAt_0 : mj_chkr eX11_pieceAt kX11_pieceAt 0 38 = true := by decide +kernel
theorem rX11_pieceAt : mj_Rok eX11_pieceAt := mj_Rok.of (n := 38) (by decide +kernel) (fun i hi => mj_chkr_spec rX11_pieceAt_0 i (Nat.zero_le i) (by omega))
theorem mX11_pieceAt : mj_Mok eX11_pieceAt := ⟨by decide +kernel, rfl⟩
theorem rX11_lastPiece_0 : mj_chkr eX11_lastPiece kX11_lastPiece 0 12 = true := by decide +kernel
theorem rX11_lastPiece : mj_Rok eX11_lastPiece := mj_Rok.of (n := 12) (by decide +kernel) (fun i hi => mj_chkr_spec rX11_lastPiece_0 i (Nat.zero_le i) (by omega))
theorem mX11_lastPiece : mj_Mok eX11_lastPiece := ⟨by decide +kernel, rfl⟩
theorem rX11_givesAll_0 : mj_chkr eX11_givesAll kX11_givesAll 0 85 = true := by decide +kernel
theorem rX11_givesAll : mj_Rok eX11_givesAll := mj_Rok.of (n := 85) (by decide +kernel) (fun i hi => mj_chkr_spec rX11_givesAll_0 i (Nat.zero_le i) (by omega))
theorem mX11_givesAll : mj_Mok eX11_givesAll := ⟨by decide +kernel, rfl⟩
theorem rX11_givesSpare_0 : mj_chkr eX11_givesSpare kX11_givesSpare 0 31 = true := by decide +kernel
theorem rX11_givesSpare : mj_Rok eX11_givesSpare := mj_Rok.of (n := 31) (by decide +kernel) (fun i hi => mj_chkr_spec rX11_givesSpare_0 i (Nat.zero_le i) (by omega))
theorem mX11_givesSpare : mj_Mok eX11_givesSpare := ⟨by decide +kernel, rfl⟩
theorem rX11_isOut_0 : mj_chkr eX11_isOut kX11_isOut 0 21 = true := by decide +kernel
theorem rX11_isOut : mj_Rok eX11_isOut := mj_Rok.of (n := 21) (by decide +kernel) (fun i hi => mj_chkr_spec rX11_isOut_0 i (Nat.zero_le i) (by omega))
theorem mX11_isOut : mj_Mok eX11_isOut := ⟨by decide +kernel, rfl⟩
theorem rX11_part_0 : mj_chkr eX11_part kX11_part 0 25 = true := by decide +kernel
theorem rX11_part : mj_Rok eX11_part := mj_Rok.of (n := 25) (by decide +kernel) (fun i hi => mj_chkr_spec rX11_part_0 i (Nat.zero_le i) (by omega))
theorem mX11_part : mj_Mok eX11_part := ⟨by decide +kernel, rfl⟩
theorem rX11_goalOf_0 : mj_chkr eX11_goalOf kX11_goalOf 0 40 = true := by decide +kernel
theorem rX11_goalOf : mj_Rok eX11_goalOf := mj_Rok.of (n := 40) (by decide +kernel) (fun i hi => mj_chkr_spec rX11_goalOf_0 i (Nat.zero_le i) (by omega))
theorem mX11_goalOf : mj_Mok eX11_goalOf := ⟨by decide +kernel, rfl⟩
