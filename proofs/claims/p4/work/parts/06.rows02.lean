theorem rX5_endOf_0 : mj_chkr eX5_endOf kX5_endOf 0 17 = true := by decide +kernel
theorem rX5_endOf : mj_Rok eX5_endOf := mj_Rok.of (n := 17) (by decide +kernel) (fun i hi => mj_chkr_spec rX5_endOf_0 i (Nat.zero_le i) (by omega))
theorem mX5_endOf : mj_Mok eX5_endOf := ⟨by decide +kernel, rfl⟩
theorem rX5_topOf_0 : mj_chkr eX5_topOf kX5_topOf 0 17 = true := by decide +kernel
theorem rX5_topOf : mj_Rok eX5_topOf := mj_Rok.of (n := 17) (by decide +kernel) (fun i hi => mj_chkr_spec rX5_topOf_0 i (Nat.zero_le i) (by omega))
theorem mX5_topOf : mj_Mok eX5_topOf := ⟨by decide +kernel, rfl⟩
theorem rX5_use_0 : mj_chkr eX5_use kX5_use 0 14 = true := by decide +kernel
theorem rX5_use : mj_Rok eX5_use := mj_Rok.of (n := 14) (by decide +kernel) (fun i hi => mj_chkr_spec rX5_use_0 i (Nat.zero_le i) (by omega))
theorem mX5_use : mj_Mok eX5_use := ⟨by decide +kernel, rfl⟩
theorem rX5_putOver_0 : mj_chkr eX5_putOver kX5_putOver 0 11 = true := by decide +kernel
theorem rX5_putOver : mj_Rok eX5_putOver := mj_Rok.of (n := 11) (by decide +kernel) (fun i hi => mj_chkr_spec rX5_putOver_0 i (Nat.zero_le i) (by omega))
theorem mX5_putOver : mj_Mok eX5_putOver := ⟨by decide +kernel, rfl⟩
theorem rX5_aimAt_0 : mj_chkr eX5_aimAt kX5_aimAt 0 16 = true := by decide +kernel
theorem rX5_aimAt : mj_Rok eX5_aimAt := mj_Rok.of (n := 16) (by decide +kernel) (fun i hi => mj_chkr_spec rX5_aimAt_0 i (Nat.zero_le i) (by omega))
theorem mX5_aimAt : mj_Mok eX5_aimAt := ⟨by decide +kernel, rfl⟩
theorem rX5_settle_0 : mj_chkr eX5_settle kX5_settle 0 25 = true := by decide +kernel
theorem rX5_settle : mj_Rok eX5_settle := mj_Rok.of (n := 25) (by decide +kernel) (fun i hi => mj_chkr_spec rX5_settle_0 i (Nat.zero_le i) (by omega))
theorem mX5_settle : mj_Mok eX5_settle := ⟨by decide +kernel, rfl⟩
theorem rX5_idAt_0 : mj_chkr eX5_idAt kX5_idAt 0 16 = true := by decide +kernel
theorem rX5_idAt : mj_Rok eX5_idAt := mj_Rok.of (n := 16) (by decide +kernel) (fun i hi => mj_chkr_spec rX5_idAt_0 i (Nat.zero_le i) (by omega))
theorem mX5_idAt : mj_Mok eX5_idAt := ⟨by decide +kernel, rfl⟩
theorem rX5_gapFrom_0 : mj_chkr eX5_gapFrom kX5_gapFrom 0 8 = true := by decide +kernel
theorem rX5_gapFrom : mj_Rok eX5_gapFrom := mj_Rok.of (n := 8) (by decide +kernel) (fun i hi => mj_chkr_spec rX5_gapFrom_0 i (Nat.zero_le i) (by omega))
theorem mX5_gapFrom : mj_Mok eX5_gapFrom := ⟨by decide +kernel, rfl⟩
theorem rX5_gapTo_0 : mj_chkr eX5_gapTo kX5_gapTo 0 13 = true := by decide +kernel
theorem rX5_gapTo : mj_Rok eX5_gapTo := mj_Rok.of (n := 13) (by decide +kernel) (fun i hi => mj_chkr_spec rX5_gapTo_0 i (Nat.zero_le i) (by omega))
theorem mX5_gapTo : mj_Mok eX5_gapTo := ⟨by decide +kernel, rfl⟩
theorem rX5_take_0 : mj_chkr eX5_take kX5_take 0 63 = true := by decide +kernel
theorem rX5_take : mj_Rok eX5_take := mj_Rok.of (n := 63) (by decide +kernel) (fun i hi => mj_chkr_spec rX5_take_0 i (Nat.zero_le i) (by omega))
theorem mX5_take : mj_Mok eX5_take := ⟨by decide +kernel, rfl⟩
theorem rX5_insert_0 : mj_chkr eX5_insert kX5_insert 0 44 = true := by decide +kernel
theorem rX5_insert : mj_Rok eX5_insert := mj_Rok.of (n := 44) (by decide +kernel) (fun i hi => mj_chkr_spec rX5_insert_0 i (Nat.zero_le i) (by omega))
theorem mX5_insert : mj_Mok eX5_insert := ⟨by decide +kernel, rfl⟩
theorem rX5_giveBack_0 : mj_chkr eX5_giveBack kX5_giveBack 0 55 = true := by decide +kernel
theorem rX5_giveBack : mj_Rok eX5_giveBack := mj_Rok.of (n := 55) (by decide +kernel) (fun i hi => mj_chkr_spec rX5_giveBack_0 i (Nat.zero_le i) (by omega))
theorem mX5_giveBack : mj_Mok eX5_giveBack := ⟨by decide +kernel, rfl⟩
theorem rX5_rankOf_0 : mj_chkr eX5_rankOf kX5_rankOf 0 53 = true := by decide +kernel
theorem rX5_rankOf : mj_Rok eX5_rankOf := mj_Rok.of (n := 53) (by decide +kernel) (fun i hi => mj_chkr_spec rX5_rankOf_0 i (Nat.zero_le i) (by omega))
theorem mX5_rankOf : mj_Mok eX5_rankOf := ⟨by decide +kernel, rfl⟩
theorem rX5_holding_0 : mj_chkr eX5_holding kX5_holding 0 6 = true := by decide +kernel
theorem rX5_holding : mj_Rok eX5_holding := mj_Rok.of (n := 6) (by decide +kernel) (fun i hi => mj_chkr_spec rX5_holding_0 i (Nat.zero_le i) (by omega))
theorem mX5_holding : mj_Mok eX5_holding := ⟨by decide +kernel, rfl⟩
theorem rX5_turned_0 : mj_chkr eX5_turned kX5_turned 0 15 = true := by decide +kernel
theorem rX5_turned : mj_Rok eX5_turned := mj_Rok.of (n := 15) (by decide +kernel) (fun i hi => mj_chkr_spec rX5_turned_0 i (Nat.zero_le i) (by omega))
theorem mX5_turned : mj_Mok eX5_turned := ⟨by decide +kernel, rfl⟩
theorem rX5_indexOf_0 : mj_chkr eX5_indexOf kX5_indexOf 0 20 = true := by decide +kernel
theorem rX5_indexOf : mj_Rok eX5_indexOf := mj_Rok.of (n := 20) (by decide +kernel) (fun i hi => mj_chkr_spec rX5_indexOf_0 i (Nat.zero_le i) (by omega))
theorem mX5_indexOf : mj_Mok eX5_indexOf := ⟨by decide +kernel, rfl⟩
theorem rX5_gaps_0 : mj_chkr eX5_gaps kX5_gaps 0 25 = true := by decide +kernel
theorem rX5_gaps : mj_Rok eX5_gaps := mj_Rok.of (n := 25) (by decide +kernel) (fun i hi => mj_chkr_spec rX5_gaps_0 i (Nat.zero_le i) (by omega))
theorem mX5_gaps : mj_Mok eX5_gaps := ⟨by decide +kernel, rfl⟩
theorem rX5_gapFact_0 : mj_chkr eX5_gapFact kX5_gapFact 0 34 = true := by decide +kernel
theorem rX5_gapFact : mj_Rok eX5_gapFact := mj_Rok.of (n := 34) (by decide +kernel) (fun i hi => mj_chkr_spec rX5_gapFact_0 i (Nat.zero_le i) (by omega))
theorem mX5_gapFact : mj_Mok eX5_gapFact := ⟨by decide +kernel, rfl⟩
theorem rX5_greatestGap_0 : mj_chkr eX5_greatestGap kX5_greatestGap 0 22 = true := by decide +kernel
theorem rX5_greatestGap : mj_Rok eX5_greatestGap := mj_Rok.of (n := 22) (by decide +kernel) (fun i hi => mj_chkr_spec rX5_greatestGap_0 i (Nat.zero_le i) (by omega))
theorem mX5_greatestGap : mj_Mok eX5_greatestGap := ⟨by decide +kernel, rfl⟩
theorem rX5_takeOver_0 : mj_chkr eX5_takeOver kX5_takeOver 0 61 = true := by decide +kernel
theorem rX5_takeOver : mj_Rok eX5_takeOver := mj_Rok.of (n := 61) (by decide +kernel) (fun i hi => mj_chkr_spec rX5_takeOver_0 i (Nat.zero_le i) (by omega))
theorem mX5_takeOver : mj_Mok eX5_takeOver := ⟨by decide +kernel, rfl⟩
theorem rX6_init_0 : mj_chkr eX6_init kX6_init 0 23 = true := by decide +kernel
theorem rX6_init : mj_Rok eX6_init := mj_Rok.of (n := 23) (by decide +kernel) (fun i hi => mj_chkr_spec rX6_init_0 i (Nat.zero_le i) (by omega))
theorem mX6_init : mj_Mok eX6_init := ⟨by decide +kernel, rfl⟩
theorem rX6_told_0 : mj_chkr eX6_told kX6_told 0 8 = true := by decide +kernel
theorem rX6_told : mj_Rok eX6_told := mj_Rok.of (n := 8) (by decide +kernel) (fun i hi => mj_chkr_spec rX6_told_0 i (Nat.zero_le i) (by omega))
theorem mX6_told : mj_Mok eX6_told := ⟨by decide +kernel, rfl⟩
theorem rX6_sizeOf_0 : mj_chkr eX6_sizeOf kX6_sizeOf 0 12 = true := by decide +kernel
theorem rX6_sizeOf : mj_Rok eX6_sizeOf := mj_Rok.of (n := 12) (by decide +kernel) (fun i hi => mj_chkr_spec rX6_sizeOf_0 i (Nat.zero_le i) (by omega))
theorem mX6_sizeOf : mj_Mok eX6_sizeOf := ⟨by decide +kernel, rfl⟩
theorem rX6_linesOf_0 : mj_chkr eX6_linesOf kX6_linesOf 0 10 = true := by decide +kernel
theorem rX6_linesOf : mj_Rok eX6_linesOf := mj_Rok.of (n := 10) (by decide +kernel) (fun i hi => mj_chkr_spec rX6_linesOf_0 i (Nat.zero_le i) (by omega))
theorem mX6_linesOf : mj_Mok eX6_linesOf := ⟨by decide +kernel, rfl⟩
theorem rX6_deepOf_0 : mj_chkr eX6_deepOf kX6_deepOf 0 10 = true := by decide +kernel
theorem rX6_deepOf : mj_Rok eX6_deepOf := mj_Rok.of (n := 10) (by decide +kernel) (fun i hi => mj_chkr_spec rX6_deepOf_0 i (Nat.zero_le i) (by omega))
theorem mX6_deepOf : mj_Mok eX6_deepOf := ⟨by decide +kernel, rfl⟩
theorem rX6_frameWords_0 : mj_chkr eX6_frameWords kX6_frameWords 0 6 = true := by decide +kernel
theorem rX6_frameWords : mj_Rok eX6_frameWords := mj_Rok.of (n := 6) (by decide +kernel) (fun i hi => mj_chkr_spec rX6_frameWords_0 i (Nat.zero_le i) (by omega))
theorem mX6_frameWords : mj_Mok eX6_frameWords := ⟨by decide +kernel, rfl⟩
theorem rX6_hasSlot_0 : mj_chkr eX6_hasSlot kX6_hasSlot 0 11 = true := by decide +kernel
theorem rX6_hasSlot : mj_Rok eX6_hasSlot := mj_Rok.of (n := 11) (by decide +kernel) (fun i hi => mj_chkr_spec rX6_hasSlot_0 i (Nat.zero_le i) (by omega))
theorem mX6_hasSlot : mj_Mok eX6_hasSlot := ⟨by decide +kernel, rfl⟩
theorem rX6_isPointer_0 : mj_chkr eX6_isPointer kX6_isPointer 0 19 = true := by decide +kernel
theorem rX6_isPointer : mj_Rok eX6_isPointer := mj_Rok.of (n := 19) (by decide +kernel) (fun i hi => mj_chkr_spec rX6_isPointer_0 i (Nat.zero_le i) (by omega))
theorem mX6_isPointer : mj_Mok eX6_isPointer := ⟨by decide +kernel, rfl⟩
theorem rX6_hasNumber_0 : mj_chkr eX6_hasNumber kX6_hasNumber 0 14 = true := by decide +kernel
theorem rX6_hasNumber : mj_Rok eX6_hasNumber := mj_Rok.of (n := 14) (by decide +kernel) (fun i hi => mj_chkr_spec rX6_hasNumber_0 i (Nat.zero_le i) (by omega))
theorem mX6_hasNumber : mj_Mok eX6_hasNumber := ⟨by decide +kernel, rfl⟩
theorem rX6_hasPointer_0 : mj_chkr eX6_hasPointer kX6_hasPointer 0 14 = true := by decide +kernel
theorem rX6_hasPointer : mj_Rok eX6_hasPointer := mj_Rok.of (n := 14) (by decide +kernel) (fun i hi => mj_chkr_spec rX6_hasPointer_0 i (Nat.zero_le i) (by omega))
theorem mX6_hasPointer : mj_Mok eX6_hasPointer := ⟨by decide +kernel, rfl⟩
theorem rX6_part_0 : mj_chkr eX6_part kX6_part 0 39 = true := by decide +kernel
theorem rX6_part : mj_Rok eX6_part := mj_Rok.of (n := 39) (by decide +kernel) (fun i hi => mj_chkr_spec rX6_part_0 i (Nat.zero_le i) (by omega))
theorem mX6_part : mj_Mok eX6_part := ⟨by decide +kernel, rfl⟩
theorem rX6_tell_0 : mj_chkr eX6_tell kX6_tell 0 22 = true := by decide +kernel
theorem rX6_tell : mj_Rok eX6_tell := mj_Rok.of (n := 22) (by decide +kernel) (fun i hi => mj_chkr_spec rX6_tell_0 i (Nat.zero_le i) (by omega))
theorem mX6_tell : mj_Mok eX6_tell := ⟨by decide +kernel, rfl⟩
theorem rX6_allows_0 : mj_chkr eX6_allows kX6_allows 0 60 = true := by decide +kernel
theorem rX6_allows_60 : mj_chkr eX6_allows kX6_allows 60 60 = true := by decide +kernel
theorem rX6_allows_120 : mj_chkr eX6_allows kX6_allows 120 22 = true := by decide +kernel
theorem rX6_allows : mj_Rok eX6_allows := mj_Rok.of (n := 142) (by decide +kernel) (fun i hi => if h0 : i < 60 then mj_chkr_spec rX6_allows_0 i (by omega) (by omega) else if h60 : i < 120 then mj_chkr_spec rX6_allows_60 i (by omega) (by omega) else mj_chkr_spec rX6_allows_120 i (by omega) (by omega))
theorem mX6_allows : mj_Mok eX6_allows := ⟨by decide +kernel, rfl⟩
theorem rX6_append_0 : mj_chkr eX6_append kX6_append 0 65 = true := by decide +kernel
theorem rX6_append : mj_Rok eX6_append := mj_Rok.of (n := 65) (by decide +kernel) (fun i hi => mj_chkr_spec rX6_append_0 i (Nat.zero_le i) (by omega))
theorem mX6_append : mj_Mok eX6_append := ⟨by decide +kernel, rfl⟩
theorem rX6_findDeeps_0 : mj_chkr eX6_findDeeps kX6_findDeeps 0 47 = true := by decide +kernel
theorem rX6_findDeeps : mj_Rok eX6_findDeeps := mj_Rok.of (n := 47) (by decide +kernel) (fun i hi => mj_chkr_spec rX6_findDeeps_0 i (Nat.zero_le i) (by omega))
theorem mX6_findDeeps : mj_Mok eX6_findDeeps := ⟨by decide +kernel, rfl⟩
theorem rX6_deepByLines_0 : mj_chkr eX6_deepByLines kX6_deepByLines 0 33 = true := by decide +kernel
theorem rX6_deepByLines : mj_Rok eX6_deepByLines := mj_Rok.of (n := 33) (by decide +kernel) (fun i hi => mj_chkr_spec rX6_deepByLines_0 i (Nat.zero_le i) (by omega))
theorem mX6_deepByLines : mj_Mok eX6_deepByLines := ⟨by decide +kernel, rfl⟩
theorem rX6_calledBy_0 : mj_chkr eX6_calledBy kX6_calledBy 0 26 = true := by decide +kernel
theorem rX6_calledBy : mj_Rok eX6_calledBy := mj_Rok.of (n := 26) (by decide +kernel) (fun i hi => mj_chkr_spec rX6_calledBy_0 i (Nat.zero_le i) (by omega))
theorem mX6_calledBy : mj_Mok eX6_calledBy := ⟨by decide +kernel, rfl⟩
theorem rX6_toldFunctions_0 : mj_chkr eX6_toldFunctions kX6_toldFunctions 0 29 = true := by decide +kernel
theorem rX6_toldFunctions : mj_Rok eX6_toldFunctions := mj_Rok.of (n := 29) (by decide +kernel) (fun i hi => mj_chkr_spec rX6_toldFunctions_0 i (Nat.zero_le i) (by omega))
theorem mX6_toldFunctions : mj_Mok eX6_toldFunctions := ⟨by decide +kernel, rfl⟩
theorem rX6_toldLines_0 : mj_chkr eX6_toldLines kX6_toldLines 0 25 = true := by decide +kernel
theorem rX6_toldLines : mj_Rok eX6_toldLines := mj_Rok.of (n := 25) (by decide +kernel) (fun i hi => mj_chkr_spec rX6_toldLines_0 i (Nat.zero_le i) (by omega))
theorem mX6_toldLines : mj_Mok eX6_toldLines := ⟨by decide +kernel, rfl⟩
theorem rX6_takeOver_0 : mj_chkr eX6_takeOver kX6_takeOver 0 43 = true := by decide +kernel
theorem rX6_takeOver : mj_Rok eX6_takeOver := mj_Rok.of (n := 43) (by decide +kernel) (fun i hi => mj_chkr_spec rX6_takeOver_0 i (Nat.zero_le i) (by omega))
theorem mX6_takeOver : mj_Mok eX6_takeOver := ⟨by decide +kernel, rfl⟩
