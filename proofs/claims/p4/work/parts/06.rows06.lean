theorem rX11_carries_0 : mj_chkr eX11_carries kX11_carries 0 37 = true := by decide +kernel
theorem rX11_carries : mj_Rok eX11_carries := mj_Rok.of (n := 37) (by decide +kernel) (fun i hi => mj_chkr_spec rX11_carries_0 i (Nat.zero_le i) (by omega))
theorem mX11_carries : mj_Mok eX11_carries := ⟨by decide +kernel, rfl⟩
theorem rX11_turns_0 : mj_chkr eX11_turns kX11_turns 0 60 = true := by decide +kernel
theorem rX11_turns_60 : mj_chkr eX11_turns kX11_turns 60 60 = true := by decide +kernel
theorem rX11_turns_120 : mj_chkr eX11_turns kX11_turns 120 2 = true := by decide +kernel
theorem rX11_turns : mj_Rok eX11_turns := mj_Rok.of (n := 122) (by decide +kernel) (fun i hi => if h0 : i < 60 then mj_chkr_spec rX11_turns_0 i (by omega) (by omega) else if h60 : i < 120 then mj_chkr_spec rX11_turns_60 i (by omega) (by omega) else mj_chkr_spec rX11_turns_120 i (by omega) (by omega))
theorem mX11_turns : mj_Mok eX11_turns := ⟨by decide +kernel, rfl⟩
theorem rX11_moves_0 : mj_chkr eX11_moves kX11_moves 0 82 = true := by decide +kernel
theorem rX11_moves : mj_Rok eX11_moves := mj_Rok.of (n := 82) (by decide +kernel) (fun i hi => mj_chkr_spec rX11_moves_0 i (Nat.zero_le i) (by omega))
theorem mX11_moves : mj_Mok eX11_moves := ⟨by decide +kernel, rfl⟩
theorem rX11_isCovered_0 : mj_chkr eX11_isCovered kX11_isCovered 0 24 = true := by decide +kernel
theorem rX11_isCovered : mj_Rok eX11_isCovered := mj_Rok.of (n := 24) (by decide +kernel) (fun i hi => mj_chkr_spec rX11_isCovered_0 i (Nat.zero_le i) (by omega))
theorem mX11_isCovered : mj_Mok eX11_isCovered := ⟨by decide +kernel, rfl⟩
theorem rX11_keptOf_0 : mj_chkr eX11_keptOf kX11_keptOf 0 18 = true := by decide +kernel
theorem rX11_keptOf : mj_Rok eX11_keptOf := mj_Rok.of (n := 18) (by decide +kernel) (fun i hi => mj_chkr_spec rX11_keptOf_0 i (Nat.zero_le i) (by omega))
theorem mX11_keptOf : mj_Mok eX11_keptOf := ⟨by decide +kernel, rfl⟩
theorem rX11_quiets_0 : mj_chkr eX11_quiets kX11_quiets 0 83 = true := by decide +kernel
theorem rX11_quiets : mj_Rok eX11_quiets := mj_Rok.of (n := 83) (by decide +kernel) (fun i hi => mj_chkr_spec rX11_quiets_0 i (Nat.zero_le i) (by omega))
theorem mX11_quiets : mj_Mok eX11_quiets := ⟨by decide +kernel, rfl⟩
theorem rX11_grows_0 : mj_chkr eX11_grows kX11_grows 0 60 = true := by decide +kernel
theorem rX11_grows_60 : mj_chkr eX11_grows kX11_grows 60 60 = true := by decide +kernel
theorem rX11_grows_120 : mj_chkr eX11_grows kX11_grows 120 60 = true := by decide +kernel
theorem rX11_grows_180 : mj_chkr eX11_grows kX11_grows 180 22 = true := by decide +kernel
theorem rX11_grows : mj_Rok eX11_grows := mj_Rok.of (n := 202) (by decide +kernel) (fun i hi => if h0 : i < 60 then mj_chkr_spec rX11_grows_0 i (by omega) (by omega) else if h60 : i < 120 then mj_chkr_spec rX11_grows_60 i (by omega) (by omega) else if h120 : i < 180 then mj_chkr_spec rX11_grows_120 i (by omega) (by omega) else mj_chkr_spec rX11_grows_180 i (by omega) (by omega))
theorem mX11_grows : mj_Mok eX11_grows := ⟨by decide +kernel, rfl⟩
theorem rX11_topOf_0 : mj_chkr eX11_topOf kX11_topOf 0 38 = true := by decide +kernel
theorem rX11_topOf : mj_Rok eX11_topOf := mj_Rok.of (n := 38) (by decide +kernel) (fun i hi => mj_chkr_spec rX11_topOf_0 i (Nat.zero_le i) (by omega))
theorem mX11_topOf : mj_Mok eX11_topOf := ⟨by decide +kernel, rfl⟩
theorem rX11_roomFor_0 : mj_chkr eX11_roomFor kX11_roomFor 0 80 = true := by decide +kernel
theorem rX11_roomFor : mj_Rok eX11_roomFor := mj_Rok.of (n := 80) (by decide +kernel) (fun i hi => mj_chkr_spec rX11_roomFor_0 i (Nat.zero_le i) (by omega))
theorem mX11_roomFor : mj_Mok eX11_roomFor := ⟨by decide +kernel, rfl⟩
theorem rX11_calls_0 : mj_chkr eX11_calls kX11_calls 0 60 = true := by decide +kernel
theorem rX11_calls_60 : mj_chkr eX11_calls kX11_calls 60 60 = true := by decide +kernel
theorem rX11_calls_120 : mj_chkr eX11_calls kX11_calls 120 60 = true := by decide +kernel
theorem rX11_calls_180 : mj_chkr eX11_calls kX11_calls 180 34 = true := by decide +kernel
theorem rX11_calls : mj_Rok eX11_calls := mj_Rok.of (n := 214) (by decide +kernel) (fun i hi => if h0 : i < 60 then mj_chkr_spec rX11_calls_0 i (by omega) (by omega) else if h60 : i < 120 then mj_chkr_spec rX11_calls_60 i (by omega) (by omega) else if h120 : i < 180 then mj_chkr_spec rX11_calls_120 i (by omega) (by omega) else mj_chkr_spec rX11_calls_180 i (by omega) (by omega))
theorem mX11_calls : mj_Mok eX11_calls := ⟨by decide +kernel, rfl⟩
theorem rX11_returns_0 : mj_chkr eX11_returns kX11_returns 0 60 = true := by decide +kernel
theorem rX11_returns_60 : mj_chkr eX11_returns kX11_returns 60 60 = true := by decide +kernel
theorem rX11_returns_120 : mj_chkr eX11_returns kX11_returns 120 18 = true := by decide +kernel
theorem rX11_returns : mj_Rok eX11_returns := mj_Rok.of (n := 138) (by decide +kernel) (fun i hi => if h0 : i < 60 then mj_chkr_spec rX11_returns_0 i (by omega) (by omega) else if h60 : i < 120 then mj_chkr_spec rX11_returns_60 i (by omega) (by omega) else mj_chkr_spec rX11_returns_120 i (by omega) (by omega))
theorem mX11_returns : mj_Mok eX11_returns := ⟨by decide +kernel, rfl⟩
theorem rX11_leaves_0 : mj_chkr eX11_leaves kX11_leaves 0 84 = true := by decide +kernel
theorem rX11_leaves : mj_Rok eX11_leaves := mj_Rok.of (n := 84) (by decide +kernel) (fun i hi => mj_chkr_spec rX11_leaves_0 i (Nat.zero_le i) (by omega))
theorem mX11_leaves : mj_Mok eX11_leaves := ⟨by decide +kernel, rfl⟩
