def gX10_slot_20 (s : wt_S) : Option (Int32 × wt_S) := some ((-1000000000), s)
theorem sX10_slot_20 {L d : Nat}    {s : wt_S} {x0 x1 x2 x3 x4 x5 x6 x7 x8 : Option (mj_v Int32)} : wt_sd (wt_H L) wt_iv (d + 3) kX10_slot (mj_drop 10 kX10_slot) [x0, x1, x2, x3, x4, x5, x6, x7, x8] [] s (gX10_slot_20 s) := by
  unfold gX10_slot_20
  exact wt_go1 [20, 182, 183] 111 fun R h => wt_tr (e := wt_iv) h
def gX10_slot_183 (s : wt_S) (l4 : Int32) (l7 : Int32) (z0 : Int32) : Option (Int32 × wt_S) := (if z0 = ((-1) : Int32) then some (z0, s) else (if l4 ≠ (2 : Int32) then some (((l7 - (s 27 1)) - 2), s) else some (z0, s)))
theorem sX10_slot_183 {L d : Nat}    {s : wt_S} {l4 : Int32} {l7 : Int32} {z0 : Int32} {x1 x2 x3 x5 x6 x8 : Option (mj_v Int32)} : wt_sd (wt_H L) wt_iv (d + 3) kX10_slot (mj_drop 89 kX10_slot) [some (.inr (some 4)), x1, x2, x3, some (.inl l4), x5, x6, some (.inl l7), x8] [.inl z0] s (gX10_slot_183 s l4 l7 z0) := by
  unfold gX10_slot_183
  exact wt_go1 [20, 182, 183] 111 fun R h => wt_tb h (fun h => wt_tr (e := wt_iv) h) (fun h => wt_tb h (fun h => ⟨_, wt_s4, ⟨_, (wt_sWorldB wt_B11), ⟨_, (wt_sWalk wt_C11), wt_tr (e := wt_iv) h⟩⟩⟩) (fun h => wt_tr (e := wt_iv) h))
def gX10_slot_182 (s : wt_S) (l4 : Int32) (l7 : Int32) : Option (Int32 × wt_S) := gX10_slot_183 s l4 l7 (-1)
theorem sX10_slot_182 {L d : Nat}    {s : wt_S} {l4 : Int32} {l7 : Int32} {x1 x2 x3 x5 x6 x8 : Option (mj_v Int32)} : wt_sd (wt_H L) wt_iv (d + 3) kX10_slot (mj_drop 88 kX10_slot) [some (.inr (some 4)), x1, x2, x3, some (.inl l4), x5, x6, some (.inl l7), x8] [] s (gX10_slot_182 s l4 l7) := by
  unfold gX10_slot_182
  exact wt_go1 [20, 182, 183] 111 fun R h => ⟨trivial, sX10_slot_183 _ h⟩
def gX10_slot (s : wt_S) (i1 i2 i3 i4 : Int32) : Option (Int32 × wt_S) := (wt_cl (gX10_hasFrame s i1 i2) fun v2 s1 => (if v2 = (0 : Int32) then gX10_slot_20 s1 else (if i4.toInt < (0 : Int32).toInt then gX10_slot_20 s1 else (if i4.toInt ≤ (3 : Int32).toInt then (wt_ix i1 6 fun k3 => (wt_cl (gX8_toFrame 11 (11 + 17 + 2 * k3) s1 i2) fun _ s4 => (wt_cl (gX6_hasSlot 5 s4 (s4 27 2) i3) fun v6 s5 => (if v6 ≠ (0 : Int32) then (wt_cl (gX6_isPointer 5 s5 (s4 27 2) i3) fun v8 s7 => (wt_cl (gX3_word 11 s7 (((s7 27 1) + 2) + i3)) fun v10 s9 => (if i4 ≠ (0 : Int32) then (if i4 ≠ (1 : Int32) then (if v8 = (0 : Int32) then gX10_slot_182 s9 i4 v10 else (if v10 = ((-1) : Int32) then gX10_slot_182 s9 i4 v10 else (wt_ix i1 6 fun k11 => (wt_cl (gX8_toPlace 11 (11 + 17 + 2 * k11) s9 v10) fun v13 s12 => gX10_slot_183 s12 i4 v10 v13)))) else some (v10, s9)) else (if v8 = (0 : Int32) then some (0, s9) else some (1, s9))))) else some ((-1000000000), s5))))) else gX10_slot_20 s1))))
theorem sX10_slot {L d : Nat}   {s : wt_S} {i1 i2 i3 i4 : Int32} : wt_sd (wt_H L) wt_iv (d + 3) kX10_slot kX10_slot (mj_ent 9 [.inr (some 4), .inl i1, .inl i2, .inl i3, .inl i4]) [] s (gX10_slot s i1 i2 i3 i4) := by
  unfold gX10_slot
  exact wt_go [20, 182, 183] 111 fun R h => ⟨_, wt_s4, _, _, rfl, jX10_hasFrame, wt_tc h (sX10_hasFrame) fun v2 s1 h => wt_tb h (fun h => ⟨trivial, sX10_slot_20 _ h⟩) (fun h => wt_tb h (fun h => ⟨trivial, sX10_slot_20 _ h⟩) (fun h => wt_tb h (fun h => ⟨_, wt_s4, ⟨_, (wt_sWorldB wt_B11), ⟨_, wt_s4, ⟨_, (wt_sWorldB wt_B11), ⟨_, _, wt_r10 wt_C11, wt_ty h fun k3 hk3 h => ⟨_, if_pos hk3, ⟨_, (wt_sWalk wt_C11), _, _, rfl, jX8_toFrame, wt_tc h (sX8_toFrame wt_B11 (wt_Tk wt_C11 hk3)) fun _ s4 h => ⟨_, wt_s4, ⟨_, (wt_sWorldB wt_B11), ⟨_, (wt_sWalk wt_C11), ⟨_, wt_s4, ⟨_, (wt_sWorldB wt_B11), ⟨_, (wt_sQ wt_Q5), _, _, rfl, jX6_hasSlot, wt_tc h (sX6_hasSlot wt_Q5) fun v6 s5 h => wt_tb h (fun h => ⟨_, wt_s4, ⟨_, (wt_sWorldB wt_B11), ⟨_, (wt_sQ wt_Q5), _, _, rfl, jX6_isPointer, wt_tc h (sX6_isPointer wt_Q5) fun v8 s7 h => ⟨_, wt_s4, ⟨_, (wt_sWorldB wt_B11), ⟨_, wt_s4, ⟨_, (wt_sWorldB wt_B11), ⟨_, (wt_sWalk wt_C11), ⟨_, (wt_sMemory wt_C11), _, _, rfl, jX3_word, wt_tc h (sX3_word wt_B11) fun v10 s9 h => wt_tb h (fun h => wt_tb h (fun h => wt_tb h (fun h => ⟨trivial, sX10_slot_182 _ h⟩) (fun h => wt_tb h (fun h => ⟨trivial, sX10_slot_182 _ h⟩) (fun h => ⟨_, wt_s4, ⟨_, (wt_sWorldB wt_B11), ⟨_, wt_s4, ⟨_, (wt_sWorldB wt_B11), ⟨_, _, wt_r10 wt_C11, wt_ty h fun k11 hk11 h => ⟨_, if_pos hk11, ⟨_, wt_s4, ⟨_, (wt_sWorldB wt_B11), ⟨_, (wt_sWalk wt_C11), _, _, rfl, jX8_toPlace, wt_tc h (sX8_toPlace wt_B11 (wt_Tk wt_C11 hk11)) fun v13 s12 h => ⟨trivial, sX10_slot_183 _ h⟩⟩⟩⟩⟩⟩⟩⟩⟩⟩))) (fun h => wt_tr (e := wt_iv) h)) (fun h => wt_tb h (fun h => wt_tr (e := wt_iv) h) (fun h => wt_tr (e := wt_iv) h))⟩⟩⟩⟩⟩⟩⟩⟩⟩) (fun h => wt_tr (e := wt_iv) h)⟩⟩⟩⟩⟩⟩⟩⟩⟩⟩⟩⟩⟩) (fun h => ⟨trivial, sX10_slot_20 _ h⟩)))⟩
def gX9_pieceOf_52 (b : Nat) (t : Nat) : Nat → wt_S → Int32 → Int32 → Int32 → Option (Int32 × wt_S)
  | 0, _, _, _, _ => none
  | n + 1, s, l2, l4, l5 => (if l5.toInt ≤ l2.toInt then some (l4, s) else (wt_cl (gX5_belowOf b s l4) fun v2 s1 => gX9_pieceOf_52 b t n s1 l2 v2 (l5 + (-1))))
theorem sX9_pieceOf_52 {L d : Nat} {b : Nat} {t : Nat}  (hb : wt_B b) (ht : wt_T t) : ∀ (n : Nat) {s : wt_S} {l2 : Int32} {l4 : Int32} {l5 : Int32} {x1 x3 : Option (mj_v Int32)}, wt_sd (wt_H L) wt_iv (d + 2) kX9_pieceOf (mj_drop 30 kX9_pieceOf) [some (.inr (some (wt_wo b))), x1, some (.inl l2), x3, some (.inl l4), some (.inl l5)] [] s (gX9_pieceOf_52 b t n s l2 l4 l5) := by
  intro n
  induction n with
  | zero =>
    intro s l2 l4 l5 x1 x3
    exact fun R h => wt_tn h
  | succ n ih =>
    intro s l2 l4 l5 x1 x3
    unfold gX9_pieceOf_52
    exact wt_go1 [52] 46 fun R h => wt_tb h (fun h => wt_tr (e := wt_iv) h) (fun h => ⟨_, (wt_sWorldB hb), ⟨_, (wt_sPieces (wt_BC hb)), _, _, rfl, jX5_belowOf, wt_tc h (sX5_belowOf hb) fun v2 s1 h => ⟨trivial, ih  _ h⟩⟩⟩)
def gX9_pieceOf (b : Nat) (t : Nat) (s : wt_S) (i1 : Int32) : Option (Int32 × wt_S) := (if (s t 12) ≠ ((-1) : Int32) then (wt_cl (gX5_indexOf b s (s t 12)) fun v2 s1 => (if i1.toInt ≤ v2.toInt then gX9_pieceOf_52 b t wt_N s1 i1 (s1 t 12) v2 else (if i1 ≠ (v2 + 1) then some ((-1), s1) else some ((s1 t 13), s1)))) else some ((-1), s))
theorem sX9_pieceOf {L d : Nat} {b : Nat} {t : Nat} (hb : wt_B b) (ht : wt_T t) {s : wt_S} {i1 : Int32} : wt_sd (wt_H L) wt_iv (d + 2) kX9_pieceOf kX9_pieceOf (mj_ent 6 [.inr (some (wt_wo b)), .inr (some t), .inl i1]) [] s (gX9_pieceOf b t s i1) := by
  unfold gX9_pieceOf
  exact wt_go [52] 46 fun R h => ⟨_, (wt_sT ht), wt_tb h (fun h => ⟨_, (wt_sWorldB hb), ⟨_, (wt_sT ht), ⟨_, (wt_sPieces (wt_BC hb)), _, _, rfl, jX5_indexOf, wt_tc h (sX5_indexOf hb) fun v2 s1 h => wt_tb h (fun h => ⟨_, (wt_sT ht), ⟨trivial, sX9_pieceOf_52 hb ht wt_N _ h⟩⟩) (fun h => wt_tb h (fun h => wt_tr (e := wt_iv) h) (fun h => ⟨_, (wt_sT ht), wt_tr (e := wt_iv) h⟩))⟩⟩⟩) (fun h => wt_tr (e := wt_iv) h)⟩
def gX10_piece (s : wt_S) (i1 i2 i3 : Int32) : Option (Int32 × wt_S) := (wt_cl (gX10_isTask s i1) fun v2 s1 => (if v2 = (0 : Int32) then some ((-1), s1) else (if (0 : Int32).toInt ≤ i2.toInt then (wt_ix i1 6 fun k3 => (wt_cl (gX9_pieceOf 11 (11 + 17 + 2 * k3) s1 i2) fun v5 s4 => (if v5 ≠ ((-1) : Int32) then (if i3.toInt < 0 ∨ 3 < i3.toInt then some ((-1), s4) else (if i3.toInt = 0 then (wt_cl (gX5_placeOf 11 s4 v5) fun v7 s6 => some (v7, s6)) else (if i3.toInt = 1 then (wt_cl (gX5_wordsOf 11 s4 v5) fun v9 s8 => some (v9, s8)) else (if i3.toInt = 2 then (wt_cl (gX5_usedOf 11 s4 v5) fun v11 s10 => some (v11, s10)) else (if i3.toInt = 3 then (if v5 ≠ (s4 (11 + 17 + 2 * k3) 13) then some (0, s4) else some (1, s4)) else none))))) else some ((-1), s4)))) else some ((-1), s1))))
theorem sX10_piece {L d : Nat}   {s : wt_S} {i1 i2 i3 : Int32} : wt_sd (wt_H L) wt_iv (d + 3) kX10_piece kX10_piece (mj_ent 6 [.inr (some 4), .inl i1, .inl i2, .inl i3]) [] s (gX10_piece s i1 i2 i3) := by
  unfold gX10_piece
  exact wt_go [] 58 fun R h => ⟨_, _, rfl, jX10_isTask, wt_tc h (sX10_isTask) fun v2 s1 h => wt_tb h (fun h => wt_tr (e := wt_iv) h) (fun h => wt_tb h (fun h => ⟨_, wt_s4, ⟨_, (wt_sWorldB wt_B11), ⟨_, _, wt_r10 wt_C11, wt_ty h fun k3 hk3 h => ⟨_, if_pos hk3, ⟨_, wt_s4, ⟨_, (wt_sWorldB wt_B11), _, _, rfl, jX9_pieceOf, wt_tc h (sX9_pieceOf wt_B11 (wt_Tk wt_C11 hk3)) fun v5 s4 h => wt_tb h (fun h => wt_s0 h (fun h => wt_tr (e := wt_iv) h) (fun h => wt_s1 h (fun e => by omega) (fun h => ⟨_, wt_s4, ⟨_, (wt_sWorldB wt_B11), ⟨_, (wt_sPieces wt_C11), _, _, rfl, jX5_placeOf, wt_tc h (sX5_placeOf wt_B11) fun v7 s6 h => wt_tr (e := wt_iv) h⟩⟩⟩) (fun h => wt_s1 h (fun e => by omega) (fun h => ⟨_, wt_s4, ⟨_, (wt_sWorldB wt_B11), ⟨_, (wt_sPieces wt_C11), _, _, rfl, jX5_wordsOf, wt_tc h (sX5_wordsOf wt_B11) fun v9 s8 h => wt_tr (e := wt_iv) h⟩⟩⟩) (fun h => wt_s1 h (fun e => by omega) (fun h => ⟨_, wt_s4, ⟨_, (wt_sWorldB wt_B11), ⟨_, (wt_sPieces wt_C11), _, _, rfl, jX5_usedOf, wt_tc h (sX5_usedOf wt_B11) fun v11 s10 h => wt_tr (e := wt_iv) h⟩⟩⟩) (fun h => wt_s1 h (fun e => by omega) (fun h => ⟨_, (wt_sT (wt_Tk wt_C11 hk3)), wt_tb h (fun h => wt_tr (e := wt_iv) h) (fun h => wt_tr (e := wt_iv) h)⟩) (fun h => trivial)))))) (fun h => wt_tr (e := wt_iv) h)⟩⟩⟩⟩⟩⟩) (fun h => wt_tr (e := wt_iv) h))⟩
def gX5_gaps_31 (b : Nat) (K4 : wt_S → Int32 → Int32 → Option (Int32 × wt_S)) (s : wt_S) (l2 : Int32) (z0 : Int32) (z1 : Int32) : Option (Int32 × wt_S) := K4 s (z0 + z1) (l2 + 1)
theorem sX5_gaps_31 {L d : Nat} {b : Nat} {K4 : wt_S → Int32 → Int32 → Option (Int32 × wt_S)} (hb : wt_B b) (hK4 : ∀ {s : wt_S} {l1 : Int32} {l2 : Int32}, wt_sd (wt_H L) wt_iv (d + 2) kX5_gaps (mj_drop 4 kX5_gaps) [some (.inr (some (b + 2))), some (.inl l1), some (.inl l2)] [] s (K4 s l1 l2)) {s : wt_S} {l2 : Int32} {z0 : Int32} {z1 : Int32} {x1 : Option (mj_v Int32)} : wt_sd (wt_H L) wt_iv (d + 2) kX5_gaps (mj_drop 19 kX5_gaps) [some (.inr (some (b + 2))), x1, some (.inl l2)] [.inl z1, .inl z0] s (gX5_gaps_31 b K4 s l2 z0 z1) := by
  unfold gX5_gaps_31
  exact wt_go1 [4, 31] 29 fun R h => ⟨trivial, hK4  _ h⟩
def gX5_gaps_4 (b : Nat) : Nat → wt_S → Int32 → Int32 → Option (Int32 × wt_S)
  | 0, _, _, _ => none
  | n + 1, s, l1, l2 => (if (s (b + 2) 7).toInt < l2.toInt then some (l1, s) else (wt_cl (gX5_gapTo b s l2) fun v2 s1 => (wt_cl (gX5_gapFrom b s1 l2) fun v4 s3 => (if v2.toInt ≤ v4.toInt then gX5_gaps_31 b (gX5_gaps_4 b n) s3 l2 l1 0 else gX5_gaps_31 b (gX5_gaps_4 b n) s3 l2 l1 1))))
theorem sX5_gaps_4 {L d : Nat} {b : Nat}  (hb : wt_B b) : ∀ (n : Nat) {s : wt_S} {l1 : Int32} {l2 : Int32}, wt_sd (wt_H L) wt_iv (d + 2) kX5_gaps (mj_drop 4 kX5_gaps) [some (.inr (some (b + 2))), some (.inl l1), some (.inl l2)] [] s (gX5_gaps_4 b n s l1 l2) := by
  intro n
  induction n with
  | zero =>
    intro s l1 l2
    exact fun R h => wt_tn h
  | succ n ih =>
    intro s l1 l2
    unfold gX5_gaps_4
    exact wt_go1 [4, 31] 29 fun R h => ⟨_, (wt_sPieces (wt_BC hb)), wt_tb h (fun h => wt_tr (e := wt_iv) h) (fun h => ⟨_, (wt_sPieces (wt_BC hb)), _, _, rfl, jX5_gapTo, wt_tc h (sX5_gapTo hb) fun v2 s1 h => ⟨_, (wt_sPieces (wt_BC hb)), _, _, rfl, jX5_gapFrom, wt_tc h (sX5_gapFrom hb) fun v4 s3 h => wt_tb h (fun h => ⟨trivial, sX5_gaps_31 hb ih _ h⟩) (fun h => ⟨trivial, sX5_gaps_31 hb ih _ h⟩)⟩⟩)⟩
def gX5_gaps (b : Nat) (s : wt_S) : Option (Int32 × wt_S) := gX5_gaps_4 b wt_N s 0 0
theorem sX5_gaps {L d : Nat} {b : Nat} (hb : wt_B b) {s : wt_S}  : wt_sd (wt_H L) wt_iv (d + 2) kX5_gaps kX5_gaps (mj_ent 3 [.inr (some (b + 2))]) [] s (gX5_gaps b s) := by
  unfold gX5_gaps
  exact wt_go [4, 31] 29 fun R h => ⟨trivial, sX5_gaps_4 hb wt_N _ h⟩
def gX5_gapFact_5 (b : Nat) : Nat → wt_S → Int32 → Int32 → Int32 → Int32 → Option (Int32 × wt_S)
  | 0, _, _, _, _, _ => none
  | n + 1, s, l1, l2, l3, l4 => (if (s (b + 2) 7).toInt < l4.toInt then some ((-1), s) else (wt_cl (gX5_gapFrom b s l4) fun v2 s1 => (wt_cl (gX5_gapTo b s1 l4) fun v4 s3 => (if (v4 - v2).toInt ≤ (0 : Int32).toInt then gX5_gapFact_5 b n s3 l1 l2 l3 (l4 + 1) else (if l3 ≠ l1 then gX5_gapFact_5 b n s3 l1 l2 (l3 + 1) (l4 + 1) else (if l2 ≠ (0 : Int32) then some ((v4 - v2), s3) else some (v2, s3)))))))
theorem sX5_gapFact_5 {L d : Nat} {b : Nat}  (hb : wt_B b) : ∀ (n : Nat) {s : wt_S} {l1 : Int32} {l2 : Int32} {l3 : Int32} {l4 : Int32} {x5 x6 : Option (mj_v Int32)}, wt_sd (wt_H L) wt_iv (d + 2) kX5_gapFact (mj_drop 4 kX5_gapFact) [some (.inr (some (b + 2))), some (.inl l1), some (.inl l2), some (.inl l3), some (.inl l4), x5, x6] [] s (gX5_gapFact_5 b n s l1 l2 l3 l4) := by
  intro n
  induction n with
  | zero =>
    intro s l1 l2 l3 l4 x5 x6
    exact fun R h => wt_tn h
  | succ n ih =>
    intro s l1 l2 l3 l4 x5 x6
    unfold gX5_gapFact_5
    exact wt_go1 [5] 38 fun R h => ⟨_, (wt_sPieces (wt_BC hb)), wt_tb h (fun h => wt_tr (e := wt_iv) h) (fun h => ⟨_, (wt_sPieces (wt_BC hb)), _, _, rfl, jX5_gapFrom, wt_tc h (sX5_gapFrom hb) fun v2 s1 h => ⟨_, (wt_sPieces (wt_BC hb)), _, _, rfl, jX5_gapTo, wt_tc h (sX5_gapTo hb) fun v4 s3 h => wt_tb h (fun h => ⟨trivial, ih  _ h⟩) (fun h => wt_tb h (fun h => ⟨trivial, ih  _ h⟩) (fun h => wt_tb h (fun h => wt_tr (e := wt_iv) h) (fun h => wt_tr (e := wt_iv) h)))⟩⟩)⟩
def gX5_gapFact (b : Nat) (s : wt_S) (i1 i2 : Int32) : Option (Int32 × wt_S) := gX5_gapFact_5 b wt_N s i1 i2 0 0
theorem sX5_gapFact {L d : Nat} {b : Nat} (hb : wt_B b) {s : wt_S} {i1 i2 : Int32} : wt_sd (wt_H L) wt_iv (d + 2) kX5_gapFact kX5_gapFact (mj_ent 7 [.inr (some (b + 2)), .inl i1, .inl i2]) [] s (gX5_gapFact b s i1 i2) := by
  unfold gX5_gapFact
  exact wt_go [5] 38 fun R h => ⟨trivial, sX5_gapFact_5 hb wt_N _ h⟩
def gX10_gap_25 (s : wt_S) (l1 : Int32) (l2 : Int32) : Option (Int32 × wt_S) := (wt_cl (gX5_gapFact 11 s l1 l2) fun v2 s1 => some (v2, s1))
theorem sX10_gap_25 {L d : Nat}    {s : wt_S} {l1 : Int32} {l2 : Int32} : wt_sd (wt_H L) wt_iv (d + 3) kX10_gap (mj_drop 13 kX10_gap) [some (.inr (some 4)), some (.inl l1), some (.inl l2)] [] s (gX10_gap_25 s l1 l2) := by
  unfold gX10_gap_25
  exact wt_go1 [25] 26 fun R h => ⟨_, wt_s4, ⟨_, (wt_sWorldB wt_B11), ⟨_, (wt_sPieces wt_C11), _, _, rfl, jX5_gapFact, wt_tc h (sX5_gapFact wt_B11) fun v2 s1 h => wt_tr (e := wt_iv) h⟩⟩⟩
def gX10_gap (s : wt_S) (i1 i2 : Int32) : Option (Int32 × wt_S) := (if i1 ≠ ((-1) : Int32) then (if i2 = (0 : Int32) then gX10_gap_25 s i1 i2 else (if i2 ≠ (1 : Int32) then some ((-1), s) else gX10_gap_25 s i1 i2)) else (wt_cl (gX5_gaps 11 s) fun v2 s1 => some (v2, s1)))
theorem sX10_gap {L d : Nat}   {s : wt_S} {i1 i2 : Int32} : wt_sd (wt_H L) wt_iv (d + 3) kX10_gap kX10_gap (mj_ent 3 [.inr (some 4), .inl i1, .inl i2]) [] s (gX10_gap s i1 i2) := by
  unfold gX10_gap
  exact wt_go [25] 26 fun R h => wt_tb h (fun h => wt_tb h (fun h => ⟨trivial, sX10_gap_25 _ h⟩) (fun h => wt_tb h (fun h => wt_tr (e := wt_iv) h) (fun h => ⟨trivial, sX10_gap_25 _ h⟩))) (fun h => ⟨_, wt_s4, ⟨_, (wt_sWorldB wt_B11), ⟨_, (wt_sPieces wt_C11), _, _, rfl, jX5_gaps, wt_tc h (sX5_gaps wt_B11) fun v2 s1 h => wt_tr (e := wt_iv) h⟩⟩⟩)
def gX10_endless_23 (s : wt_S) : Option (Int32 × wt_S) := some ((-1000000000), s)
theorem sX10_endless_23 {L d : Nat}    {s : wt_S} {x0 x1 x2 x3 x4 : Option (mj_v Int32)} : wt_sd (wt_H L) wt_iv (d + 7) kX10_endless (mj_drop 11 kX10_endless) [x0, x1, x2, x3, x4] [] s (gX10_endless_23 s) := by
  unfold gX10_endless_23
  exact wt_go1 [23] 44 fun R h => wt_tr (e := wt_iv) h
def gX10_endless (s : wt_S) (i1 i2 i3 : Int32) : Option (Int32 × wt_S) := (wt_cl (gX6_told 5 s i1) fun v2 s1 => (if v2 = (0 : Int32) then gX10_endless_23 s1 else (if i3.toInt < (0 : Int32).toInt then gX10_endless_23 s1 else (if i3.toInt ≤ (2 : Int32).toInt then (wt_cl (gX10_thinkEndless s1 i1 i2) fun a4 s3 => (if a4 = 57 then (if (s3 57 1) = (3 : Int32) then (if i3 ≠ (0 : Int32) then (if i3 ≠ (1 : Int32) then some ((s3 57 6), s3) else some ((s3 58 2), s3)) else some ((s3 57 3), s3)) else some ((-1000000000), s3)) else none)) else gX10_endless_23 s1))))
theorem sX10_endless {L d : Nat}   {s : wt_S} {i1 i2 i3 : Int32} : wt_sd (wt_H L) wt_iv (d + 7) kX10_endless kX10_endless (mj_ent 5 [.inr (some 4), .inl i1, .inl i2, .inl i3]) [] s (gX10_endless s i1 i2 i3) := by
  unfold gX10_endless
  exact wt_go [23] 44 fun R h => ⟨_, wt_s4, ⟨_, (wt_sWorldB wt_B11), ⟨_, (wt_sQ wt_Q5), _, _, rfl, jX6_told, wt_tc h (sX6_told wt_Q5) fun v2 s1 h => wt_tb h (fun h => ⟨trivial, sX10_endless_23 _ h⟩) (fun h => wt_tb h (fun h => ⟨trivial, sX10_endless_23 _ h⟩) (fun h => wt_tb h (fun h => ⟨_, wt_s4, _, _, rfl, jX10_thinkEndless, wt_tc h (sX10_thinkEndless) fun a4 s3 h => wt_tt h fun e h => by subst e; exact ⟨_, (wt_sT wt_T57), wt_tb h (fun h => wt_tb h (fun h => wt_tb h (fun h => ⟨_, (wt_sT wt_T57), wt_tr (e := wt_iv) h⟩) (fun h => ⟨_, (wt_sT wt_T57), ⟨_, (wt_t1 wt_T57).1, 2, ⟨rfl, by decide⟩, wt_tr (e := wt_iv) h⟩⟩)) (fun h => ⟨_, (wt_sT wt_T57), wt_tr (e := wt_iv) h⟩)) (fun h => wt_tr (e := wt_iv) h)⟩⟩) (fun h => ⟨trivial, sX10_endless_23 _ h⟩)))⟩⟩⟩
def gJ9_min_7cf53 (s : wt_S) (i1 i2 : Int32) : Option (Int32 × wt_S) := (if i2.toInt < i1.toInt then some (i2, s) else some (i1, s))
theorem sJ9_min_7cf53 {L d : Nat}   {s : wt_S} {i1 i2 : Int32} : wt_sd (wt_H L) wt_iv d kJ9_min_7cf53 kJ9_min_7cf53 (mj_ent 2 [.inl i1, .inl i2]) [] s (gJ9_min_7cf53 s i1 i2) := by
  unfold gJ9_min_7cf53
  exact wt_go [] 11 fun R h => wt_tb h (fun h => wt_tr (e := wt_iv) h) (fun h => wt_tr (e := wt_iv) h)
def gX3_takeOver (b : Nat) (b2 : Nat) (s : wt_S) : Option (Unit × wt_S) := (wt_cl (gJ9_min_7cf53 s (Int32.ofInt (Int.ofNat (wt_mz b))) (Int32.ofInt (Int.ofNat (wt_mz b2)))) fun v2 s1 => (wt_ac s1 (b2 + 15) 0 (b + 15) 0 v2 (wt_mz b2) (wt_mz b) fun s3 => some ((), s3)))
theorem sX3_takeOver {L d : Nat} {b : Nat} {b2 : Nat} (hb : wt_C b) (hb2 : wt_C b2) {s : wt_S}  : wt_sd (wt_H L) wt_uv (d + 1) kX3_takeOver kX3_takeOver (mj_ent 2 [.inr (some (b + 14)), .inr (some (b2 + 14))]) [] s (gX3_takeOver b b2 s) := by
  unfold gX3_takeOver
  exact wt_go [] 19 fun R h => ⟨_, (wt_sMemory hb2), ⟨_, (wt_sMemory hb), ⟨_, (wt_sMemory hb), Or.inl ⟨_, _, (wt_r15 hb).1, ⟨_, (wt_sMemory hb2), Or.inl ⟨_, _, (wt_r15 hb2).1, ⟨_, _, rfl, jJ9_min_7cf53, wt_tc h (sJ9_min_7cf53) fun v2 s1 h => ⟨_, _, (wt_r15 hb2).1, (wt_r15 hb), rfl, wt_ta h fun s3 h => wt_tr (e := wt_uv) h⟩⟩⟩⟩⟩⟩⟩⟩
def gX5_takeOver (b : Nat) (b2 : Nat) (s : wt_S) : Option (Unit × wt_S) := (wt_ac s (b2 + 3) 0 (b + 3) 0 256 256 256 fun s1 => (wt_ac s1 (b2 + 4) 0 (b + 4) 0 256 256 256 fun s2 => (wt_ac s2 (b2 + 5) 0 (b + 5) 0 256 256 256 fun s3 => (wt_ac s3 (b2 + 6) 0 (b + 6) 0 256 256 256 fun s4 => (wt_ac s4 (b2 + 7) 0 (b + 7) 0 256 256 256 fun s5 => (wt_ac s5 (b2 + 8) 0 (b + 8) 0 256 256 256 fun s6 => (wt_wr s6 (b + 2) 7 (s6 (b2 + 2) 7) fun s7 => (wt_wr s7 (b + 2) 8 (s7 (b2 + 2) 8) fun s8 => (wt_wr s8 (b + 2) 9 (s8 (b2 + 2) 9) fun s9 => some ((), s9))))))))))
theorem sX5_takeOver {L d : Nat} {b : Nat} {b2 : Nat} (hb : wt_C b) (hb2 : wt_C b2) {s : wt_S}  : wt_sd (wt_H L) wt_uv d kX5_takeOver kX5_takeOver (mj_ent 2 [.inr (some (b + 2)), .inr (some (b2 + 2))]) [] s (gX5_takeOver b b2 s) := by
  unfold gX5_takeOver
  exact wt_go [] 65 fun R h => ⟨_, (wt_sPieces hb2), ⟨_, (wt_sPieces hb), ⟨_, _, (wt_r3 hb2).1, (wt_r3 hb), rfl, wt_ta h fun s1 h => ⟨_, (wt_sPieces hb2), ⟨_, (wt_sPieces hb), ⟨_, _, (wt_r4 hb2).1, (wt_r4 hb), rfl, wt_ta h fun s2 h => ⟨_, (wt_sPieces hb2), ⟨_, (wt_sPieces hb), ⟨_, _, (wt_r5 hb2).1, (wt_r5 hb), rfl, wt_ta h fun s3 h => ⟨_, (wt_sPieces hb2), ⟨_, (wt_sPieces hb), ⟨_, _, (wt_r6 hb2).1, (wt_r6 hb), rfl, wt_ta h fun s4 h => ⟨_, (wt_sPieces hb2), ⟨_, (wt_sPieces hb), ⟨_, _, (wt_r7 hb2).1, (wt_r7 hb), rfl, wt_ta h fun s5 h => ⟨_, (wt_sPieces hb2), ⟨_, (wt_sPieces hb), ⟨_, _, (wt_r8 hb2).1, (wt_r8 hb), rfl, wt_ta h fun s6 h => ⟨_, (wt_sPieces hb2), ⟨_, (wt_sPieces hb), have h := wt_tw h; ⟨_, (wt_sPieces hb2), ⟨_, (wt_sPieces hb), have h := wt_tw h; ⟨_, (wt_sPieces hb2), ⟨_, (wt_sPieces hb), have h := wt_tw h; wt_tr (e := wt_uv) h⟩⟩⟩⟩⟩⟩⟩⟩⟩⟩⟩⟩⟩⟩⟩⟩⟩⟩⟩⟩⟩⟩⟩⟩
def gX7_takeOver (t : Nat) (t2 : Nat) (s : wt_S) : Option (Unit × wt_S) := (wt_wr s t 1 (s t2 1) fun s1 => (wt_wr s1 t 2 (s1 t2 2) fun s2 => (wt_wr s2 t 3 (s2 t2 3) fun s3 => (wt_wr s3 t 4 (s3 t2 4) fun s4 => (wt_wr s4 t 5 (s4 t2 5) fun s5 => (wt_wr s5 t 6 (s5 t2 6) fun s6 => (wt_wr s6 t 7 (s6 t2 7) fun s7 => (wt_wr s7 t 8 (s7 t2 8) fun s8 => (wt_wr s8 t 9 (s8 t2 9) fun s9 => (wt_wr s9 t 10 (s9 t2 10) fun s10 => (wt_wr s10 t 11 (s10 t2 11) fun s11 => (wt_wr s11 t 12 (s11 t2 12) fun s12 => (wt_wr s12 t 13 (s12 t2 13) fun s13 => (wt_wr s13 t 14 (s13 t2 14) fun s14 => (wt_wr s14 t 15 (s14 t2 15) fun s15 => (wt_wr s15 t 16 (s15 t2 16) fun s16 => (wt_ac s16 (t2 + 1) 0 (t + 1) 0 12 12 12 fun s17 => some ((), s17))))))))))))))))))
theorem sX7_takeOver {L d : Nat} {t : Nat} {t2 : Nat} (ht : wt_T t) (ht2 : wt_T t2) {s : wt_S}  : wt_sd (wt_H L) wt_uv d kX7_takeOver kX7_takeOver (mj_ent 2 [.inr (some t), .inr (some t2)]) [] s (gX7_takeOver t t2 s) := by
  unfold gX7_takeOver
  exact wt_go [] 77 fun R h => ⟨_, (wt_sT ht2), ⟨_, (wt_sT ht), have h := wt_tw h; ⟨_, (wt_sT ht2), ⟨_, (wt_sT ht), have h := wt_tw h; ⟨_, (wt_sT ht2), ⟨_, (wt_sT ht), have h := wt_tw h; ⟨_, (wt_sT ht2), ⟨_, (wt_sT ht), have h := wt_tw h; ⟨_, (wt_sT ht2), ⟨_, (wt_sT ht), have h := wt_tw h; ⟨_, (wt_sT ht2), ⟨_, (wt_sT ht), have h := wt_tw h; ⟨_, (wt_sT ht2), ⟨_, (wt_sT ht), have h := wt_tw h; ⟨_, (wt_sT ht2), ⟨_, (wt_sT ht), have h := wt_tw h; ⟨_, (wt_sT ht2), ⟨_, (wt_sT ht), have h := wt_tw h; ⟨_, (wt_sT ht2), ⟨_, (wt_sT ht), have h := wt_tw h; ⟨_, (wt_sT ht2), ⟨_, (wt_sT ht), have h := wt_tw h; ⟨_, (wt_sT ht2), ⟨_, (wt_sT ht), have h := wt_tw h; ⟨_, (wt_sT ht2), ⟨_, (wt_sT ht), have h := wt_tw h; ⟨_, (wt_sT ht2), ⟨_, (wt_sT ht), have h := wt_tw h; ⟨_, (wt_sT ht2), ⟨_, (wt_sT ht), have h := wt_tw h; ⟨_, (wt_sT ht2), ⟨_, (wt_sT ht), have h := wt_tw h; ⟨_, (wt_sT ht2), ⟨_, (wt_sT ht), ⟨_, _, (wt_t1 ht2).1, (wt_t1 ht), rfl, wt_ta h fun s17 h => wt_tr (e := wt_uv) h⟩⟩⟩⟩⟩⟩⟩⟩⟩⟩⟩⟩⟩⟩⟩⟩⟩⟩⟩⟩⟩⟩⟩⟩⟩⟩⟩⟩⟩⟩⟩⟩⟩⟩⟩
def gX1_takeOver (b : Nat) (b2 : Nat) (s : wt_S) : Option (Unit × wt_S) := (wt_ac s (b2 + 12) 0 (b + 12) 0 160 160 160 fun s1 => (wt_wr s1 (b + 11) 1 (s1 (b2 + 11) 1) fun s2 => some ((), s2)))
theorem sX1_takeOver {L d : Nat} {b : Nat} {b2 : Nat} (hb : wt_C b) (hb2 : wt_C b2) {s : wt_S}  : wt_sd (wt_H L) wt_uv d kX1_takeOver kX1_takeOver (mj_ent 2 [.inr (some (b + 11)), .inr (some (b2 + 11))]) [] s (gX1_takeOver b b2 s) := by
  unfold gX1_takeOver
  exact wt_go [] 19 fun R h => ⟨_, (wt_sLog hb2), ⟨_, (wt_sLog hb), ⟨_, (wt_sLog hb), Or.inl ⟨_, _, (wt_r12 hb).1, ⟨_, _, (wt_r12 hb2).1, (wt_r12 hb), rfl, wt_ta h fun s1 h => ⟨_, (wt_sLog hb2), ⟨_, (wt_sLog hb), have h := wt_tw h; wt_tr (e := wt_uv) h⟩⟩⟩⟩⟩⟩⟩
def gX9_takeOver_39 (b : Nat) (b2 : Nat) : Nat → wt_S → Int32 → Option (Unit × wt_S)
  | 0, _, _ => none
  | n + 1, s, l2 => (if (6 : Int32).toInt ≤ l2.toInt then (wt_cl (gX1_takeOver b b2 s) fun _ s1 => (wt_ac s1 (b2 + 13) 0 (b + 13) 0 12 12 12 fun s2 => (wt_wr s2 (wt_wo b) 8 (s2 (wt_wo b2) 8) fun s3 => some ((), s3)))) else (wt_ix l2 6 fun k4 => (wt_ix l2 6 fun k5 => (wt_cl (gX7_takeOver (b + 17 + 2 * k4) (b2 + 17 + 2 * k5) s) fun _ s6 => gX9_takeOver_39 b b2 n s6 (l2 + 1)))))
theorem sX9_takeOver_39 {L d : Nat} {b : Nat} {b2 : Nat}  (hb : wt_C b) (hb2 : wt_C b2) : ∀ (n : Nat) {s : wt_S} {l2 : Int32}, wt_sd (wt_H L) wt_uv (d + 2) kX9_takeOver (mj_drop 20 kX9_takeOver) [some (.inr (some (wt_wo b))), some (.inr (some (wt_wo b2))), some (.inl l2)] [] s (gX9_takeOver_39 b b2 n s l2) := by
  intro n
  induction n with
  | zero =>
    intro s l2
    exact fun R h => wt_tn h
  | succ n ih =>
    intro s l2
    unfold gX9_takeOver_39
    exact wt_go1 [39] 56 fun R h => wt_tb h (fun h => ⟨_, (wt_sWorld hb), ⟨_, (wt_sWorld hb2), ⟨_, (wt_sLog hb), _, _, rfl, jX1_takeOver, wt_tc h (sX1_takeOver hb hb2) fun _ s1 h => ⟨_, (wt_sWorld hb2), ⟨_, (wt_sWorld hb), ⟨_, _, (wt_r13 hb2).1, (wt_r13 hb), rfl, wt_ta h fun s2 h => ⟨_, (wt_sWorld hb2), ⟨_, (wt_sWorld hb), have h := wt_tw h; wt_tr (e := wt_uv) h⟩⟩⟩⟩⟩⟩⟩⟩) (fun h => ⟨_, (wt_sWorld hb), ⟨_, _, wt_r10 hb, wt_ty h fun k4 hk4 h => ⟨_, if_pos hk4, ⟨_, (wt_sWorld hb2), ⟨_, _, wt_r10 hb2, wt_ty h fun k5 hk5 h => ⟨_, if_pos hk5, ⟨_, (wt_sT (wt_Tk hb hk4)), _, _, rfl, jX7_takeOver, wt_tc h (sX7_takeOver (wt_Tk hb hk4) (wt_Tk hb2 hk5)) fun _ s6 h => ⟨trivial, ih  _ h⟩⟩⟩⟩⟩⟩⟩⟩)
def gX9_takeOver (b : Nat) (b2 : Nat) (s : wt_S) : Option (Unit × wt_S) := (wt_ac s (b2 + 1) 0 (b + 1) 0 6 6 6 fun s1 => (wt_cl (gX3_takeOver b b2 s1) fun _ s2 => (wt_cl (gX5_takeOver b b2 s2) fun _ s3 => gX9_takeOver_39 b b2 wt_N s3 0)))
theorem sX9_takeOver {L d : Nat} {b : Nat} {b2 : Nat} (hb : wt_C b) (hb2 : wt_C b2) {s : wt_S}  : wt_sd (wt_H L) wt_uv (d + 2) kX9_takeOver kX9_takeOver (mj_ent 3 [.inr (some (wt_wo b)), .inr (some (wt_wo b2))]) [] s (gX9_takeOver b b2 s) := by
  unfold gX9_takeOver
  exact wt_go [39] 56 fun R h => ⟨_, (wt_sWorld hb2), ⟨_, (wt_sWorld hb), ⟨_, _, (wt_r1 hb2).1, (wt_r1 hb), rfl, wt_ta h fun s1 h => ⟨_, (wt_sWorld hb), ⟨_, (wt_sWorld hb2), ⟨_, (wt_sMemory hb), _, _, rfl, jX3_takeOver, wt_tc h (sX3_takeOver hb hb2) fun _ s2 h => ⟨_, (wt_sWorld hb), ⟨_, (wt_sWorld hb2), ⟨_, (wt_sPieces hb), _, _, rfl, jX5_takeOver, wt_tc h (sX5_takeOver hb hb2) fun _ s3 h => ⟨trivial, sX9_takeOver_39 hb hb2 wt_N _ h⟩⟩⟩⟩⟩⟩⟩⟩⟩⟩
def gX10_land_84 (s : wt_S) (l3 : Int32) (t4 : Nat) : Option (Int32 × wt_S) := (if l3.toInt < 0 ∨ 3 < l3.toInt then some ((s (t4 + 1) 5), s) else (if l3.toInt = 0 then some ((s t4 1), s) else (if l3.toInt = 1 then some ((s t4 4), s) else (if l3.toInt = 2 then some ((s t4 5), s) else (if l3.toInt = 3 then (wt_cl (gX9_wordsOf 40 t4 s) fun v2 s1 => some (v2, s1)) else none)))))
theorem sX10_land_84 {L d : Nat}    {s : wt_S} {l3 : Int32} {t4 : Nat} {x1 x2 x5 : Option (mj_v Int32)} (ht4 : wt_T t4) : wt_sd (wt_H L) wt_iv (d + 6) kX10_land (mj_drop 41 kX10_land) [some (.inr (some 4)), x1, x2, some (.inl l3), some (.inr (some t4)), x5] [] s (gX10_land_84 s l3 t4) := by
  unfold gX10_land_84
  exact wt_go1 [55, 84] 66 fun R h => wt_s0 h (fun h => ⟨_, (wt_sT ht4), ⟨_, (wt_t1 ht4).1, 5, ⟨rfl, by decide⟩, wt_tr (e := wt_iv) h⟩⟩) (fun h => wt_s1 h (fun e => by omega) (fun h => ⟨_, (wt_sT ht4), wt_tr (e := wt_iv) h⟩) (fun h => wt_s1 h (fun e => by omega) (fun h => ⟨_, (wt_sT ht4), wt_tr (e := wt_iv) h⟩) (fun h => wt_s1 h (fun e => by omega) (fun h => ⟨_, (wt_sT ht4), wt_tr (e := wt_iv) h⟩) (fun h => wt_s1 h (fun e => by omega) (fun h => ⟨_, wt_s4, ⟨_, (wt_sWorldB wt_B40), _, _, rfl, jX9_wordsOf, wt_tc h (sX9_wordsOf wt_B40 ht4) fun v2 s1 h => wt_tr (e := wt_iv) h⟩⟩) (fun h => trivial)))))
def gX10_land_55 : Nat → wt_S → Int32 → Int32 → Nat → Int32 → Option (Int32 × wt_S)
  | 0, _, _, _, _, _ => none
  | n + 1, s, l2, l3, t4, l5 => (if l2.toInt ≤ l5.toInt then gX10_land_84 s l3 t4 else (wt_cl (gX7_on t4 s) fun v2 s1 => (if v2 = (0 : Int32) then gX10_land_84 s1 l3 t4 else (wt_cl (gX2_makeStep 40 t4 s1) fun _ s3 => gX10_land_55 n s3 l2 l3 t4 (l5 + 1)))))
theorem sX10_land_55 {L d : Nat}    : ∀ (n : Nat) {s : wt_S} {l2 : Int32} {l3 : Int32} {t4 : Nat} {l5 : Int32} {x1 : Option (mj_v Int32)} (ht4 : wt_T t4), wt_sd (wt_H L) wt_iv (d + 6) kX10_land (mj_drop 29 kX10_land) [some (.inr (some 4)), x1, some (.inl l2), some (.inl l3), some (.inr (some t4)), some (.inl l5)] [] s (gX10_land_55 n s l2 l3 t4 l5) := by
  intro n
  induction n with
  | zero =>
    intro s l2 l3 t4 l5 x1 ht4
    exact fun R h => wt_tn h
  | succ n ih =>
    intro s l2 l3 t4 l5 x1 ht4
    unfold gX10_land_55
    exact wt_go1 [55, 84] 66 fun R h => wt_tb h (fun h => ⟨trivial, sX10_land_84 ht4 _ h⟩) (fun h => ⟨_, (wt_sT ht4), _, _, rfl, jX7_on, wt_tc h (sX7_on ht4) fun v2 s1 h => wt_tb h (fun h => ⟨trivial, sX10_land_84 ht4 _ h⟩) (fun h => ⟨_, wt_s4, ⟨_, (wt_sMachine wt_B40), _, _, rfl, jX2_makeStep, wt_tc h (sX2_makeStep wt_B40 ht4) fun _ s3 h => ⟨trivial, ih ht4 _ h⟩⟩⟩)⟩)
def gX10_land (s : wt_S) (i1 i2 i3 : Int32) : Option (Int32 × wt_S) := (wt_cl (gX10_isTask s i1) fun v2 s1 => (if v2 = (0 : Int32) then some ((-1), s1) else (if i2.toInt < (1 : Int32).toInt then some ((-1), s1) else (if (200 : Int32).toInt < i2.toInt then some ((-1), s1) else (if i3.toInt < (0 : Int32).toInt then some ((-1), s1) else (if i3.toInt ≤ (4 : Int32).toInt then (wt_cl (gX9_takeOver 40 11 s1) fun _ s3 => (wt_ix i1 6 fun k4 => gX10_land_55 wt_N s3 i2 i3 (40 + 17 + 2 * k4) 0)) else some ((-1), s1)))))))
theorem sX10_land {L d : Nat}   {s : wt_S} {i1 i2 i3 : Int32} : wt_sd (wt_H L) wt_iv (d + 6) kX10_land kX10_land (mj_ent 6 [.inr (some 4), .inl i1, .inl i2, .inl i3]) [] s (gX10_land s i1 i2 i3) := by
  unfold gX10_land
  exact wt_go [55, 84] 66 fun R h => ⟨_, _, rfl, jX10_isTask, wt_tc h (sX10_isTask) fun v2 s1 h => wt_tb h (fun h => wt_tr (e := wt_iv) h) (fun h => wt_tb h (fun h => wt_tr (e := wt_iv) h) (fun h => wt_tb h (fun h => wt_tr (e := wt_iv) h) (fun h => wt_tb h (fun h => wt_tr (e := wt_iv) h) (fun h => wt_tb h (fun h => ⟨_, wt_s4, ⟨_, wt_s4, ⟨_, (wt_sWorldB wt_B40), _, _, rfl, jX9_takeOver, wt_tc h (sX9_takeOver wt_C40 wt_C11) fun _ s3 h => ⟨_, wt_s4, ⟨_, (wt_sWorldB wt_B40), ⟨_, _, wt_r10 wt_C40, wt_ty h fun k4 hk4 h => ⟨_, if_pos hk4, ⟨trivial, sX10_land_55 wt_N (wt_Tk wt_C40 hk4) _ h⟩⟩⟩⟩⟩⟩⟩⟩) (fun h => wt_tr (e := wt_iv) h)))))⟩
def gX10_thinkAlone_81 : Nat → wt_S → Nat → Int32 → Int32 → Option (Int32 × wt_S)
  | 0, _, _, _, _ => none
  | n + 1, s, t5, l6, l7 => (if (2000 : Int32).toInt ≤ l7.toInt then some (l6, s) else (wt_cl (gX7_on t5 s) fun v2 s1 => (if v2 = (0 : Int32) then some (l6, s1) else (wt_cl (gX2_makeStep 40 t5 s1) fun _ s3 => (wt_cl (gJ9_max_7cf53 s3 l6 (s3 42 8)) fun v5 s4 => gX10_thinkAlone_81 n s4 t5 v5 (l7 + 1))))))
theorem sX10_thinkAlone_81 {L d : Nat}    : ∀ (n : Nat) {s : wt_S} {t5 : Nat} {l6 : Int32} {l7 : Int32} {x1 x2 x3 x4 : Option (mj_v Int32)} (ht5 : wt_T t5), wt_sd (wt_H L) wt_iv (d + 6) kX10_thinkAlone (mj_drop 41 kX10_thinkAlone) [some (.inr (some 4)), x1, x2, x3, x4, some (.inr (some t5)), some (.inl l6), some (.inl l7)] [] s (gX10_thinkAlone_81 n s t5 l6 l7) := by
  intro n
  induction n with
  | zero =>
    intro s t5 l6 l7 x1 x2 x3 x4 ht5
    exact fun R h => wt_tn h
  | succ n ih =>
    intro s t5 l6 l7 x1 x2 x3 x4 ht5
    unfold gX10_thinkAlone_81
    exact wt_go1 [81] 66 fun R h => wt_tb h (fun h => wt_tr (e := wt_iv) h) (fun h => ⟨_, (wt_sT ht5), _, _, rfl, jX7_on, wt_tc h (sX7_on ht5) fun v2 s1 h => wt_tb h (fun h => wt_tr (e := wt_iv) h) (fun h => ⟨_, wt_s4, ⟨_, (wt_sMachine wt_B40), _, _, rfl, jX2_makeStep, wt_tc h (sX2_makeStep wt_B40 ht5) fun _ s3 h => ⟨_, wt_s4, ⟨_, (wt_sWorldB wt_B40), ⟨_, (wt_sPieces wt_C40), ⟨_, _, rfl, jJ9_max_7cf53, wt_tc h (sJ9_max_7cf53) fun v5 s4 h => ⟨trivial, ih ht5 _ h⟩⟩⟩⟩⟩⟩⟩)⟩)
def gX10_thinkAlone (s : wt_S) (i1 i2 i3 i4 : Int32) : Option (Int32 × wt_S) := (wt_cl (gX9_clear 40 s 2048) fun _ s1 => (wt_ac s1 12 0 41 0 6 6 6 fun s2 => (wt_wr s2 41 0 i4 fun s3 => (wt_ix 0 6 fun k4 => (wt_cl (gX2_begin 40 (40 + 17 + 2 * k4) s3 i1 i2 i3) fun v6 s5 => gX10_thinkAlone_81 wt_N s5 (40 + 17 + 2 * k4) (s5 42 8) 0)))))
theorem sX10_thinkAlone {L d : Nat}   {s : wt_S} {i1 i2 i3 i4 : Int32} : wt_sd (wt_H L) wt_iv (d + 6) kX10_thinkAlone kX10_thinkAlone (mj_ent 8 [.inr (some 4), .inl i1, .inl i2, .inl i3, .inl i4]) [] s (gX10_thinkAlone s i1 i2 i3 i4) := by
  unfold gX10_thinkAlone
  exact wt_go [81] 66 fun R h => ⟨_, wt_s4, ⟨_, (wt_sWorldB wt_B40), _, _, rfl, jX9_clear, wt_tc h (sX9_clear wt_B40) fun _ s1 h => ⟨_, wt_s4, ⟨_, (wt_sWorldB wt_B11), ⟨_, wt_s4, ⟨_, (wt_sWorldB wt_B40), ⟨_, _, (wt_r1 wt_C11).1, (wt_r1 wt_C40), rfl, wt_ta h fun s2 h => ⟨_, wt_s4, ⟨_, (wt_sWorldB wt_B40), ⟨_, (wt_r1 wt_C40), 0, ⟨rfl, by decide⟩, have h := wt_tw h; ⟨_, wt_s4, ⟨_, (wt_sWorldB wt_B40), ⟨_, _, wt_r10 wt_C40, wt_ty h fun k4 hk4 h => ⟨_, if_pos hk4, ⟨_, wt_s4, ⟨_, (wt_sMachine wt_B40), _, _, rfl, jX2_begin, wt_tc h (sX2_begin wt_B40 (wt_Tk wt_C40 hk4)) fun v6 s5 h => ⟨_, wt_s4, ⟨_, (wt_sWorldB wt_B40), ⟨_, (wt_sPieces wt_C40), ⟨trivial, sX10_thinkAlone_81 wt_N (wt_Tk wt_C40 hk4) _ h⟩⟩⟩⟩⟩⟩⟩⟩⟩⟩⟩⟩⟩⟩⟩⟩⟩⟩⟩⟩
def gX10_leastFirstFor_6 : Nat → wt_S → Int32 → Int32 → Option (Int32 × wt_S)
  | 0, _, _, _ => none
  | n + 1, s, l0, l1 => (if (s 2 0).toInt < l1.toInt then some ((-1), s) else (if l1.toInt < l0.toInt then gX10_leastFirstFor_6 n s l0 (l1 * 2) else some (l1, s)))
theorem sX10_leastFirstFor_6 {L d : Nat}    : ∀ (n : Nat) {s : wt_S} {l0 : Int32} {l1 : Int32}, wt_sd (wt_H L) wt_iv d kX10_leastFirstFor (mj_drop 4 kX10_leastFirstFor) [some (.inl l0), some (.inl l1)] [] s (gX10_leastFirstFor_6 n s l0 l1) := by
  intro n
  induction n with
  | zero =>
    intro s l0 l1
    exact fun R h => wt_tn h
  | succ n ih =>
    intro s l0 l1
    unfold gX10_leastFirstFor_6
    exact wt_go1 [6] 25 fun R h => ⟨_, wt_o2, 0, ⟨rfl, by decide⟩, wt_tb h (fun h => wt_tr (e := wt_iv) h) (fun h => wt_tb h (fun h => ⟨trivial, ih  _ h⟩) (fun h => wt_tr (e := wt_iv) h))⟩
def gX10_leastFirstFor (s : wt_S) (i1 : Int32) : Option (Int32 × wt_S) := gX10_leastFirstFor_6 wt_N s i1 (s 1 0)
theorem sX10_leastFirstFor {L d : Nat}   {s : wt_S} {i1 : Int32} : wt_sd (wt_H L) wt_iv d kX10_leastFirstFor kX10_leastFirstFor (mj_ent 2 [.inl i1]) [] s (gX10_leastFirstFor s i1) := by
  unfold gX10_leastFirstFor
  exact wt_go [6] 25 fun R h => ⟨_, wt_o1, 0, ⟨rfl, by decide⟩, ⟨trivial, sX10_leastFirstFor_6 wt_N _ h⟩⟩
def gX10_alone_65 (s : wt_S) (l4 : Int32) (z1 : Int32) (z2 : Int32) (z3 : Int32) (z4 : Int32) : Option (Int32 × wt_S) := (wt_cl (gX10_thinkAlone s z1 z2 z3 z4) fun v2 s1 => (wt_ix 0 6 fun k3 => (if l4.toInt < 0 ∨ 5 < l4.toInt then (wt_cl (gX10_leastFirstFor s1 (s1 (40 + 17 + 2 * k3) 14)) fun v5 s4 => some (v5, s4)) else (if l4.toInt = 0 then some ((s1 (40 + 17 + 2 * k3) 1), s1) else (if l4.toInt = 1 then some ((s1 ((40 + 17 + 2 * k3) + 1) 2), s1) else (if l4.toInt = 2 then some ((s1 ((40 + 17 + 2 * k3) + 1) 3), s1) else (if l4.toInt = 3 then some ((s1 ((40 + 17 + 2 * k3) + 1) 5), s1) else (if l4.toInt = 4 then some ((s1 ((40 + 17 + 2 * k3) + 1) 6), s1) else (if l4.toInt = 5 then some (v2, s1) else none)))))))))
theorem sX10_alone_65 {L d : Nat}    {s : wt_S} {l4 : Int32} {z1 : Int32} {z2 : Int32} {z3 : Int32} {z4 : Int32} {x1 x2 x3 x5 x6 : Option (mj_v Int32)} : wt_sd (wt_H L) wt_iv (d + 7) kX10_alone (mj_drop 34 kX10_alone) [some (.inr (some 4)), x1, x2, x3, some (.inl l4), x5, x6] [.inl z4, .inl z3, .inl z2, .inl z1, .inr (some 4)] s (gX10_alone_65 s l4 z1 z2 z3 z4) := by
  unfold gX10_alone_65
  exact wt_go1 [65] 77 fun R h => ⟨_, wt_s4, _, _, rfl, jX10_thinkAlone, wt_tc h (sX10_thinkAlone) fun v2 s1 h => ⟨_, wt_s4, ⟨_, (wt_sWorldB wt_B40), ⟨_, _, wt_r10 wt_C40, wt_ty h fun k3 hk3 h => ⟨_, if_pos hk3, wt_s0 h (fun h => ⟨_, (wt_sT (wt_Tk wt_C40 hk3)), ⟨_, _, rfl, jX10_leastFirstFor, wt_tc h (sX10_leastFirstFor) fun v5 s4 h => wt_tr (e := wt_iv) h⟩⟩) (fun h => wt_s1 h (fun e => by omega) (fun h => ⟨_, (wt_sT (wt_Tk wt_C40 hk3)), wt_tr (e := wt_iv) h⟩) (fun h => wt_s1 h (fun e => by omega) (fun h => ⟨_, (wt_sT (wt_Tk wt_C40 hk3)), ⟨_, (wt_t1 (wt_Tk wt_C40 hk3)).1, 2, ⟨rfl, by decide⟩, wt_tr (e := wt_iv) h⟩⟩) (fun h => wt_s1 h (fun e => by omega) (fun h => ⟨_, (wt_sT (wt_Tk wt_C40 hk3)), ⟨_, (wt_t1 (wt_Tk wt_C40 hk3)).1, 3, ⟨rfl, by decide⟩, wt_tr (e := wt_iv) h⟩⟩) (fun h => wt_s1 h (fun e => by omega) (fun h => ⟨_, (wt_sT (wt_Tk wt_C40 hk3)), ⟨_, (wt_t1 (wt_Tk wt_C40 hk3)).1, 5, ⟨rfl, by decide⟩, wt_tr (e := wt_iv) h⟩⟩) (fun h => wt_s1 h (fun e => by omega) (fun h => ⟨_, (wt_sT (wt_Tk wt_C40 hk3)), ⟨_, (wt_t1 (wt_Tk wt_C40 hk3)).1, 6, ⟨rfl, by decide⟩, wt_tr (e := wt_iv) h⟩⟩) (fun h => wt_s1 h (fun e => by omega) (fun h => wt_tr (e := wt_iv) h) (fun h => trivial)))))))⟩⟩⟩⟩⟩
def gX10_alone (s : wt_S) (i1 i2 i3 i4 : Int32) : Option (Int32 × wt_S) := (wt_cl (gX6_told 5 s i1) fun v2 s1 => (if v2 = (0 : Int32) then some ((-1), s1) else (if i3.toInt < (0 : Int32).toInt then some ((-1), s1) else (if (1 : Int32).toInt < i3.toInt then some ((-1), s1) else (if i4.toInt < (0 : Int32).toInt then some ((-1), s1) else (if i4.toInt ≤ (6 : Int32).toInt then (if i4 ≠ (6 : Int32) then gX10_alone_65 s1 i4 i1 i2 i3 (s1 12 0) else gX10_alone_65 s1 i4 i1 i2 i3 (s1 2 0)) else some ((-1), s1)))))))
theorem sX10_alone {L d : Nat}   {s : wt_S} {i1 i2 i3 i4 : Int32} : wt_sd (wt_H L) wt_iv (d + 7) kX10_alone kX10_alone (mj_ent 7 [.inr (some 4), .inl i1, .inl i2, .inl i3, .inl i4]) [] s (gX10_alone s i1 i2 i3 i4) := by
  unfold gX10_alone
  exact wt_go [65] 77 fun R h => ⟨_, wt_s4, ⟨_, (wt_sWorldB wt_B11), ⟨_, (wt_sQ wt_Q5), _, _, rfl, jX6_told, wt_tc h (sX6_told wt_Q5) fun v2 s1 h => wt_tb h (fun h => wt_tr (e := wt_iv) h) (fun h => wt_tb h (fun h => wt_tr (e := wt_iv) h) (fun h => wt_tb h (fun h => wt_tr (e := wt_iv) h) (fun h => wt_tb h (fun h => wt_tr (e := wt_iv) h) (fun h => wt_tb h (fun h => wt_tb h (fun h => ⟨_, wt_s4, ⟨_, (wt_sWorldB wt_B11), ⟨_, (wt_r1 wt_C11).1, 0, ⟨rfl, by decide⟩, ⟨trivial, sX10_alone_65 _ h⟩⟩⟩⟩) (fun h => ⟨_, wt_o2, 0, ⟨rfl, by decide⟩, ⟨trivial, sX10_alone_65 _ h⟩⟩)) (fun h => wt_tr (e := wt_iv) h)))))⟩⟩⟩
