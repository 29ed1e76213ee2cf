def gX10_round_39 (K17 : wt_S → Int32 → Int32 → Int32 → Option (Int32 × wt_S)) : Nat → wt_S → Int32 → Int32 → Int32 → Int32 → Int32 → Option (Int32 × wt_S)
  | 0, _, _, _, _, _, _ => none
  | n + 1, s, l1, l2, l3, l5, l6 => (if l5.toInt ≤ l6.toInt then K17 s l1 l2 (l3 + 1) else (wt_ix l6 6 fun k1 => (wt_cl (gX7_on (11 + 17 + 2 * k1) s) fun v3 s2 => (if v3 = (0 : Int32) then gX10_round_39 K17 n s2 l1 l2 l3 l5 (l6 + 1) else (wt_cl (gX2_makeStep 11 (11 + 17 + 2 * k1) s2) fun _ s4 => (if (s4 (11 + 17 + 2 * k1) 1) ≠ (3 : Int32) then gX10_round_39 K17 n s4 l1 (l2 + 1) l3 l5 (l6 + 1) else (wt_cl (gX10_thinkEndless s4 (s4 (11 + 17 + 2 * k1) 15) (s4 (11 + 17 + 2 * k1) 16)) fun a6 s5 => (if a6 = 57 then (wt_cl (gX10_compareResults (11 + 17 + 2 * k1) 57 s5) fun _ s7 => gX10_round_39 K17 n s7 l1 (l2 + 1) l3 l5 (l6 + 1)) else none))))))))
theorem sX10_round_39 {L d : Nat}  {K17 : wt_S → Int32 → Int32 → Int32 → Option (Int32 × wt_S)}  (hK17 : ∀ {s : wt_S} {l1 : Int32} {l2 : Int32} {l3 : Int32} {x4 x5 x6 x7 : Option (mj_v Int32)}, wt_sd (wt_H L) wt_iv (d + 7) kX10_round (mj_drop 12 kX10_round) [some (.inr (some 4)), some (.inl l1), some (.inl l2), some (.inl l3), x4, x5, x6, x7] [] s (K17 s l1 l2 l3)) : ∀ (n : Nat) {s : wt_S} {l1 : Int32} {l2 : Int32} {l3 : Int32} {l5 : Int32} {l6 : Int32} {x7 : Option (mj_v Int32)}, wt_sd (wt_H L) wt_iv (d + 7) kX10_round (mj_drop 24 kX10_round) [some (.inr (some 4)), some (.inl l1), some (.inl l2), some (.inl l3), some (.inr (some 21)), some (.inl l5), some (.inl l6), x7] [] s (gX10_round_39 K17 n s l1 l2 l3 l5 l6) := by
  intro n
  induction n with
  | zero =>
    intro s l1 l2 l3 l5 l6 x7
    exact fun R h => wt_tn h
  | succ n ih =>
    intro s l1 l2 l3 l5 l6 x7
    unfold gX10_round_39
    exact wt_go1 [17, 39] 62 fun R h => wt_tb h (fun h => ⟨trivial, hK17  _ h⟩) (fun h => ⟨_, _, wt_r10 wt_C11, wt_ty h fun k1 hk1 h => ⟨_, if_pos hk1, ⟨_, (wt_sT (wt_Tk wt_C11 hk1)), _, _, rfl, jX7_on, wt_tc h (sX7_on (wt_Tk wt_C11 hk1)) fun v3 s2 h => wt_tb h (fun h => ⟨trivial, ih  _ h⟩) (fun h => ⟨_, wt_s4, ⟨_, (wt_sMachine wt_B11), _, _, rfl, jX2_makeStep, wt_tc h (sX2_makeStep wt_B11 (wt_Tk wt_C11 hk1)) fun _ s4 h => ⟨_, (wt_sT (wt_Tk wt_C11 hk1)), wt_tb h (fun h => ⟨trivial, ih  _ h⟩) (fun h => ⟨_, (wt_sT (wt_Tk wt_C11 hk1)), ⟨_, (wt_sT (wt_Tk wt_C11 hk1)), ⟨_, wt_s4, _, _, rfl, jX10_thinkEndless, wt_tc h (sX10_thinkEndless) fun a6 s5 h => wt_tt h fun e h => by subst e; exact ⟨_, wt_s4, _, _, rfl, jX10_compareResults, wt_tc h (sX10_compareResults (wt_Tk wt_C11 hk1) wt_T57) fun _ s7 h => ⟨trivial, ih  _ h⟩⟩⟩⟩⟩)⟩⟩⟩)⟩⟩⟩)
def gX10_round_17 : Nat → wt_S → Int32 → Int32 → Int32 → Option (Int32 × wt_S)
  | 0, _, _, _, _ => none
  | n + 1, s, l1, l2, l3 => (if l1.toInt ≤ l3.toInt then some (l2, s) else gX10_round_39 (gX10_round_17 n) wt_N s l1 l2 l3 6 0)
theorem sX10_round_17 {L d : Nat}    : ∀ (n : Nat) {s : wt_S} {l1 : Int32} {l2 : Int32} {l3 : Int32} {x4 x5 x6 x7 : Option (mj_v Int32)}, wt_sd (wt_H L) wt_iv (d + 7) kX10_round (mj_drop 12 kX10_round) [some (.inr (some 4)), some (.inl l1), some (.inl l2), some (.inl l3), x4, x5, x6, x7] [] s (gX10_round_17 n s l1 l2 l3) := by
  intro n
  induction n with
  | zero =>
    intro s l1 l2 l3 x4 x5 x6 x7
    exact fun R h => wt_tn h
  | succ n ih =>
    intro s l1 l2 l3 x4 x5 x6 x7
    unfold gX10_round_17
    exact wt_go1 [17, 39] 62 fun R h => wt_tb h (fun h => wt_tr (e := wt_iv) h) (fun h => ⟨_, wt_s4, ⟨_, (wt_sWorldB wt_B11), Or.inr ⟨_, _, wt_r10 wt_C11, ⟨trivial, sX10_round_39 ih wt_N _ h⟩⟩⟩⟩)
def gX10_round (s : wt_S) (i1 : Int32) : Option (Int32 × wt_S) := (if i1.toInt < (1 : Int32).toInt then some ((-1), s) else (if i1.toInt ≤ (100 : Int32).toInt then gX10_round_17 wt_N s i1 0 0 else some ((-1), s)))
theorem sX10_round {L d : Nat}   {s : wt_S} {i1 : Int32} : wt_sd (wt_H L) wt_iv (d + 7) kX10_round kX10_round (mj_ent 8 [.inr (some 4), .inl i1]) [] s (gX10_round s i1) := by
  unfold gX10_round
  exact wt_go [17, 39] 62 fun R h => wt_tb h (fun h => wt_tr (e := wt_iv) h) (fun h => wt_tb h (fun h => ⟨trivial, sX10_round_17 wt_N _ h⟩) (fun h => wt_tr (e := wt_iv) h))
def gX10_stop (s : wt_S) (i1 : Int32) : Option (Int32 × wt_S) := (wt_cl (gX10_isTask s i1) fun v2 s1 => (if v2 = (0 : Int32) then some (0, s1) else (wt_ix i1 6 fun k3 => (if (s1 (11 + 17 + 2 * k3) 1) ≠ (0 : Int32) then (wt_ix i1 6 fun k4 => (wt_cl (gX9_releasePieces 11 (11 + 17 + 2 * k4) s1) fun _ s5 => (wt_ix i1 6 fun k6 => (wt_cl (gX7_clear (11 + 17 + 2 * k6) s5) fun _ s7 => some (1, s7))))) else some (0, s1)))))
theorem sX10_stop {L d : Nat}   {s : wt_S} {i1 : Int32} : wt_sd (wt_H L) wt_iv (d + 3) kX10_stop kX10_stop (mj_ent 2 [.inr (some 4), .inl i1]) [] s (gX10_stop s i1) := by
  unfold gX10_stop
  exact wt_go [] 32 fun R h => ⟨_, _, rfl, jX10_isTask, wt_tc h (sX10_isTask) fun v2 s1 h => wt_tb h (fun h => ⟨Or.inl rfl, wt_tr (e := wt_iv) h⟩) (fun h => ⟨_, wt_s4, ⟨_, (wt_sWorldB wt_B11), ⟨_, _, wt_r10 wt_C11, wt_ty h fun k3 hk3 h => ⟨_, if_pos hk3, ⟨_, (wt_sT (wt_Tk wt_C11 hk3)), wt_tb h (fun h => ⟨_, wt_s4, ⟨_, wt_s4, ⟨_, (wt_sWorldB wt_B11), ⟨_, _, wt_r10 wt_C11, wt_ty h fun k4 hk4 h => ⟨_, if_pos hk4, ⟨_, (wt_sWorldB wt_B11), _, _, rfl, jX9_releasePieces, wt_tc h (sX9_releasePieces wt_B11 (wt_Tk wt_C11 hk4)) fun _ s5 h => ⟨_, wt_s4, ⟨_, (wt_sWorldB wt_B11), ⟨_, _, wt_r10 wt_C11, wt_ty h fun k6 hk6 h => ⟨_, if_pos hk6, ⟨_, (wt_sT (wt_Tk wt_C11 hk6)), _, _, rfl, jX7_clear, wt_tc h (sX7_clear (wt_Tk wt_C11 hk6)) fun _ s7 h => ⟨Or.inr rfl, wt_tr (e := wt_iv) h⟩⟩⟩⟩⟩⟩⟩⟩⟩⟩⟩⟩) (fun h => ⟨Or.inl rfl, wt_tr (e := wt_iv) h⟩)⟩⟩⟩⟩⟩)⟩
def gX10_quiet (s : wt_S) (i1 : Int32) : Option (Int32 × wt_S) := (wt_cl (gX10_isTask s i1) fun v2 s1 => (if v2 = (0 : Int32) then some (0, s1) else (wt_ix i1 6 fun k3 => (wt_cl (gX7_on (11 + 17 + 2 * k3) s1) fun v5 s4 => (if v5 = (0 : Int32) then some (0, s4) else (wt_ix i1 6 fun k6 => (wt_cl (gX4_makeSmaller 11 (11 + 17 + 2 * k6) s4) fun v8 s7 => (if v8 = (0 : Int32) then some (0, s7) else some (1, s7)))))))))
theorem sX10_quiet {L d : Nat}   {s : wt_S} {i1 : Int32} : wt_sd (wt_H L) wt_iv (d + 5) kX10_quiet kX10_quiet (mj_ent 2 [.inr (some 4), .inl i1]) [] s (gX10_quiet s i1) := by
  unfold gX10_quiet
  exact wt_go [] 28 fun R h => ⟨_, _, rfl, jX10_isTask, wt_tc h (sX10_isTask) fun v2 s1 h => wt_tb h (fun h => ⟨Or.inl rfl, wt_tr (e := wt_iv) h⟩) (fun h => ⟨_, wt_s4, ⟨_, (wt_sWorldB wt_B11), ⟨_, _, wt_r10 wt_C11, wt_ty h fun k3 hk3 h => ⟨_, if_pos hk3, ⟨_, (wt_sT (wt_Tk wt_C11 hk3)), _, _, rfl, jX7_on, wt_tc h (sX7_on (wt_Tk wt_C11 hk3)) fun v5 s4 h => wt_tb h (fun h => ⟨Or.inl rfl, wt_tr (e := wt_iv) h⟩) (fun h => ⟨_, wt_s4, ⟨_, (wt_sMachine wt_B11), ⟨_, wt_s4, ⟨_, (wt_sWorldB wt_B11), ⟨_, _, wt_r10 wt_C11, wt_ty h fun k6 hk6 h => ⟨_, if_pos hk6, ⟨_, (wt_sMover wt_B11), _, _, rfl, jX4_makeSmaller, wt_tc h (sX4_makeSmaller wt_B11 (wt_Tk wt_C11 hk6)) fun v8 s7 h => wt_tb h (fun h => ⟨Or.inl rfl, wt_tr (e := wt_iv) h⟩) (fun h => ⟨Or.inr rfl, wt_tr (e := wt_iv) h⟩)⟩⟩⟩⟩⟩⟩⟩)⟩⟩⟩⟩⟩)⟩
def gX4_joinPieces_164 (b : Nat) (t : Nat) (s : wt_S) (l2 : Int32) : Option (Int32 × wt_S) := (wt_cl (gX9_releasePieces b t s) fun _ s1 => (wt_cl (gX5_use b s1 l2 (s1 t 5)) fun _ s2 => (wt_wr s2 t 12 l2 fun s3 => (wt_wr s3 t 2 0 fun s4 => (wt_cl (gX9_add b t s4 5 (s4 t 5)) fun _ s5 => (wt_cl (gX9_writeLog b s5 6 l2) fun _ s6 => some (1, s6)))))))
theorem sX4_joinPieces_164 {L d : Nat} {b : Nat} {t : Nat}  (hb : wt_B b) (ht : wt_T t) {s : wt_S} {l2 : Int32} {x3 x4 x5 : Option (mj_v Int32)} : wt_sd (wt_H L) wt_iv (d + 3) kX4_joinPieces (mj_drop 83 kX4_joinPieces) [some (.inr (some (wt_mv b))), some (.inr (some t)), some (.inl l2), x3, x4, x5] [] s (gX4_joinPieces_164 b t s l2) := by
  unfold gX4_joinPieces_164
  exact wt_go1 [60, 113, 127, 164] 117 fun R h => ⟨_, (wt_sMover hb), ⟨_, (wt_sWorldB hb), _, _, rfl, jX9_releasePieces, wt_tc h (sX9_releasePieces hb ht) fun _ s1 h => ⟨_, (wt_sMover hb), ⟨_, (wt_sT ht), ⟨_, (wt_sPieces (wt_BC hb)), _, _, rfl, jX5_use, wt_tc h (sX5_use hb) fun _ s2 h => ⟨_, (wt_sT ht), have h := wt_tw h; ⟨_, (wt_sT ht), have h := wt_tw h; ⟨_, (wt_sMover hb), ⟨_, (wt_sT ht), ⟨_, (wt_sWorldB hb), _, _, rfl, jX9_add, wt_tc h (sX9_add hb ht) fun _ s5 h => ⟨_, (wt_sMover hb), ⟨_, (wt_sWorldB hb), _, _, rfl, jX9_writeLog, wt_tc h (sX9_writeLog hb) fun _ s6 h => ⟨Or.inr rfl, wt_tr (e := wt_iv) h⟩⟩⟩⟩⟩⟩⟩⟩⟩⟩⟩⟩⟩
def gX4_joinPieces_127 (b : Nat) (t : Nat) : Nat → wt_S → Int32 → Int32 → Int32 → Option (Int32 × wt_S)
  | 0, _, _, _, _ => none
  | n + 1, s, l2, l4, l5 => (if (256 : Int32).toInt ≤ l5.toInt then gX4_joinPieces_164 b t s l2 else (if l4 = ((-1) : Int32) then gX4_joinPieces_164 b t s l2 else (wt_cl (gX4_bringOver b s l4) fun _ s1 => (wt_cl (gX5_belowOf b s1 l4) fun v3 s2 => gX4_joinPieces_127 b t n s2 l2 v3 (l5 + 1)))))
theorem sX4_joinPieces_127 {L d : Nat} {b : Nat} {t : Nat}  (hb : wt_B b) (ht : wt_T t) : ∀ (n : Nat) {s : wt_S} {l2 : Int32} {l4 : Int32} {l5 : Int32} {x3 : Option (mj_v Int32)}, wt_sd (wt_H L) wt_iv (d + 3) kX4_joinPieces (mj_drop 67 kX4_joinPieces) [some (.inr (some (wt_mv b))), some (.inr (some t)), some (.inl l2), x3, some (.inl l4), some (.inl l5)] [] s (gX4_joinPieces_127 b t n s l2 l4 l5) := by
  intro n
  induction n with
  | zero =>
    intro s l2 l4 l5 x3
    exact fun R h => wt_tn h
  | succ n ih =>
    intro s l2 l4 l5 x3
    unfold gX4_joinPieces_127
    exact wt_go1 [60, 113, 127, 164] 117 fun R h => wt_tb h (fun h => ⟨trivial, sX4_joinPieces_164 hb ht _ h⟩) (fun h => wt_tb h (fun h => ⟨trivial, sX4_joinPieces_164 hb ht _ h⟩) (fun h => ⟨_, (wt_sMover hb), _, _, rfl, jX4_bringOver, wt_tc h (sX4_bringOver hb) fun _ s1 h => ⟨_, (wt_sMover hb), ⟨_, (wt_sPieces (wt_BC hb)), _, _, rfl, jX5_belowOf, wt_tc h (sX5_belowOf hb) fun v3 s2 h => ⟨trivial, ih  _ h⟩⟩⟩⟩))
def gX4_joinPieces_113 (b : Nat) (t : Nat) (s : wt_S) (l2 : Int32) : Option (Int32 × wt_S) := (wt_cl (gX4_turnPlaces b t s) fun _ s1 => gX4_joinPieces_127 b t wt_N s1 l2 (s1 t 12) 0)
theorem sX4_joinPieces_113 {L d : Nat} {b : Nat} {t : Nat}  (hb : wt_B b) (ht : wt_T t) {s : wt_S} {l2 : Int32} {x3 x4 x5 : Option (mj_v Int32)} : wt_sd (wt_H L) wt_iv (d + 3) kX4_joinPieces (mj_drop 59 kX4_joinPieces) [some (.inr (some (wt_mv b))), some (.inr (some t)), some (.inl l2), x3, x4, x5] [] s (gX4_joinPieces_113 b t s l2) := by
  unfold gX4_joinPieces_113
  exact wt_go1 [60, 113, 127, 164] 117 fun R h => ⟨_, (wt_sMover hb), _, _, rfl, jX4_turnPlaces, wt_tc h (sX4_turnPlaces hb ht) fun _ s1 h => ⟨_, (wt_sT ht), ⟨trivial, sX4_joinPieces_127 hb ht wt_N _ h⟩⟩⟩
def gX4_joinPieces_60 (b : Nat) (t : Nat) : Nat → wt_S → Int32 → Int32 → Int32 → Int32 → Option (Int32 × wt_S)
  | 0, _, _, _, _, _ => none
  | n + 1, s, l2, l3, l4, l5 => (if (256 : Int32).toInt ≤ l5.toInt then gX4_joinPieces_113 b t s l2 else (if l4 = ((-1) : Int32) then gX4_joinPieces_113 b t s l2 else (wt_cl (gX5_usedOf b s l4) fun v2 s1 => (wt_cl (gX5_aimAt b s1 l4 (l3 - v2)) fun _ s3 => (wt_cl (gX5_belowOf b s3 l4) fun v5 s4 => gX4_joinPieces_60 b t n s4 l2 (l3 - v2) v5 (l5 + 1))))))
theorem sX4_joinPieces_60 {L d : Nat} {b : Nat} {t : Nat}  (hb : wt_B b) (ht : wt_T t) : ∀ (n : Nat) {s : wt_S} {l2 : Int32} {l3 : Int32} {l4 : Int32} {l5 : Int32}, wt_sd (wt_H L) wt_iv (d + 3) kX4_joinPieces (mj_drop 34 kX4_joinPieces) [some (.inr (some (wt_mv b))), some (.inr (some t)), some (.inl l2), some (.inl l3), some (.inl l4), some (.inl l5)] [] s (gX4_joinPieces_60 b t n s l2 l3 l4 l5) := by
  intro n
  induction n with
  | zero =>
    intro s l2 l3 l4 l5
    exact fun R h => wt_tn h
  | succ n ih =>
    intro s l2 l3 l4 l5
    unfold gX4_joinPieces_60
    exact wt_go1 [60, 113, 127, 164] 117 fun R h => wt_tb h (fun h => ⟨trivial, sX4_joinPieces_113 hb ht _ h⟩) (fun h => wt_tb h (fun h => ⟨trivial, sX4_joinPieces_113 hb ht _ h⟩) (fun h => ⟨_, (wt_sMover hb), ⟨_, (wt_sPieces (wt_BC hb)), _, _, rfl, jX5_usedOf, wt_tc h (sX5_usedOf hb) fun v2 s1 h => ⟨_, (wt_sMover hb), ⟨_, (wt_sPieces (wt_BC hb)), _, _, rfl, jX5_aimAt, wt_tc h (sX5_aimAt hb) fun _ s3 h => ⟨_, (wt_sMover hb), ⟨_, (wt_sPieces (wt_BC hb)), _, _, rfl, jX5_belowOf, wt_tc h (sX5_belowOf hb) fun v5 s4 h => ⟨trivial, ih  _ h⟩⟩⟩⟩⟩⟩⟩))
def gX4_joinPieces (b : Nat) (t : Nat) (s : wt_S) : Option (Int32 × wt_S) := (wt_cl (gX4_keptWords b t s) fun v2 s1 => (wt_cl (gX4_doubled s1 (s (b + 1) 0) v2) fun v4 s3 => (wt_cl (gX5_take b s3 v4 (s3 t 0) (-1)) fun v6 s5 => (if v6 ≠ ((-1) : Int32) then (wt_cl (gX5_placeOf b s5 v6) fun v8 s7 => gX4_joinPieces_60 b t wt_N s7 v6 (v8 + (s7 t 5)) (s7 t 12) 0) else some (0, s5)))))
theorem sX4_joinPieces {L d : Nat} {b : Nat} {t : Nat} (hb : wt_B b) (ht : wt_T t) {s : wt_S}  : wt_sd (wt_H L) wt_iv (d + 3) kX4_joinPieces kX4_joinPieces (mj_ent 6 [.inr (some (wt_mv b)), .inr (some t)]) [] s (gX4_joinPieces b t s) := by
  unfold gX4_joinPieces
  exact wt_go [60, 113, 127, 164] 117 fun R h => ⟨_, (wt_sMover hb), ⟨_, (wt_sMover hb), ⟨_, (wt_sWorldB hb), ⟨_, (wt_r1 (wt_BC hb)).1, 0, ⟨rfl, by decide⟩, ⟨_, (wt_sMover hb), _, _, rfl, jX4_keptWords, wt_tc h (sX4_keptWords hb ht) fun v2 s1 h => ⟨_, _, rfl, jX4_doubled, wt_tc h (sX4_doubled) fun v4 s3 h => ⟨_, (wt_sT ht), ⟨_, (wt_sPieces (wt_BC hb)), _, _, rfl, jX5_take, wt_tc h (sX5_take hb) fun v6 s5 h => wt_tb h (fun h => ⟨_, (wt_sMover hb), ⟨_, (wt_sPieces (wt_BC hb)), _, _, rfl, jX5_placeOf, wt_tc h (sX5_placeOf hb) fun v8 s7 h => ⟨_, (wt_sT ht), ⟨_, (wt_sT ht), ⟨trivial, sX4_joinPieces_60 hb ht wt_N _ h⟩⟩⟩⟩⟩) (fun h => ⟨Or.inl rfl, wt_tr (e := wt_iv) h⟩)⟩⟩⟩⟩⟩⟩⟩⟩
def gX10_join (s : wt_S) (i1 : Int32) : Option (Int32 × wt_S) := (wt_cl (gX10_isTask s i1) fun v2 s1 => (if v2 = (0 : Int32) then some (0, s1) else (wt_ix i1 6 fun k3 => (wt_cl (gX7_on (11 + 17 + 2 * k3) s1) fun v5 s4 => (if v5 = (0 : Int32) then some (0, s4) else (wt_ix i1 6 fun k6 => (if (s4 (11 + 17 + 2 * k6) 2) = (1 : Int32) then (wt_ix i1 6 fun k7 => (wt_cl (gX4_joinPieces 11 (11 + 17 + 2 * k7) s4) fun v9 s8 => wt_rz v9 (some (v9, s8)))) else some (0, s4))))))))
theorem sX10_join {L d : Nat}   {s : wt_S} {i1 : Int32} : wt_sd (wt_H L) wt_iv (d + 4) kX10_join kX10_join (mj_ent 2 [.inr (some 4), .inl i1]) [] s (gX10_join s i1) := by
  unfold gX10_join
  exact wt_go [] 34 fun R h => ⟨_, _, rfl, jX10_isTask, wt_tc h (sX10_isTask) fun v2 s1 h => wt_tb h (fun h => ⟨Or.inl rfl, wt_tr (e := wt_iv) h⟩) (fun h => ⟨_, wt_s4, ⟨_, (wt_sWorldB wt_B11), ⟨_, _, wt_r10 wt_C11, wt_ty h fun k3 hk3 h => ⟨_, if_pos hk3, ⟨_, (wt_sT (wt_Tk wt_C11 hk3)), _, _, rfl, jX7_on, wt_tc h (sX7_on (wt_Tk wt_C11 hk3)) fun v5 s4 h => wt_tb h (fun h => ⟨Or.inl rfl, wt_tr (e := wt_iv) h⟩) (fun h => ⟨_, wt_s4, ⟨_, (wt_sWorldB wt_B11), ⟨_, _, wt_r10 wt_C11, wt_ty h fun k6 hk6 h => ⟨_, if_pos hk6, ⟨_, (wt_sT (wt_Tk wt_C11 hk6)), wt_tb h (fun h => ⟨_, wt_s4, ⟨_, (wt_sMachine wt_B11), ⟨_, wt_s4, ⟨_, (wt_sWorldB wt_B11), ⟨_, _, wt_r10 wt_C11, wt_ty h fun k7 hk7 h => ⟨_, if_pos hk7, ⟨_, (wt_sMover wt_B11), _, _, rfl, jX4_joinPieces, wt_tc h (sX4_joinPieces wt_B11 (wt_Tk wt_C11 hk7)) fun v9 s8 h => wt_tz h fun h => wt_tr (e := wt_iv) h⟩⟩⟩⟩⟩⟩⟩) (fun h => ⟨Or.inl rfl, wt_tr (e := wt_iv) h⟩)⟩⟩⟩⟩⟩)⟩⟩⟩⟩⟩)⟩
def gX5_settle (b : Nat) (s : wt_S) (i1 : Int32) : Option (Int32 × wt_S) := (if i1.toInt < (0 : Int32).toInt then some (0, s) else (if (256 : Int32).toInt ≤ i1.toInt then some (0, s) else (wt_ix i1 256 fun k1 => (if (s (b + 9) k1) ≠ (0 : Int32) then (wt_ix i1 256 fun k2 => (wt_ix i1 256 fun k3 => (wt_ix i1 256 fun k5 => wt_wr s (b + 3) k5 ((s (b + 3) k2) + (s (b + 9) k3)) fun s4 => some (1, s4)))) else some (0, s)))))
theorem sX5_settle {L d : Nat} {b : Nat} (hb : wt_B b) {s : wt_S} {i1 : Int32} : wt_sd (wt_H L) wt_iv d kX5_settle kX5_settle (mj_ent 2 [.inr (some (b + 2)), .inl i1]) [] s (gX5_settle b s i1) := by
  unfold gX5_settle
  exact wt_go [] 29 fun R h => wt_tb h (fun h => ⟨Or.inl rfl, wt_tr (e := wt_iv) h⟩) (fun h => wt_tb h (fun h => ⟨Or.inl rfl, wt_tr (e := wt_iv) h⟩) (fun h => ⟨_, (wt_sPieces (wt_BC hb)), ⟨_, (wt_r9 (wt_BC hb)).1, wt_tx h fun k1 h => wt_tb h (fun h => ⟨_, (wt_sPieces (wt_BC hb)), ⟨_, (wt_r3 (wt_BC hb)).1, wt_tx h fun k2 h => ⟨_, (wt_sPieces (wt_BC hb)), ⟨_, (wt_r9 (wt_BC hb)).1, wt_tx h fun k3 h => ⟨_, (wt_r3 (wt_BC hb)), wt_tx h fun k5 h => have h := wt_tw h; ⟨Or.inr rfl, wt_tr (e := wt_iv) h⟩⟩⟩⟩⟩⟩) (fun h => ⟨Or.inl rfl, wt_tr (e := wt_iv) h⟩)⟩⟩))
def gX4_gather_92 (b : Nat) : Nat → wt_S → Int32 → Int32 → Option (Int32 × wt_S)
  | 0, _, _, _ => none
  | n + 1, s, l2, l3 => (if (s (b + 2) 7).toInt ≤ l3.toInt then some (l2, s) else (wt_cl (gX5_idAt b s l3) fun v2 s1 => (wt_cl (gX4_bringOver b s1 v2) fun _ s3 => (wt_cl (gX5_settle b s3 v2) fun v5 s4 => (if v5 = (0 : Int32) then gX4_gather_92 b n s4 l2 (l3 + 1) else (wt_cl (gX9_writeLog b s4 7 v2) fun _ s6 => gX4_gather_92 b n s6 (l2 + 1) (l3 + 1)))))))
theorem sX4_gather_92 {L d : Nat} {b : Nat}  (hb : wt_B b) : ∀ (n : Nat) {s : wt_S} {l2 : Int32} {l3 : Int32} {x1 x4 x5 : Option (mj_v Int32)}, wt_sd (wt_H L) wt_iv (d + 3) kX4_gather (mj_drop 53 kX4_gather) [some (.inr (some (wt_mv b))), x1, some (.inl l2), some (.inl l3), x4, x5] [] s (gX4_gather_92 b n s l2 l3) := by
  intro n
  induction n with
  | zero =>
    intro s l2 l3 x1 x4 x5
    exact fun R h => wt_tn h
  | succ n ih =>
    intro s l2 l3 x1 x4 x5
    unfold gX4_gather_92
    exact wt_go1 [4, 64, 92] 85 fun R h => ⟨_, (wt_sMover hb), ⟨_, (wt_sPieces (wt_BC hb)), wt_tb h (fun h => wt_tr (e := wt_iv) h) (fun h => ⟨_, (wt_sMover hb), ⟨_, (wt_sPieces (wt_BC hb)), _, _, rfl, jX5_idAt, wt_tc h (sX5_idAt hb) fun v2 s1 h => ⟨_, (wt_sMover hb), _, _, rfl, jX4_bringOver, wt_tc h (sX4_bringOver hb) fun _ s3 h => ⟨_, (wt_sMover hb), ⟨_, (wt_sPieces (wt_BC hb)), _, _, rfl, jX5_settle, wt_tc h (sX5_settle hb) fun v5 s4 h => wt_tb h (fun h => ⟨trivial, ih  _ h⟩) (fun h => ⟨_, (wt_sMover hb), ⟨_, (wt_sWorldB hb), _, _, rfl, jX9_writeLog, wt_tc h (sX9_writeLog hb) fun _ s6 h => ⟨trivial, ih  _ h⟩⟩⟩)⟩⟩⟩⟩⟩)⟩⟩
def gX4_gather_64 (b : Nat) : Nat → wt_S → Int32 → Int32 → Option (Int32 × wt_S)
  | 0, _, _, _ => none
  | n + 1, s, l3, l4 => (if l3.toInt ≤ l4.toInt then gX4_gather_92 b wt_N s 0 0 else (wt_ix l4 6 fun k1 => (wt_cl (gX4_turnPlaces b (b + 17 + 2 * k1) s) fun _ s2 => gX4_gather_64 b n s2 l3 (l4 + 1))))
theorem sX4_gather_64 {L d : Nat} {b : Nat}  (hb : wt_B b) : ∀ (n : Nat) {s : wt_S} {l3 : Int32} {l4 : Int32} {x1 x5 : Option (mj_v Int32)}, wt_sd (wt_H L) wt_iv (d + 3) kX4_gather (mj_drop 37 kX4_gather) [some (.inr (some (wt_mv b))), x1, some (.inr (some (b + 10))), some (.inl l3), some (.inl l4), x5] [] s (gX4_gather_64 b n s l3 l4) := by
  intro n
  induction n with
  | zero =>
    intro s l3 l4 x1 x5
    exact fun R h => wt_tn h
  | succ n ih =>
    intro s l3 l4 x1 x5
    unfold gX4_gather_64
    exact wt_go1 [4, 64, 92] 85 fun R h => wt_tb h (fun h => ⟨trivial, sX4_gather_92 hb wt_N _ h⟩) (fun h => ⟨_, _, wt_r10 (wt_BC hb), wt_ty h fun k1 hk1 h => ⟨_, if_pos hk1, ⟨_, (wt_sMover hb), _, _, rfl, jX4_turnPlaces, wt_tc h (sX4_turnPlaces hb (wt_Tk (wt_BC hb) hk1)) fun _ s2 h => ⟨trivial, ih  _ h⟩⟩⟩⟩)
def gX4_gather_4 (b : Nat) : Nat → wt_S → Int32 → Int32 → Option (Int32 × wt_S)
  | 0, _, _, _ => none
  | n + 1, s, l1, l2 => (if (s (b + 2) 7).toInt ≤ l2.toInt then gX4_gather_64 b wt_N s 6 0 else (wt_cl (gX5_idAt b s l2) fun v2 s1 => (wt_cl (gX5_aimAt b s1 v2 l1) fun _ s3 => (wt_cl (gX5_wordsOf b s3 v2) fun v5 s4 => gX4_gather_4 b n s4 (l1 + v5) (l2 + 1)))))
theorem sX4_gather_4 {L d : Nat} {b : Nat}  (hb : wt_B b) : ∀ (n : Nat) {s : wt_S} {l1 : Int32} {l2 : Int32} {x3 x4 x5 : Option (mj_v Int32)}, wt_sd (wt_H L) wt_iv (d + 3) kX4_gather (mj_drop 4 kX4_gather) [some (.inr (some (wt_mv b))), some (.inl l1), some (.inl l2), x3, x4, x5] [] s (gX4_gather_4 b n s l1 l2) := by
  intro n
  induction n with
  | zero =>
    intro s l1 l2 x3 x4 x5
    exact fun R h => wt_tn h
  | succ n ih =>
    intro s l1 l2 x3 x4 x5
    unfold gX4_gather_4
    exact wt_go1 [4, 64, 92] 85 fun R h => ⟨_, (wt_sMover hb), ⟨_, (wt_sPieces (wt_BC hb)), wt_tb h (fun h => ⟨_, (wt_sMover hb), ⟨_, (wt_sWorldB hb), Or.inr ⟨_, _, wt_r10 (wt_BC hb), ⟨trivial, sX4_gather_64 hb wt_N _ h⟩⟩⟩⟩) (fun h => ⟨_, (wt_sMover hb), ⟨_, (wt_sPieces (wt_BC hb)), _, _, rfl, jX5_idAt, wt_tc h (sX5_idAt hb) fun v2 s1 h => ⟨_, (wt_sMover hb), ⟨_, (wt_sPieces (wt_BC hb)), _, _, rfl, jX5_aimAt, wt_tc h (sX5_aimAt hb) fun _ s3 h => ⟨_, (wt_sMover hb), ⟨_, (wt_sPieces (wt_BC hb)), _, _, rfl, jX5_wordsOf, wt_tc h (sX5_wordsOf hb) fun v5 s4 h => ⟨trivial, ih  _ h⟩⟩⟩⟩⟩⟩⟩)⟩⟩
def gX4_gather (b : Nat) (s : wt_S) : Option (Int32 × wt_S) := gX4_gather_4 b wt_N s 0 0
theorem sX4_gather {L d : Nat} {b : Nat} (hb : wt_B b) {s : wt_S}  : wt_sd (wt_H L) wt_iv (d + 3) kX4_gather kX4_gather (mj_ent 6 [.inr (some (wt_mv b))]) [] s (gX4_gather b s) := by
  unfold gX4_gather
  exact wt_go [4, 64, 92] 85 fun R h => ⟨trivial, sX4_gather_4 hb wt_N _ h⟩
def gX10_compact (s : wt_S) : Option (Int32 × wt_S) := (wt_cl (gX4_gather 11 s) fun v2 s1 => some (v2, s1))
theorem sX10_compact {L d : Nat}   {s : wt_S}  : wt_sd (wt_H L) wt_iv (d + 4) kX10_compact kX10_compact (mj_ent 1 [.inr (some 4)]) [] s (gX10_compact s) := by
  unfold gX10_compact
  exact wt_go [] 9 fun R h => ⟨_, wt_s4, ⟨_, (wt_sMachine wt_B11), ⟨_, (wt_sMover wt_B11), _, _, rfl, jX4_gather, wt_tc h (sX4_gather wt_B11) fun v2 s1 h => wt_tr (e := wt_iv) h⟩⟩⟩
def gX10_deep (s : wt_S) (i1 : Int32) : Option (Int32 × wt_S) := (wt_cl (gX6_told 5 s i1) fun v2 s1 => (if v2 = (0 : Int32) then some ((-1), s1) else (wt_cl (gX6_deepOf 5 s1 i1) fun v4 s3 => some (v4, s3))))
theorem sX10_deep {L d : Nat}   {s : wt_S} {i1 : Int32} : wt_sd (wt_H L) wt_iv (d + 2) kX10_deep kX10_deep (mj_ent 2 [.inr (some 4), .inl i1]) [] s (gX10_deep s i1) := by
  unfold gX10_deep
  exact wt_go [] 18 fun R h => ⟨_, wt_s4, ⟨_, (wt_sWorldB wt_B11), ⟨_, (wt_sQ wt_Q5), _, _, rfl, jX6_told, wt_tc h (sX6_told wt_Q5) fun v2 s1 h => wt_tb h (fun h => wt_tr (e := wt_iv) h) (fun h => ⟨_, wt_s4, ⟨_, (wt_sWorldB wt_B11), ⟨_, (wt_sQ wt_Q5), _, _, rfl, jX6_deepOf, wt_tc h (sX6_deepOf wt_Q5) fun v4 s3 h => wt_tr (e := wt_iv) h⟩⟩⟩)⟩⟩⟩
def gX10_need (s : wt_S) (i1 : Int32) : Option (Int32 × wt_S) := (wt_cl (gX6_told 5 s i1) fun v2 s1 => (if v2 = (0 : Int32) then some ((-1), s1) else (wt_cl (gX9_needOf 11 s1 i1) fun v4 s3 => some (v4, s3))))
theorem sX10_need {L d : Nat}   {s : wt_S} {i1 : Int32} : wt_sd (wt_H L) wt_iv (d + 4) kX10_need kX10_need (mj_ent 2 [.inr (some 4), .inl i1]) [] s (gX10_need s i1) := by
  unfold gX10_need
  exact wt_go [] 17 fun R h => ⟨_, wt_s4, ⟨_, (wt_sWorldB wt_B11), ⟨_, (wt_sQ wt_Q5), _, _, rfl, jX6_told, wt_tc h (sX6_told wt_Q5) fun v2 s1 h => wt_tb h (fun h => wt_tr (e := wt_iv) h) (fun h => ⟨_, wt_s4, ⟨_, (wt_sWorldB wt_B11), _, _, rfl, jX9_needOf, wt_tc h (sX9_needOf wt_B11) fun v4 s3 h => wt_tr (e := wt_iv) h⟩⟩)⟩⟩⟩
def gX5_indexOf_8 (b : Nat) : Nat → wt_S → Int32 → Int32 → Option (Int32 × wt_S)
  | 0, _, _, _ => none
  | n + 1, s, l2, l3 => (if l3 = ((-1) : Int32) then some (l2, s) else (if (256 : Int32).toInt ≤ l2.toInt then some (l2, s) else (wt_cl (gX5_belowOf b s l3) fun v2 s1 => gX5_indexOf_8 b n s1 (l2 + 1) v2)))
theorem sX5_indexOf_8 {L d : Nat} {b : Nat}  (hb : wt_B b) : ∀ (n : Nat) {s : wt_S} {l2 : Int32} {l3 : Int32} {x1 : Option (mj_v Int32)}, wt_sd (wt_H L) wt_iv (d + 1) kX5_indexOf (mj_drop 6 kX5_indexOf) [some (.inr (some (b + 2))), x1, some (.inl l2), some (.inl l3)] [] s (gX5_indexOf_8 b n s l2 l3) := by
  intro n
  induction n with
  | zero =>
    intro s l2 l3 x1
    exact fun R h => wt_tn h
  | succ n ih =>
    intro s l2 l3 x1
    unfold gX5_indexOf_8
    exact wt_go1 [8] 24 fun R h => wt_tb h (fun h => wt_tr (e := wt_iv) h) (fun h => wt_tb h (fun h => wt_tr (e := wt_iv) h) (fun h => ⟨_, (wt_sPieces (wt_BC hb)), _, _, rfl, jX5_belowOf, wt_tc h (sX5_belowOf hb) fun v2 s1 h => ⟨trivial, ih  _ h⟩⟩))
def gX5_indexOf (b : Nat) (s : wt_S) (i1 : Int32) : Option (Int32 × wt_S) := (wt_cl (gX5_belowOf b s i1) fun v2 s1 => gX5_indexOf_8 b wt_N s1 0 v2)
theorem sX5_indexOf {L d : Nat} {b : Nat} (hb : wt_B b) {s : wt_S} {i1 : Int32} : wt_sd (wt_H L) wt_iv (d + 1) kX5_indexOf kX5_indexOf (mj_ent 4 [.inr (some (b + 2)), .inl i1]) [] s (gX5_indexOf b s i1) := by
  unfold gX5_indexOf
  exact wt_go [8] 24 fun R h => ⟨_, (wt_sPieces (wt_BC hb)), _, _, rfl, jX5_belowOf, wt_tc h (sX5_belowOf hb) fun v2 s1 h => ⟨trivial, sX5_indexOf_8 hb wt_N _ h⟩⟩
def gX9_piecesOf_34 (b : Nat) (t : Nat) (s : wt_S) (z0 : Int32) (z1 : Int32) : Option (Int32 × wt_S) := some ((z0 + z1), s)
theorem sX9_piecesOf_34 {L d : Nat} {b : Nat} {t : Nat}  (hb : wt_B b) (ht : wt_T t) {s : wt_S} {z0 : Int32} {z1 : Int32} {x0 x1 : Option (mj_v Int32)} : wt_sd (wt_H L) wt_iv (d + 2) kX9_piecesOf (mj_drop 18 kX9_piecesOf) [x0, x1] [.inl z1, .inl z0] s (gX9_piecesOf_34 b t s z0 z1) := by
  unfold gX9_piecesOf_34
  exact wt_go1 [34] 24 fun R h => wt_tr (e := wt_iv) h
def gX9_piecesOf (b : Nat) (t : Nat) (s : wt_S) : Option (Int32 × wt_S) := (if (s t 12) ≠ ((-1) : Int32) then (wt_cl (gX5_indexOf b s (s t 12)) fun v2 s1 => (if (s1 t 13) ≠ ((-1) : Int32) then gX9_piecesOf_34 b t s1 v2 2 else gX9_piecesOf_34 b t s1 v2 1)) else some (0, s))
theorem sX9_piecesOf {L d : Nat} {b : Nat} {t : Nat} (hb : wt_B b) (ht : wt_T t) {s : wt_S}  : wt_sd (wt_H L) wt_iv (d + 2) kX9_piecesOf kX9_piecesOf (mj_ent 2 [.inr (some (wt_wo b)), .inr (some t)]) [] s (gX9_piecesOf b t s) := by
  unfold gX9_piecesOf
  exact wt_go [34] 24 fun R h => ⟨_, (wt_sT ht), wt_tb h (fun h => ⟨_, (wt_sWorldB hb), ⟨_, (wt_sT ht), ⟨_, (wt_sPieces (wt_BC hb)), _, _, rfl, jX5_indexOf, wt_tc h (sX5_indexOf hb) fun v2 s1 h => ⟨_, (wt_sT ht), wt_tb h (fun h => ⟨trivial, sX9_piecesOf_34 hb ht _ h⟩) (fun h => ⟨trivial, sX9_piecesOf_34 hb ht _ h⟩)⟩⟩⟩⟩) (fun h => wt_tr (e := wt_iv) h)⟩
def gX9_wordsOf_20 (b : Nat) (t : Nat) : Nat → wt_S → Int32 → Int32 → Int32 → Option (Int32 × wt_S)
  | 0, _, _, _, _ => none
  | n + 1, s, l2, l3, l4 => (if (256 : Int32).toInt ≤ l4.toInt then some (l2, s) else (if l3 = ((-1) : Int32) then some (l2, s) else (wt_cl (gX5_wordsOf b s l3) fun v2 s1 => (wt_cl (gX5_belowOf b s1 l3) fun v4 s3 => gX9_wordsOf_20 b t n s3 (l2 + v2) v4 (l4 + 1)))))
theorem sX9_wordsOf_20 {L d : Nat} {b : Nat} {t : Nat}  (hb : wt_B b) (ht : wt_T t) : ∀ (n : Nat) {s : wt_S} {l2 : Int32} {l3 : Int32} {l4 : Int32} {x1 : Option (mj_v Int32)}, wt_sd (wt_H L) wt_iv (d + 1) kX9_wordsOf (mj_drop 11 kX9_wordsOf) [some (.inr (some (wt_wo b))), x1, some (.inl l2), some (.inl l3), some (.inl l4)] [] s (gX9_wordsOf_20 b t n s l2 l3 l4) := by
  intro n
  induction n with
  | zero =>
    intro s l2 l3 l4 x1
    exact fun R h => wt_tn h
  | succ n ih =>
    intro s l2 l3 l4 x1
    unfold gX9_wordsOf_20
    exact wt_go1 [20] 37 fun R h => wt_tb h (fun h => wt_tr (e := wt_iv) h) (fun h => wt_tb h (fun h => wt_tr (e := wt_iv) h) (fun h => ⟨_, (wt_sWorldB hb), ⟨_, (wt_sPieces (wt_BC hb)), _, _, rfl, jX5_wordsOf, wt_tc h (sX5_wordsOf hb) fun v2 s1 h => ⟨_, (wt_sWorldB hb), ⟨_, (wt_sPieces (wt_BC hb)), _, _, rfl, jX5_belowOf, wt_tc h (sX5_belowOf hb) fun v4 s3 h => ⟨trivial, ih  _ h⟩⟩⟩⟩⟩))
def gX9_wordsOf (b : Nat) (t : Nat) (s : wt_S) : Option (Int32 × wt_S) := (wt_cl (gX5_wordsOf b s (s t 13)) fun v2 s1 => gX9_wordsOf_20 b t wt_N s1 v2 (s1 t 12) 0)
theorem sX9_wordsOf {L d : Nat} {b : Nat} {t : Nat} (hb : wt_B b) (ht : wt_T t) {s : wt_S}  : wt_sd (wt_H L) wt_iv (d + 1) kX9_wordsOf kX9_wordsOf (mj_ent 5 [.inr (some (wt_wo b)), .inr (some t)]) [] s (gX9_wordsOf b t s) := by
  unfold gX9_wordsOf
  exact wt_go [20] 37 fun R h => ⟨_, (wt_sWorldB hb), ⟨_, (wt_sT ht), ⟨_, (wt_sPieces (wt_BC hb)), _, _, rfl, jX5_wordsOf, wt_tc h (sX5_wordsOf hb) fun v2 s1 h => ⟨_, (wt_sT ht), ⟨trivial, sX9_wordsOf_20 hb ht wt_N _ h⟩⟩⟩⟩⟩
def gX10_task (s : wt_S) (i1 i2 : Int32) : Option (Int32 × wt_S) := (wt_cl (gX10_isTask s i1) fun v2 s1 => (if v2 ≠ (0 : Int32) then (wt_ix i1 6 fun k3 => (if i2.toInt < 0 ∨ 18 < i2.toInt then some ((-1), s1) else (if i2.toInt = 0 then some ((s1 (11 + 17 + 2 * k3) 1), s1) else (if i2.toInt = 1 then some ((s1 (11 + 17 + 2 * k3) 2), s1) else (if i2.toInt = 2 then some ((s1 (11 + 17 + 2 * k3) 3), s1) else (if i2.toInt = 3 then some ((s1 ((11 + 17 + 2 * k3) + 1) 2), s1) else (if i2.toInt = 4 then some ((s1 (11 + 17 + 2 * k3) 4), s1) else (if i2.toInt = 5 then some ((s1 (11 + 17 + 2 * k3) 5), s1) else (if i2.toInt = 6 then (wt_cl (gX9_piecesOf 11 (11 + 17 + 2 * k3) s1) fun v5 s4 => some (v5, s4)) else (if i2.toInt = 7 then (wt_cl (gX9_wordsOf 11 (11 + 17 + 2 * k3) s1) fun v7 s6 => some (v7, s6)) else (if i2.toInt = 8 then some ((s1 (11 + 17 + 2 * k3) 7), s1) else (if i2.toInt = 9 then some ((s1 (11 + 17 + 2 * k3) 8), s1) else (if i2.toInt = 10 then some ((s1 (11 + 17 + 2 * k3) 9), s1) else (if i2.toInt = 11 then some ((s1 (11 + 17 + 2 * k3) 10), s1) else (if i2.toInt = 12 then some ((s1 ((11 + 17 + 2 * k3) + 1) 3), s1) else (if i2.toInt = 13 then some ((s1 ((11 + 17 + 2 * k3) + 1) 4), s1) else (if i2.toInt = 14 then some ((s1 ((11 + 17 + 2 * k3) + 1) 5), s1) else (if i2.toInt = 15 then some ((s1 ((11 + 17 + 2 * k3) + 1) 6), s1) else (if i2.toInt = 16 then some ((s1 ((11 + 17 + 2 * k3) + 1) 7), s1) else (if i2.toInt = 17 then some ((s1 ((11 + 17 + 2 * k3) + 1) 8), s1) else (if i2.toInt = 18 then some ((s1 (11 + 17 + 2 * k3) 6), s1) else none))))))))))))))))))))) else some ((-1), s1)))
theorem sX10_task {L d : Nat}   {s : wt_S} {i1 i2 : Int32} : wt_sd (wt_H L) wt_iv (d + 3) kX10_task kX10_task (mj_ent 4 [.inr (some 4), .inl i1, .inl i2]) [] s (gX10_task s i1 i2) := by
  unfold gX10_task
  exact wt_go [] 94 fun R h => ⟨_, _, rfl, jX10_isTask, wt_tc h (sX10_isTask) fun v2 s1 h => wt_tb h (fun h => ⟨_, wt_s4, ⟨_, (wt_sWorldB wt_B11), ⟨_, _, wt_r10 wt_C11, wt_ty h fun k3 hk3 h => ⟨_, if_pos hk3, wt_s0 h (fun h => wt_tr (e := wt_iv) h) (fun h => wt_s1 h (fun e => by omega) (fun h => ⟨_, (wt_sT (wt_Tk wt_C11 hk3)), wt_tr (e := wt_iv) h⟩) (fun h => wt_s1 h (fun e => by omega) (fun h => ⟨_, (wt_sT (wt_Tk wt_C11 hk3)), wt_tr (e := wt_iv) h⟩) (fun h => wt_s1 h (fun e => by omega) (fun h => ⟨_, (wt_sT (wt_Tk wt_C11 hk3)), wt_tr (e := wt_iv) h⟩) (fun h => wt_s1 h (fun e => by omega) (fun h => ⟨_, (wt_sT (wt_Tk wt_C11 hk3)), ⟨_, (wt_t1 (wt_Tk wt_C11 hk3)).1, 2, ⟨rfl, by decide⟩, wt_tr (e := wt_iv) h⟩⟩) (fun h => wt_s1 h (fun e => by omega) (fun h => ⟨_, (wt_sT (wt_Tk wt_C11 hk3)), wt_tr (e := wt_iv) h⟩) (fun h => wt_s1 h (fun e => by omega) (fun h => ⟨_, (wt_sT (wt_Tk wt_C11 hk3)), wt_tr (e := wt_iv) h⟩) (fun h => wt_s1 h (fun e => by omega) (fun h => ⟨_, wt_s4, ⟨_, (wt_sWorldB wt_B11), _, _, rfl, jX9_piecesOf, wt_tc h (sX9_piecesOf wt_B11 (wt_Tk wt_C11 hk3)) fun v5 s4 h => wt_tr (e := wt_iv) h⟩⟩) (fun h => wt_s1 h (fun e => by omega) (fun h => ⟨_, wt_s4, ⟨_, (wt_sWorldB wt_B11), _, _, rfl, jX9_wordsOf, wt_tc h (sX9_wordsOf wt_B11 (wt_Tk wt_C11 hk3)) fun v7 s6 h => wt_tr (e := wt_iv) h⟩⟩) (fun h => wt_s1 h (fun e => by omega) (fun h => ⟨_, (wt_sT (wt_Tk wt_C11 hk3)), wt_tr (e := wt_iv) h⟩) (fun h => wt_s1 h (fun e => by omega) (fun h => ⟨_, (wt_sT (wt_Tk wt_C11 hk3)), wt_tr (e := wt_iv) h⟩) (fun h => wt_s1 h (fun e => by omega) (fun h => ⟨_, (wt_sT (wt_Tk wt_C11 hk3)), wt_tr (e := wt_iv) h⟩) (fun h => wt_s1 h (fun e => by omega) (fun h => ⟨_, (wt_sT (wt_Tk wt_C11 hk3)), wt_tr (e := wt_iv) h⟩) (fun h => wt_s1 h (fun e => by omega) (fun h => ⟨_, (wt_sT (wt_Tk wt_C11 hk3)), ⟨_, (wt_t1 (wt_Tk wt_C11 hk3)).1, 3, ⟨rfl, by decide⟩, wt_tr (e := wt_iv) h⟩⟩) (fun h => wt_s1 h (fun e => by omega) (fun h => ⟨_, (wt_sT (wt_Tk wt_C11 hk3)), ⟨_, (wt_t1 (wt_Tk wt_C11 hk3)).1, 4, ⟨rfl, by decide⟩, wt_tr (e := wt_iv) h⟩⟩) (fun h => wt_s1 h (fun e => by omega) (fun h => ⟨_, (wt_sT (wt_Tk wt_C11 hk3)), ⟨_, (wt_t1 (wt_Tk wt_C11 hk3)).1, 5, ⟨rfl, by decide⟩, wt_tr (e := wt_iv) h⟩⟩) (fun h => wt_s1 h (fun e => by omega) (fun h => ⟨_, (wt_sT (wt_Tk wt_C11 hk3)), ⟨_, (wt_t1 (wt_Tk wt_C11 hk3)).1, 6, ⟨rfl, by decide⟩, wt_tr (e := wt_iv) h⟩⟩) (fun h => wt_s1 h (fun e => by omega) (fun h => ⟨_, (wt_sT (wt_Tk wt_C11 hk3)), ⟨_, (wt_t1 (wt_Tk wt_C11 hk3)).1, 7, ⟨rfl, by decide⟩, wt_tr (e := wt_iv) h⟩⟩) (fun h => wt_s1 h (fun e => by omega) (fun h => ⟨_, (wt_sT (wt_Tk wt_C11 hk3)), ⟨_, (wt_t1 (wt_Tk wt_C11 hk3)).1, 8, ⟨rfl, by decide⟩, wt_tr (e := wt_iv) h⟩⟩) (fun h => wt_s1 h (fun e => by omega) (fun h => ⟨_, (wt_sT (wt_Tk wt_C11 hk3)), wt_tr (e := wt_iv) h⟩) (fun h => trivial))))))))))))))))))))⟩⟩⟩⟩) (fun h => wt_tr (e := wt_iv) h)⟩
def gX10_hasFrame (s : wt_S) (i1 i2 : Int32) : Option (Int32 × wt_S) := (wt_cl (gX10_isTask s i1) fun v2 s1 => (if v2 = (0 : Int32) then some (0, s1) else (if i2.toInt < (0 : Int32).toInt then some (0, s1) else (wt_ix i1 6 fun k3 => (if (s1 (11 + 17 + 2 * k3) 4).toInt ≤ i2.toInt then some (0, s1) else some (1, s1))))))
theorem sX10_hasFrame {L d : Nat}   {s : wt_S} {i1 i2 : Int32} : wt_sd (wt_H L) wt_iv (d + 1) kX10_hasFrame kX10_hasFrame (mj_ent 3 [.inr (some 4), .inl i1, .inl i2]) [] s (gX10_hasFrame s i1 i2) := by
  unfold gX10_hasFrame
  exact wt_go [] 21 fun R h => ⟨_, _, rfl, jX10_isTask, wt_tc h (sX10_isTask) fun v2 s1 h => wt_tb h (fun h => ⟨Or.inl rfl, wt_tr (e := wt_iv) h⟩) (fun h => wt_tb h (fun h => ⟨Or.inl rfl, wt_tr (e := wt_iv) h⟩) (fun h => ⟨_, wt_s4, ⟨_, (wt_sWorldB wt_B11), ⟨_, _, wt_r10 wt_C11, wt_ty h fun k3 hk3 h => ⟨_, if_pos hk3, ⟨_, (wt_sT (wt_Tk wt_C11 hk3)), wt_tb h (fun h => ⟨Or.inl rfl, wt_tr (e := wt_iv) h⟩) (fun h => ⟨Or.inr rfl, wt_tr (e := wt_iv) h⟩)⟩⟩⟩⟩⟩))⟩
def gX8_toFrame_12 (b : Nat) (t : Nat) : Nat → wt_S → Int32 → Int32 → Option (Unit × wt_S)
  | 0, _, _, _ => none
  | n + 1, s, l2, l3 => (if l3.toInt ≤ l2.toInt then some ((), s) else (wt_cl (gX8_toCaller b s) fun _ s1 => gX8_toFrame_12 b t n s1 l2 (l3 + (-1))))
theorem sX8_toFrame_12 {L d : Nat} {b : Nat} {t : Nat}  (hb : wt_B b) (ht : wt_T t) : ∀ (n : Nat) {s : wt_S} {l2 : Int32} {l3 : Int32} {x1 : Option (mj_v Int32)}, wt_sd (wt_H L) wt_uv (d + 2) kX8_toFrame (mj_drop 8 kX8_toFrame) [some (.inr (some (b + 16))), x1, some (.inl l2), some (.inl l3)] [] s (gX8_toFrame_12 b t n s l2 l3) := by
  intro n
  induction n with
  | zero =>
    intro s l2 l3 x1
    exact fun R h => wt_tn h
  | succ n ih =>
    intro s l2 l3 x1
    unfold gX8_toFrame_12
    exact wt_go1 [12] 20 fun R h => wt_tb h (fun h => wt_tr (e := wt_uv) h) (fun h => ⟨_, (wt_sWalk (wt_BC hb)), _, _, rfl, jX8_toCaller, wt_tc h (sX8_toCaller hb) fun _ s1 h => ⟨trivial, ih  _ h⟩⟩)
def gX8_toFrame (b : Nat) (t : Nat) (s : wt_S) (i1 : Int32) : Option (Unit × wt_S) := (wt_cl (gX8_toLast b t s) fun _ s1 => gX8_toFrame_12 b t wt_N s1 i1 ((s1 t 4) - 1))
theorem sX8_toFrame {L d : Nat} {b : Nat} {t : Nat} (hb : wt_B b) (ht : wt_T t) {s : wt_S} {i1 : Int32} : wt_sd (wt_H L) wt_uv (d + 2) kX8_toFrame kX8_toFrame (mj_ent 4 [.inr (some (b + 16)), .inr (some t), .inl i1]) [] s (gX8_toFrame b t s i1) := by
  unfold gX8_toFrame
  exact wt_go [12] 20 fun R h => ⟨_, (wt_sWalk (wt_BC hb)), _, _, rfl, jX8_toLast, wt_tc h (sX8_toLast hb ht) fun _ s1 h => ⟨_, (wt_sT ht), ⟨trivial, sX8_toFrame_12 hb ht wt_N _ h⟩⟩⟩
def gX5_holding (b : Nat) (s : wt_S) (i1 : Int32) : Option (Int32 × wt_S) := (wt_cl (gX5_rankOf b s i1) fun v2 s1 => (wt_cl (gX5_idAt b s1 v2) fun v4 s3 => some (v4, s3)))
theorem sX5_holding {L d : Nat} {b : Nat} (hb : wt_B b) {s : wt_S} {i1 : Int32} : wt_sd (wt_H L) wt_iv (d + 1) kX5_holding kX5_holding (mj_ent 2 [.inr (some (b + 2)), .inl i1]) [] s (gX5_holding b s i1) := by
  unfold gX5_holding
  exact wt_go [] 10 fun R h => ⟨_, (wt_sPieces (wt_BC hb)), _, _, rfl, jX5_rankOf, wt_tc h (sX5_rankOf hb) fun v2 s1 h => ⟨_, (wt_sPieces (wt_BC hb)), _, _, rfl, jX5_idAt, wt_tc h (sX5_idAt hb) fun v4 s3 h => wt_tr (e := wt_iv) h⟩⟩
def gX10_frame (s : wt_S) (i1 i2 i3 : Int32) : Option (Int32 × wt_S) := (wt_cl (gX10_hasFrame s i1 i2) fun v2 s1 => (if v2 ≠ (0 : Int32) then (wt_ix i1 6 fun k3 => (wt_cl (gX8_toFrame 11 (11 + 17 + 2 * k3) s1 i2) fun _ s4 => (wt_cl (gX3_word 11 s4 ((s4 27 1) + 1)) fun v6 s5 => (if i3.toInt < 0 ∨ 7 < i3.toInt then some ((-1), s5) else (if i3.toInt = 0 then some ((s5 27 2), s5) else (if i3.toInt = 1 then some ((s5 27 1), s5) else (if i3.toInt = 2 then (wt_cl (gX5_holding 11 s5 (s5 27 1)) fun v8 s7 => (wt_cl (gX5_indexOf 11 s7 v8) fun v10 s9 => some (v10, s9))) else (if i3.toInt = 3 then (if (v6 &&& 1024) = (0 : Int32) then some (0, s5) else some (1, s5)) else (if i3.toInt = 4 then some ((s5 27 3), s5) else (if i3.toInt = 5 then (if (v6 &&& 2048) = (0 : Int32) then some (0, s5) else some (1, s5)) else (if i3.toInt = 6 then (wt_cl (gX3_word 11 s5 (s5 27 1)) fun v12 s11 => some (v12, s11)) else (if i3.toInt = 7 then some (v6, s5) else none)))))))))))) else some ((-1), s1)))
theorem sX10_frame {L d : Nat}   {s : wt_S} {i1 i2 i3 : Int32} : wt_sd (wt_H L) wt_iv (d + 3) kX10_frame kX10_frame (mj_ent 6 [.inr (some 4), .inl i1, .inl i2, .inl i3]) [] s (gX10_frame s i1 i2 i3) := by
  unfold gX10_frame
  exact wt_go [] 81 fun R h => ⟨_, wt_s4, _, _, rfl, jX10_hasFrame, wt_tc h (sX10_hasFrame) fun v2 s1 h => wt_tb h (fun h => ⟨_, wt_s4, ⟨_, (wt_sWorldB wt_B11), ⟨_, wt_s4, ⟨_, (wt_sWorldB wt_B11), ⟨_, _, wt_r10 wt_C11, wt_ty h fun k3 hk3 h => ⟨_, if_pos hk3, ⟨_, (wt_sWalk wt_C11), _, _, rfl, jX8_toFrame, wt_tc h (sX8_toFrame wt_B11 (wt_Tk wt_C11 hk3)) fun _ s4 h => ⟨_, wt_s4, ⟨_, (wt_sWorldB wt_B11), ⟨_, (wt_sWalk wt_C11), ⟨_, (wt_sMemory wt_C11), _, _, rfl, jX3_word, wt_tc h (sX3_word wt_B11) fun v6 s5 h => wt_s0 h (fun h => wt_tr (e := wt_iv) h) (fun h => wt_s1 h (fun e => by omega) (fun h => ⟨_, (wt_sWalk wt_C11), wt_tr (e := wt_iv) h⟩) (fun h => wt_s1 h (fun e => by omega) (fun h => ⟨_, (wt_sWalk wt_C11), wt_tr (e := wt_iv) h⟩) (fun h => wt_s1 h (fun e => by omega) (fun h => ⟨_, wt_s4, ⟨_, (wt_sWorldB wt_B11), ⟨_, wt_s4, ⟨_, (wt_sWorldB wt_B11), ⟨_, (wt_sWalk wt_C11), ⟨_, (wt_sPieces wt_C11), _, _, rfl, jX5_holding, wt_tc h (sX5_holding wt_B11) fun v8 s7 h => ⟨_, (wt_sPieces wt_C11), _, _, rfl, jX5_indexOf, wt_tc h (sX5_indexOf wt_B11) fun v10 s9 h => wt_tr (e := wt_iv) h⟩⟩⟩⟩⟩⟩⟩) (fun h => wt_s1 h (fun e => by omega) (fun h => wt_tb h (fun h => wt_tr (e := wt_iv) h) (fun h => wt_tr (e := wt_iv) h)) (fun h => wt_s1 h (fun e => by omega) (fun h => ⟨_, (wt_sWalk wt_C11), wt_tr (e := wt_iv) h⟩) (fun h => wt_s1 h (fun e => by omega) (fun h => wt_tb h (fun h => wt_tr (e := wt_iv) h) (fun h => wt_tr (e := wt_iv) h)) (fun h => wt_s1 h (fun e => by omega) (fun h => ⟨_, wt_s4, ⟨_, (wt_sWorldB wt_B11), ⟨_, (wt_sWalk wt_C11), ⟨_, (wt_sMemory wt_C11), _, _, rfl, jX3_word, wt_tc h (sX3_word wt_B11) fun v12 s11 h => wt_tr (e := wt_iv) h⟩⟩⟩⟩) (fun h => wt_s1 h (fun e => by omega) (fun h => wt_tr (e := wt_iv) h) (fun h => trivial)))))))))⟩⟩⟩⟩⟩⟩⟩⟩⟩⟩⟩) (fun h => wt_tr (e := wt_iv) h)⟩
def gX8_toPlace_46 (b : Nat) (t : Nat) (K13 : wt_S → Int32 → Int32 → Option (Int32 × wt_S)) (s : wt_S) (l2 : Int32) (l4 : Int32) : Option (Int32 × wt_S) := (if l4.toInt ≤ (0 : Int32).toInt then K13 s l2 (l4 + (-1)) else (wt_cl (gX8_toCaller b s) fun _ s1 => K13 s1 l2 (l4 + (-1))))
theorem sX8_toPlace_46 {L d : Nat} {b : Nat} {t : Nat} {K13 : wt_S → Int32 → Int32 → Option (Int32 × wt_S)} (hb : wt_B b) (ht : wt_T t) (hK13 : ∀ {s : wt_S} {l2 : Int32} {l4 : Int32} {x1 : Option (mj_v Int32)}, wt_sd (wt_H L) wt_iv (d + 2) kX8_toPlace (mj_drop 8 kX8_toPlace) [some (.inr (some (b + 16))), x1, some (.inl l2), some (.inr (some 5)), some (.inl l4)] [] s (K13 s l2 l4)) {s : wt_S} {l2 : Int32} {l4 : Int32} {x1 : Option (mj_v Int32)} : wt_sd (wt_H L) wt_iv (d + 2) kX8_toPlace (mj_drop 25 kX8_toPlace) [some (.inr (some (b + 16))), x1, some (.inl l2), some (.inr (some 5)), some (.inl l4)] [] s (gX8_toPlace_46 b t K13 s l2 l4) := by
  unfold gX8_toPlace_46
  exact wt_go1 [13, 46] 37 fun R h => wt_tb h (fun h => ⟨trivial, hK13  _ h⟩) (fun h => ⟨_, (wt_sWalk (wt_BC hb)), _, _, rfl, jX8_toCaller, wt_tc h (sX8_toCaller hb) fun _ s1 h => ⟨trivial, hK13  _ h⟩⟩)
def gX8_toPlace_13 (b : Nat) (t : Nat) : Nat → wt_S → Int32 → Int32 → Option (Int32 × wt_S)
  | 0, _, _, _ => none
  | n + 1, s, l2, l4 => (if l4.toInt < (0 : Int32).toInt then some ((-1), s) else (if l2.toInt < (s (b + 16) 1).toInt then gX8_toPlace_46 b t (gX8_toPlace_13 b t n) s l2 l4 else (wt_cl (gX6_frameWords 5 s (s (b + 16) 2)) fun v2 s1 => (if ((s (b + 16) 1) + v2).toInt ≤ l2.toInt then gX8_toPlace_46 b t (gX8_toPlace_13 b t n) s1 l2 l4 else some (l4, s1)))))
theorem sX8_toPlace_13 {L d : Nat} {b : Nat} {t : Nat}  (hb : wt_B b) (ht : wt_T t) : ∀ (n : Nat) {s : wt_S} {l2 : Int32} {l4 : Int32} {x1 : Option (mj_v Int32)}, wt_sd (wt_H L) wt_iv (d + 2) kX8_toPlace (mj_drop 8 kX8_toPlace) [some (.inr (some (b + 16))), x1, some (.inl l2), some (.inr (some 5)), some (.inl l4)] [] s (gX8_toPlace_13 b t n s l2 l4) := by
  intro n
  induction n with
  | zero =>
    intro s l2 l4 x1
    exact fun R h => wt_tn h
  | succ n ih =>
    intro s l2 l4 x1
    unfold gX8_toPlace_13
    exact wt_go1 [13, 46] 37 fun R h => wt_tb h (fun h => wt_tr (e := wt_iv) h) (fun h => ⟨_, (wt_sWalk (wt_BC hb)), wt_tb h (fun h => ⟨trivial, sX8_toPlace_46 hb ht ih _ h⟩) (fun h => ⟨_, (wt_sWalk (wt_BC hb)), ⟨_, (wt_sWalk (wt_BC hb)), ⟨_, (wt_sQ wt_Q5), _, _, rfl, jX6_frameWords, wt_tc h (sX6_frameWords wt_Q5) fun v2 s1 h => wt_tb h (fun h => ⟨trivial, sX8_toPlace_46 hb ht ih _ h⟩) (fun h => wt_tr (e := wt_iv) h)⟩⟩⟩)⟩)
def gX8_toPlace (b : Nat) (t : Nat) (s : wt_S) (i1 : Int32) : Option (Int32 × wt_S) := (wt_cl (gX8_toLast b t s) fun _ s1 => gX8_toPlace_13 b t wt_N s1 i1 ((s1 t 4) - 1))
theorem sX8_toPlace {L d : Nat} {b : Nat} {t : Nat} (hb : wt_B b) (ht : wt_T t) {s : wt_S} {i1 : Int32} : wt_sd (wt_H L) wt_iv (d + 2) kX8_toPlace kX8_toPlace (mj_ent 5 [.inr (some (b + 16)), .inr (some t), .inl i1, .inr (some 5)]) [] s (gX8_toPlace b t s i1) := by
  unfold gX8_toPlace
  exact wt_go [13, 46] 37 fun R h => ⟨_, (wt_sWalk (wt_BC hb)), _, _, rfl, jX8_toLast, wt_tc h (sX8_toLast hb ht) fun _ s1 h => ⟨_, (wt_sT ht), ⟨trivial, sX8_toPlace_13 hb ht wt_N _ h⟩⟩⟩
