def gX1_read (b : Nat) (s : wt_S) (i1 i2 : Int32) : Option (Int32 × wt_S) := (if i1.toInt < (0 : Int32).toInt then some ((-1), s) else (if (s (b + 11) 1).toInt ≤ i1.toInt then some ((-1), s) else (if (40 : Int32).toInt ≤ i1.toInt then some ((-1), s) else (if i2.toInt < (0 : Int32).toInt then some ((-1), s) else (if i2.toInt ≤ (3 : Int32).toInt then (wt_ix ((((((s (b + 11) 1) - 1) - i1) - (((s (b + 11) 1) - 1) - i1) / 40 * 40) * 4) + i2) 160 fun k1 => some ((s (b + 12) k1), s)) else some ((-1), s))))))
theorem sX1_read {L d : Nat} {b : Nat} (hb : wt_B b) {s : wt_S} {i1 i2 : Int32} : wt_sd (wt_H L) wt_iv d kX1_read kX1_read (mj_ent 3 [.inr (some (b + 11)), .inl i1, .inl i2]) [] s (gX1_read b s i1 i2) := by
  unfold gX1_read
  exact wt_go [] 36 fun R h => wt_tb h (fun h => wt_tr (e := wt_iv) h) (fun h => ⟨_, (wt_sLog (wt_BC hb)), wt_tb h (fun h => wt_tr (e := wt_iv) h) (fun h => wt_tb h (fun h => wt_tr (e := wt_iv) h) (fun h => wt_tb h (fun h => wt_tr (e := wt_iv) h) (fun h => wt_tb h (fun h => ⟨_, (wt_sLog (wt_BC hb)), ⟨_, (wt_sLog (wt_BC hb)), ⟨(by decide : (40 : Int32) ≠ 0), ⟨_, (wt_r12 (wt_BC hb)).1, wt_tx h fun k1 h => wt_tr (e := wt_iv) h⟩⟩⟩⟩) (fun h => wt_tr (e := wt_iv) h))))⟩)
def gX10_log (s : wt_S) (i1 i2 : Int32) : Option (Int32 × wt_S) := (wt_cl (gX1_read 11 s i1 i2) fun v2 s1 => some (v2, s1))
theorem sX10_log {L d : Nat}   {s : wt_S} {i1 i2 : Int32} : wt_sd (wt_H L) wt_iv (d + 1) kX10_log kX10_log (mj_ent 3 [.inr (some 4), .inl i1, .inl i2]) [] s (gX10_log s i1 i2) := by
  unfold gX10_log
  exact wt_go [] 11 fun R h => ⟨_, wt_s4, ⟨_, (wt_sWorldB wt_B11), ⟨_, (wt_sLog wt_C11), _, _, rfl, jX1_read, wt_tc h (sX1_read wt_B11) fun v2 s1 h => wt_tr (e := wt_iv) h⟩⟩⟩
def gX0_goToLast (t : Nat) (s : wt_S) : Option (Unit × wt_S) := (wt_wr s 71 2 (s t 12) fun s1 => (wt_wr s1 71 3 (s1 t 11) fun s2 => (wt_wr s2 71 4 (s2 t 9) fun s3 => some ((), s3))))
theorem sX0_goToLast {L d : Nat} {t : Nat} (ht : wt_T t) {s : wt_S}  : wt_sd (wt_H L) wt_uv d kX0_goToLast kX0_goToLast (mj_ent 2 [.inr (some 71), .inr (some t)]) [] s (gX0_goToLast t s) := by
  unfold gX0_goToLast
  exact wt_go [] 17 fun R h => ⟨_, (wt_sT ht), ⟨_, wt_sG, have h := wt_tw h; ⟨_, (wt_sT ht), ⟨_, wt_sG, have h := wt_tw h; ⟨_, (wt_sT ht), ⟨_, wt_sG, have h := wt_tw h; wt_tr (e := wt_uv) h⟩⟩⟩⟩⟩⟩
def gX0_mark (s : wt_S) (i1 : Int32) : Option (Unit × wt_S) := (if i1.toInt < (0 : Int32).toInt then some ((), s) else (if (2048 : Int32).toInt ≤ i1.toInt then some ((), s) else (wt_ix i1 2048 fun k1 => (wt_ix i1 2048 fun k3 => wt_wr s 72 k3 ((s 72 k1) + 1) fun s2 => some ((), s2)))))
theorem sX0_mark {L d : Nat}   {s : wt_S} {i1 : Int32} : wt_sd (wt_H L) wt_uv d kX0_mark kX0_mark (mj_ent 2 [.inr (some 71), .inl i1]) [] s (gX0_mark s i1) := by
  unfold gX0_mark
  exact wt_go [] 18 fun R h => wt_tb h (fun h => wt_tr (e := wt_uv) h) (fun h => wt_tb h (fun h => wt_tr (e := wt_uv) h) (fun h => ⟨_, wt_sG, ⟨_, wt_r72.1, wt_tx h fun k1 h => ⟨_, wt_r72, wt_tx h fun k3 h => have h := wt_tw h; wt_tr (e := wt_uv) h⟩⟩⟩))
def gX0_goToCaller_61 (s : wt_S) (l2 : Int32) : Option (Unit × wt_S) := (wt_cl (gX3_word 11 s ((s 71 3) + 1)) fun v2 s1 => (wt_wr s1 71 4 ((v2 &&& 1023) >>> (5 &&& 31)) fun s3 => (wt_cl (gX6_frameWords 5 s3 (s3 71 4)) fun v5 s4 => (wt_wr s4 71 3 (l2 - v5) fun s6 => some ((), s6)))))
theorem sX0_goToCaller_61 {L d : Nat}    {s : wt_S} {l2 : Int32} {x1 : Option (mj_v Int32)} : wt_sd (wt_H L) wt_uv (d + 2) kX0_goToCaller (mj_drop 31 kX0_goToCaller) [some (.inr (some 71)), x1, some (.inl l2)] [] s (gX0_goToCaller_61 s l2) := by
  unfold gX0_goToCaller_61
  exact wt_go1 [61] 60 fun R h => ⟨_, wt_sG, ⟨_, (wt_sWorldB wt_B11), ⟨_, wt_sG, ⟨_, (wt_sMemory wt_C11), _, _, rfl, jX3_word, wt_tc h (sX3_word wt_B11) fun v2 s1 h => ⟨_, wt_sG, have h := wt_tw h; ⟨_, wt_sG, ⟨_, (wt_sWorldB wt_B11), ⟨_, wt_sG, ⟨_, (wt_sQ wt_Q5), _, _, rfl, jX6_frameWords, wt_tc h (sX6_frameWords wt_Q5) fun v5 s4 h => ⟨_, wt_sG, have h := wt_tw h; wt_tr (e := wt_uv) h⟩⟩⟩⟩⟩⟩⟩⟩⟩⟩
def gX0_goToCaller (s : wt_S) : Option (Unit × wt_S) := (wt_cl (gX5_placeOf 11 s (s 71 2)) fun v2 s1 => (if (s 71 3) ≠ v2 then gX0_goToCaller_61 s1 (s 71 3) else (wt_cl (gX5_belowOf 11 s1 (s1 71 2)) fun v4 s3 => (if v4 = ((-1) : Int32) then gX0_goToCaller_61 s3 (s 71 3) else (wt_cl (gX5_belowOf 11 s3 (s3 71 2)) fun v6 s5 => (wt_wr s5 71 2 v6 fun s7 => (wt_cl (gX5_topOf 11 s7 (s7 71 2)) fun v9 s8 => gX0_goToCaller_61 s8 v9)))))))
theorem sX0_goToCaller {L d : Nat}   {s : wt_S}  : wt_sd (wt_H L) wt_uv (d + 2) kX0_goToCaller kX0_goToCaller (mj_ent 3 [.inr (some 71)]) [] s (gX0_goToCaller s) := by
  unfold gX0_goToCaller
  exact wt_go [61] 60 fun R h => ⟨_, wt_sG, ⟨_, (wt_sWorldB wt_B11), ⟨_, wt_sG, ⟨_, wt_sG, ⟨_, wt_sG, ⟨_, (wt_sPieces wt_C11), _, _, rfl, jX5_placeOf, wt_tc h (sX5_placeOf wt_B11) fun v2 s1 h => wt_tb h (fun h => ⟨trivial, sX0_goToCaller_61 _ h⟩) (fun h => ⟨_, wt_sG, ⟨_, (wt_sPieces wt_C11), _, _, rfl, jX5_belowOf, wt_tc h (sX5_belowOf wt_B11) fun v4 s3 h => wt_tb h (fun h => ⟨trivial, sX0_goToCaller_61 _ h⟩) (fun h => ⟨_, wt_sG, ⟨_, (wt_sPieces wt_C11), _, _, rfl, jX5_belowOf, wt_tc h (sX5_belowOf wt_B11) fun v6 s5 h => ⟨_, wt_sG, have h := wt_tw h; ⟨_, wt_sG, ⟨_, (wt_sPieces wt_C11), _, _, rfl, jX5_topOf, wt_tc h (sX5_topOf wt_B11) fun v9 s8 h => ⟨trivial, sX0_goToCaller_61 _ h⟩⟩⟩⟩⟩⟩)⟩⟩)⟩⟩⟩⟩⟩⟩
def gX0_markNumbers_16 (t : Nat) (K10 : wt_S → Int32 → Option (Unit × wt_S)) : Nat → wt_S → Int32 → Int32 → Option (Unit × wt_S)
  | 0, _, _, _ => none
  | n + 1, s, l2, l3 => (wt_cl (gX6_sizeOf 5 s (s 71 4)) fun v2 s1 => (if v2.toInt ≤ l3.toInt then (if l2.toInt ≤ (1 : Int32).toInt then K10 s1 (l2 + (-1)) else (wt_cl (gX0_goToCaller s1) fun _ s3 => K10 s3 (l2 + (-1)))) else (wt_cl (gX6_isPointer 5 s1 (s1 71 4) l3) fun v5 s4 => (if v5 ≠ (0 : Int32) then gX0_markNumbers_16 t K10 n s4 l2 (l3 + 1) else (wt_cl (gX0_mark s4 (((s4 71 3) + 2) + l3)) fun _ s6 => gX0_markNumbers_16 t K10 n s6 l2 (l3 + 1))))))
theorem sX0_markNumbers_16 {L d : Nat} {t : Nat} {K10 : wt_S → Int32 → Option (Unit × wt_S)} (ht : wt_T t) (hK10 : ∀ {s : wt_S} {l2 : Int32} {x1 x3 : Option (mj_v Int32)}, wt_sd (wt_H L) wt_uv (d + 3) kX0_markNumbers (mj_drop 6 kX0_markNumbers) [some (.inr (some 71)), x1, some (.inl l2), x3] [] s (K10 s l2)) : ∀ (n : Nat) {s : wt_S} {l2 : Int32} {l3 : Int32} {x1 : Option (mj_v Int32)}, wt_sd (wt_H L) wt_uv (d + 3) kX0_markNumbers (mj_drop 10 kX0_markNumbers) [some (.inr (some 71)), x1, some (.inl l2), some (.inl l3)] [] s (gX0_markNumbers_16 t K10 n s l2 l3) := by
  intro n
  induction n with
  | zero =>
    intro s l2 l3 x1
    exact fun R h => wt_tn h
  | succ n ih =>
    intro s l2 l3 x1
    unfold gX0_markNumbers_16
    exact wt_go1 [10, 16] 48 fun R h => ⟨_, wt_sG, ⟨_, (wt_sWorldB wt_B11), ⟨_, wt_sG, ⟨_, (wt_sQ wt_Q5), _, _, rfl, jX6_sizeOf, wt_tc h (sX6_sizeOf wt_Q5) fun v2 s1 h => wt_tb h (fun h => wt_tb h (fun h => ⟨trivial, hK10  _ h⟩) (fun h => ⟨_, wt_sG, _, _, rfl, jX0_goToCaller, wt_tc h (sX0_goToCaller) fun _ s3 h => ⟨trivial, hK10  _ h⟩⟩)) (fun h => ⟨_, wt_sG, ⟨_, (wt_sWorldB wt_B11), ⟨_, wt_sG, ⟨_, (wt_sQ wt_Q5), _, _, rfl, jX6_isPointer, wt_tc h (sX6_isPointer wt_Q5) fun v5 s4 h => wt_tb h (fun h => ⟨trivial, ih  _ h⟩) (fun h => ⟨_, wt_sG, ⟨_, wt_sG, _, _, rfl, jX0_mark, wt_tc h (sX0_mark) fun _ s6 h => ⟨trivial, ih  _ h⟩⟩⟩)⟩⟩⟩⟩)⟩⟩⟩⟩
def gX0_markNumbers_10 (t : Nat) : Nat → wt_S → Int32 → Option (Unit × wt_S)
  | 0, _, _ => none
  | n + 1, s, l2 => (if l2.toInt ≤ (0 : Int32).toInt then some ((), s) else gX0_markNumbers_16 t (gX0_markNumbers_10 t n) wt_N s l2 0)
theorem sX0_markNumbers_10 {L d : Nat} {t : Nat}  (ht : wt_T t) : ∀ (n : Nat) {s : wt_S} {l2 : Int32} {x1 x3 : Option (mj_v Int32)}, wt_sd (wt_H L) wt_uv (d + 3) kX0_markNumbers (mj_drop 6 kX0_markNumbers) [some (.inr (some 71)), x1, some (.inl l2), x3] [] s (gX0_markNumbers_10 t n s l2) := by
  intro n
  induction n with
  | zero =>
    intro s l2 x1 x3
    exact fun R h => wt_tn h
  | succ n ih =>
    intro s l2 x1 x3
    unfold gX0_markNumbers_10
    exact wt_go1 [10, 16] 48 fun R h => wt_tb h (fun h => wt_tr (e := wt_uv) h) (fun h => ⟨trivial, sX0_markNumbers_16 ht ih wt_N _ h⟩)
def gX0_markNumbers (t : Nat) (s : wt_S) : Option (Unit × wt_S) := (wt_cl (gX0_goToLast t s) fun _ s1 => gX0_markNumbers_10 t wt_N s1 (s1 t 4))
theorem sX0_markNumbers {L d : Nat} {t : Nat} (ht : wt_T t) {s : wt_S}  : wt_sd (wt_H L) wt_uv (d + 3) kX0_markNumbers kX0_markNumbers (mj_ent 4 [.inr (some 71), .inr (some t)]) [] s (gX0_markNumbers t s) := by
  unfold gX0_markNumbers
  exact wt_go [10, 16] 48 fun R h => ⟨_, wt_sG, _, _, rfl, jX0_goToLast, wt_tc h (sX0_goToLast ht) fun _ s1 h => ⟨_, (wt_sT ht), ⟨trivial, sX0_markNumbers_10 ht wt_N _ h⟩⟩⟩
def gX0_marksAt (s : wt_S) (i1 : Int32) : Option (Int32 × wt_S) := (if i1.toInt < (0 : Int32).toInt then some (0, s) else (if (2048 : Int32).toInt ≤ i1.toInt then some (0, s) else (wt_ix i1 2048 fun k1 => some ((s 72 k1), s))))
theorem sX0_marksAt {L d : Nat}   {s : wt_S} {i1 : Int32} : wt_sd (wt_H L) wt_iv d kX0_marksAt kX0_marksAt (mj_ent 2 [.inr (some 71), .inl i1]) [] s (gX0_marksAt s i1) := by
  unfold gX0_marksAt
  exact wt_go [] 16 fun R h => wt_tb h (fun h => wt_tr (e := wt_iv) h) (fun h => wt_tb h (fun h => wt_tr (e := wt_iv) h) (fun h => ⟨_, wt_sG, ⟨_, wt_r72.1, wt_tx h fun k1 h => wt_tr (e := wt_iv) h⟩⟩))
def gX0_wrongPointers_79 (K4 : wt_S → Int32 → Int32 → Option (Int32 × wt_S)) (s : wt_S) (l2 : Int32) (z0 : Int32) (z1 : Int32) : Option (Int32 × wt_S) := K4 s (z0 + z1) (l2 + 1)
theorem sX0_wrongPointers_79 {L d : Nat}  {K4 : wt_S → Int32 → Int32 → Option (Int32 × wt_S)}  (hK4 : ∀ {s : wt_S} {l1 : Int32} {l2 : Int32} {x3 : Option (mj_v Int32)}, wt_sd (wt_H L) wt_iv (d + 1) kX0_wrongPointers (mj_drop 4 kX0_wrongPointers) [some (.inr (some 71)), some (.inl l1), some (.inl l2), x3] [] s (K4 s l1 l2)) {s : wt_S} {l2 : Int32} {z0 : Int32} {z1 : Int32} {x1 x3 : Option (mj_v Int32)} : wt_sd (wt_H L) wt_iv (d + 1) kX0_wrongPointers (mj_drop 43 kX0_wrongPointers) [some (.inr (some 71)), x1, some (.inl l2), x3] [.inl z1, .inl z0] s (gX0_wrongPointers_79 K4 s l2 z0 z1) := by
  unfold gX0_wrongPointers_79
  exact wt_go1 [4, 79] 53 fun R h => ⟨trivial, hK4  _ h⟩
def gX0_wrongPointers_4 : Nat → wt_S → Int32 → Int32 → Option (Int32 × wt_S)
  | 0, _, _, _ => none
  | n + 1, s, l1, l2 => (wt_cl (gX6_sizeOf 5 s (s 71 4)) fun v2 s1 => (if v2.toInt ≤ l2.toInt then some (l1, s1) else (wt_cl (gX3_word 11 s1 (((s1 71 3) + 2) + l2)) fun v4 s3 => (wt_cl (gX6_isPointer 5 s3 (s3 71 4) l2) fun v6 s5 => (if v6 = (0 : Int32) then gX0_wrongPointers_4 n s5 l1 (l2 + 1) else (if v4 = ((-1) : Int32) then gX0_wrongPointers_4 n s5 l1 (l2 + 1) else (wt_cl (gX0_marksAt s5 v4) fun v8 s7 => (if v8 ≠ (1 : Int32) then gX0_wrongPointers_79 (gX0_wrongPointers_4 n) s7 l2 l1 1 else gX0_wrongPointers_79 (gX0_wrongPointers_4 n) s7 l2 l1 0))))))))
theorem sX0_wrongPointers_4 {L d : Nat}    : ∀ (n : Nat) {s : wt_S} {l1 : Int32} {l2 : Int32} {x3 : Option (mj_v Int32)}, wt_sd (wt_H L) wt_iv (d + 1) kX0_wrongPointers (mj_drop 4 kX0_wrongPointers) [some (.inr (some 71)), some (.inl l1), some (.inl l2), x3] [] s (gX0_wrongPointers_4 n s l1 l2) := by
  intro n
  induction n with
  | zero =>
    intro s l1 l2 x3
    exact fun R h => wt_tn h
  | succ n ih =>
    intro s l1 l2 x3
    unfold gX0_wrongPointers_4
    exact wt_go1 [4, 79] 53 fun R h => ⟨_, wt_sG, ⟨_, (wt_sWorldB wt_B11), ⟨_, wt_sG, ⟨_, (wt_sQ wt_Q5), _, _, rfl, jX6_sizeOf, wt_tc h (sX6_sizeOf wt_Q5) fun v2 s1 h => wt_tb h (fun h => wt_tr (e := wt_iv) h) (fun h => ⟨_, wt_sG, ⟨_, (wt_sWorldB wt_B11), ⟨_, wt_sG, ⟨_, (wt_sMemory wt_C11), _, _, rfl, jX3_word, wt_tc h (sX3_word wt_B11) fun v4 s3 h => ⟨_, wt_sG, ⟨_, (wt_sWorldB wt_B11), ⟨_, wt_sG, ⟨_, (wt_sQ wt_Q5), _, _, rfl, jX6_isPointer, wt_tc h (sX6_isPointer wt_Q5) fun v6 s5 h => wt_tb h (fun h => ⟨trivial, ih  _ h⟩) (fun h => wt_tb h (fun h => ⟨trivial, ih  _ h⟩) (fun h => ⟨_, wt_sG, _, _, rfl, jX0_marksAt, wt_tc h (sX0_marksAt) fun v8 s7 h => wt_tb h (fun h => ⟨trivial, sX0_wrongPointers_79 ih _ h⟩) (fun h => ⟨trivial, sX0_wrongPointers_79 ih _ h⟩)⟩))⟩⟩⟩⟩⟩⟩⟩⟩)⟩⟩⟩⟩
def gX0_wrongPointers (s : wt_S) : Option (Int32 × wt_S) := gX0_wrongPointers_4 wt_N s 0 0
theorem sX0_wrongPointers {L d : Nat}   {s : wt_S}  : wt_sd (wt_H L) wt_iv (d + 1) kX0_wrongPointers kX0_wrongPointers (mj_ent 4 [.inr (some 71)]) [] s (gX0_wrongPointers s) := by
  unfold gX0_wrongPointers
  exact wt_go [4, 79] 53 fun R h => ⟨trivial, sX0_wrongPointers_4 wt_N _ h⟩
def gX0_wrongPlaces_118 (K55 : wt_S → Int32 → Int32 → Int32 → Int32 → Option (Int32 × wt_S)) (s : wt_S) (l3 : Int32) (l4 : Int32) (l6 : Int32) (z0 : Int32) (z1 : Int32) : Option (Int32 × wt_S) := K55 s (z0 + z1) l3 l4 (l6 + (-1))
theorem sX0_wrongPlaces_118 {L d : Nat}  {K55 : wt_S → Int32 → Int32 → Int32 → Int32 → Option (Int32 × wt_S)}  (hK55 : ∀ {s : wt_S} {l1 : Int32} {l3 : Int32} {l4 : Int32} {l6 : Int32} {x5 x7 : Option (mj_v Int32)}, wt_sd (wt_H L) wt_iv (d + 4) kX0_wrongPlaces (mj_drop 31 kX0_wrongPlaces) [some (.inr (some 71)), some (.inl l1), some (.inr (some 21)), some (.inl l3), some (.inl l4), x5, some (.inl l6), x7] [] s (K55 s l1 l3 l4 l6)) {s : wt_S} {l3 : Int32} {l4 : Int32} {l6 : Int32} {z0 : Int32} {z1 : Int32} {x1 x5 x7 : Option (mj_v Int32)} : wt_sd (wt_H L) wt_iv (d + 4) kX0_wrongPlaces (mj_drop 63 kX0_wrongPlaces) [some (.inr (some 71)), x1, some (.inr (some 21)), some (.inl l3), some (.inl l4), x5, some (.inl l6), x7] [.inl z1, .inl z0] s (gX0_wrongPlaces_118 K55 s l3 l4 l6 z0 z1) := by
  unfold gX0_wrongPlaces_118
  exact wt_go1 [16, 55, 93, 110, 118] 75 fun R h => ⟨trivial, hK55  _ h⟩
def gX0_wrongPlaces_110 (K55 : wt_S → Int32 → Int32 → Int32 → Int32 → Option (Int32 × wt_S)) (s : wt_S) (l3 : Int32) (l4 : Int32) (l6 : Int32) (z0 : Int32) (z1 : Int32) (z2 : Int32) : Option (Int32 × wt_S) := (if z1 ≠ z2 then gX0_wrongPlaces_118 K55 s l3 l4 l6 z0 1 else gX0_wrongPlaces_118 K55 s l3 l4 l6 z0 0)
theorem sX0_wrongPlaces_110 {L d : Nat}  {K55 : wt_S → Int32 → Int32 → Int32 → Int32 → Option (Int32 × wt_S)}  (hK55 : ∀ {s : wt_S} {l1 : Int32} {l3 : Int32} {l4 : Int32} {l6 : Int32} {x5 x7 : Option (mj_v Int32)}, wt_sd (wt_H L) wt_iv (d + 4) kX0_wrongPlaces (mj_drop 31 kX0_wrongPlaces) [some (.inr (some 71)), some (.inl l1), some (.inr (some 21)), some (.inl l3), some (.inl l4), x5, some (.inl l6), x7] [] s (K55 s l1 l3 l4 l6)) {s : wt_S} {l3 : Int32} {l4 : Int32} {l6 : Int32} {z0 : Int32} {z1 : Int32} {z2 : Int32} {x1 x5 x7 : Option (mj_v Int32)} : wt_sd (wt_H L) wt_iv (d + 4) kX0_wrongPlaces (mj_drop 59 kX0_wrongPlaces) [some (.inr (some 71)), x1, some (.inr (some 21)), some (.inl l3), some (.inl l4), x5, some (.inl l6), x7] [.inl z2, .inl z1, .inl z0] s (gX0_wrongPlaces_110 K55 s l3 l4 l6 z0 z1 z2) := by
  unfold gX0_wrongPlaces_110
  exact wt_go1 [16, 55, 93, 110, 118] 75 fun R h => wt_tb h (fun h => ⟨trivial, sX0_wrongPlaces_118 hK55 _ h⟩) (fun h => ⟨trivial, sX0_wrongPlaces_118 hK55 _ h⟩)
def gX0_wrongPlaces_93 (K55 : wt_S → Int32 → Int32 → Int32 → Int32 → Option (Int32 × wt_S)) (s : wt_S) (l1 : Int32) (l3 : Int32) (l4 : Int32) (l6 : Int32) (l7 : Int32) : Option (Int32 × wt_S) := (if l6.toInt ≤ (1 : Int32).toInt then gX0_wrongPlaces_110 K55 s l3 l4 l6 l1 l7 (-1) else gX0_wrongPlaces_110 K55 s l3 l4 l6 l1 l7 (s 71 3))
theorem sX0_wrongPlaces_93 {L d : Nat}  {K55 : wt_S → Int32 → Int32 → Int32 → Int32 → Option (Int32 × wt_S)}  (hK55 : ∀ {s : wt_S} {l1 : Int32} {l3 : Int32} {l4 : Int32} {l6 : Int32} {x5 x7 : Option (mj_v Int32)}, wt_sd (wt_H L) wt_iv (d + 4) kX0_wrongPlaces (mj_drop 31 kX0_wrongPlaces) [some (.inr (some 71)), some (.inl l1), some (.inr (some 21)), some (.inl l3), some (.inl l4), x5, some (.inl l6), x7] [] s (K55 s l1 l3 l4 l6)) {s : wt_S} {l1 : Int32} {l3 : Int32} {l4 : Int32} {l6 : Int32} {l7 : Int32} {x5 : Option (mj_v Int32)} : wt_sd (wt_H L) wt_iv (d + 4) kX0_wrongPlaces (mj_drop 50 kX0_wrongPlaces) [some (.inr (some 71)), some (.inl l1), some (.inr (some 21)), some (.inl l3), some (.inl l4), x5, some (.inl l6), some (.inl l7)] [] s (gX0_wrongPlaces_93 K55 s l1 l3 l4 l6 l7) := by
  unfold gX0_wrongPlaces_93
  exact wt_go1 [16, 55, 93, 110, 118] 75 fun R h => wt_tb h (fun h => ⟨trivial, sX0_wrongPlaces_110 hK55 _ h⟩) (fun h => ⟨_, wt_sG, ⟨trivial, sX0_wrongPlaces_110 hK55 _ h⟩⟩)
def gX0_wrongPlaces_55 (K16 : wt_S → Int32 → Int32 → Int32 → Option (Int32 × wt_S)) : Nat → wt_S → Int32 → Int32 → Int32 → Int32 → Option (Int32 × wt_S)
  | 0, _, _, _, _, _ => none
  | n + 1, s, l1, l3, l4, l6 => (if l6.toInt ≤ (0 : Int32).toInt then K16 s l1 l3 (l4 + 1) else (wt_cl (gX0_wrongPointers s) fun v2 s1 => (wt_cl (gX3_word 11 s1 (s1 71 3)) fun v4 s3 => (if l6.toInt ≤ (1 : Int32).toInt then gX0_wrongPlaces_93 (gX0_wrongPlaces_55 K16 n) s3 (l1 + v2) l3 l4 l6 v4 else (wt_cl (gX0_goToCaller s3) fun _ s5 => gX0_wrongPlaces_93 (gX0_wrongPlaces_55 K16 n) s5 (l1 + v2) l3 l4 l6 v4)))))
theorem sX0_wrongPlaces_55 {L d : Nat}  {K16 : wt_S → Int32 → Int32 → Int32 → Option (Int32 × wt_S)}  (hK16 : ∀ {s : wt_S} {l1 : Int32} {l3 : Int32} {l4 : Int32} {x5 x6 x7 : Option (mj_v Int32)}, wt_sd (wt_H L) wt_iv (d + 4) kX0_wrongPlaces (mj_drop 11 kX0_wrongPlaces) [some (.inr (some 71)), some (.inl l1), some (.inr (some 21)), some (.inl l3), some (.inl l4), x5, x6, x7] [] s (K16 s l1 l3 l4)) : ∀ (n : Nat) {s : wt_S} {l1 : Int32} {l3 : Int32} {l4 : Int32} {l6 : Int32} {x5 x7 : Option (mj_v Int32)}, wt_sd (wt_H L) wt_iv (d + 4) kX0_wrongPlaces (mj_drop 31 kX0_wrongPlaces) [some (.inr (some 71)), some (.inl l1), some (.inr (some 21)), some (.inl l3), some (.inl l4), x5, some (.inl l6), x7] [] s (gX0_wrongPlaces_55 K16 n s l1 l3 l4 l6) := by
  intro n
  induction n with
  | zero =>
    intro s l1 l3 l4 l6 x5 x7
    exact fun R h => wt_tn h
  | succ n ih =>
    intro s l1 l3 l4 l6 x5 x7
    unfold gX0_wrongPlaces_55
    exact wt_go1 [16, 55, 93, 110, 118] 75 fun R h => wt_tb h (fun h => ⟨trivial, hK16  _ h⟩) (fun h => ⟨_, wt_sG, _, _, rfl, jX0_wrongPointers, wt_tc h (sX0_wrongPointers) fun v2 s1 h => ⟨_, wt_sG, ⟨_, (wt_sWorldB wt_B11), ⟨_, wt_sG, ⟨_, (wt_sMemory wt_C11), _, _, rfl, jX3_word, wt_tc h (sX3_word wt_B11) fun v4 s3 h => wt_tb h (fun h => ⟨trivial, sX0_wrongPlaces_93 ih _ h⟩) (fun h => ⟨_, wt_sG, _, _, rfl, jX0_goToCaller, wt_tc h (sX0_goToCaller) fun _ s5 h => ⟨trivial, sX0_wrongPlaces_93 ih _ h⟩⟩)⟩⟩⟩⟩⟩)
def gX0_wrongPlaces_16 : Nat → wt_S → Int32 → Int32 → Int32 → Option (Int32 × wt_S)
  | 0, _, _, _, _ => none
  | n + 1, s, l1, l3, l4 => (if l3.toInt ≤ l4.toInt then some (l1, s) else (wt_ix l4 6 fun k1 => (wt_cl (gJ7_fill_53178 72 2048 s 0) fun _ s2 => (wt_cl (gX0_markNumbers (11 + 17 + 2 * k1) s2) fun _ s3 => (wt_cl (gX0_goToLast (11 + 17 + 2 * k1) s3) fun _ s4 => gX0_wrongPlaces_55 (gX0_wrongPlaces_16 n) wt_N s4 l1 l3 l4 (s4 (11 + 17 + 2 * k1) 4))))))
theorem sX0_wrongPlaces_16 {L d : Nat}    : ∀ (n : Nat) {s : wt_S} {l1 : Int32} {l3 : Int32} {l4 : Int32} {x5 x6 x7 : Option (mj_v Int32)}, wt_sd (wt_H L) wt_iv (d + 4) kX0_wrongPlaces (mj_drop 11 kX0_wrongPlaces) [some (.inr (some 71)), some (.inl l1), some (.inr (some 21)), some (.inl l3), some (.inl l4), x5, x6, x7] [] s (gX0_wrongPlaces_16 n s l1 l3 l4) := by
  intro n
  induction n with
  | zero =>
    intro s l1 l3 l4 x5 x6 x7
    exact fun R h => wt_tn h
  | succ n ih =>
    intro s l1 l3 l4 x5 x6 x7
    unfold gX0_wrongPlaces_16
    exact wt_go1 [16, 55, 93, 110, 118] 75 fun R h => wt_tb h (fun h => wt_tr (e := wt_iv) h) (fun h => ⟨_, _, wt_r10 wt_C11, wt_ty h fun k1 hk1 h => ⟨_, if_pos hk1, ⟨_, wt_sG, ⟨_, _, rfl, jJ7_fill_53178, wt_tc h (sJ7_fill_53178 wt_r72) fun _ s2 h => ⟨_, wt_sG, _, _, rfl, jX0_markNumbers, wt_tc h (sX0_markNumbers (wt_Tk wt_C11 hk1)) fun _ s3 h => ⟨_, wt_sG, _, _, rfl, jX0_goToLast, wt_tc h (sX0_goToLast (wt_Tk wt_C11 hk1)) fun _ s4 h => ⟨_, (wt_sT (wt_Tk wt_C11 hk1)), ⟨trivial, sX0_wrongPlaces_55 ih wt_N _ h⟩⟩⟩⟩⟩⟩⟩⟩)
def gX0_wrongPlaces (s : wt_S) : Option (Int32 × wt_S) := gX0_wrongPlaces_16 wt_N s 0 6 0
theorem sX0_wrongPlaces {L d : Nat}   {s : wt_S}  : wt_sd (wt_H L) wt_iv (d + 4) kX0_wrongPlaces kX0_wrongPlaces (mj_ent 8 [.inr (some 71)]) [] s (gX0_wrongPlaces s) := by
  unfold gX0_wrongPlaces
  exact wt_go [16, 55, 93, 110, 118] 75 fun R h => ⟨_, wt_sG, ⟨_, (wt_sWorldB wt_B11), Or.inr ⟨_, _, wt_r10 wt_C11, ⟨trivial, sX0_wrongPlaces_16 wt_N _ h⟩⟩⟩⟩
def gX0_markWords_41 (t : Nat) (K18 : wt_S → Int32 → Option (Unit × wt_S)) : Nat → wt_S → Int32 → Int32 → Int32 → Option (Unit × wt_S)
  | 0, _, _, _, _ => none
  | n + 1, s, l3, l4, l5 => (if l4.toInt ≤ l5.toInt then (if l3.toInt ≤ (1 : Int32).toInt then K18 s (l3 + (-1)) else (wt_cl (gX8_toCaller 11 s) fun _ s1 => K18 s1 (l3 + (-1)))) else (wt_cl (gX0_mark s ((s 27 1) + l5)) fun _ s2 => gX0_markWords_41 t K18 n s2 l3 l4 (l5 + 1)))
theorem sX0_markWords_41 {L d : Nat} {t : Nat} {K18 : wt_S → Int32 → Option (Unit × wt_S)} (ht : wt_T t) (hK18 : ∀ {s : wt_S} {l3 : Int32} {x1 x4 x5 : Option (mj_v Int32)}, wt_sd (wt_H L) wt_uv (d + 2) kX0_markWords (mj_drop 10 kX0_markWords) [some (.inr (some 71)), x1, some (.inr (some 27)), some (.inl l3), x4, x5] [] s (K18 s l3)) : ∀ (n : Nat) {s : wt_S} {l3 : Int32} {l4 : Int32} {l5 : Int32} {x1 : Option (mj_v Int32)}, wt_sd (wt_H L) wt_uv (d + 2) kX0_markWords (mj_drop 21 kX0_markWords) [some (.inr (some 71)), x1, some (.inr (some 27)), some (.inl l3), some (.inl l4), some (.inl l5)] [] s (gX0_markWords_41 t K18 n s l3 l4 l5) := by
  intro n
  induction n with
  | zero =>
    intro s l3 l4 l5 x1
    exact fun R h => wt_tn h
  | succ n ih =>
    intro s l3 l4 l5 x1
    unfold gX0_markWords_41
    exact wt_go1 [18, 41] 44 fun R h => wt_tb h (fun h => wt_tb h (fun h => ⟨trivial, hK18  _ h⟩) (fun h => ⟨_, (wt_sWalk wt_C11), _, _, rfl, jX8_toCaller, wt_tc h (sX8_toCaller wt_B11) fun _ s1 h => ⟨trivial, hK18  _ h⟩⟩)) (fun h => ⟨_, (wt_sWalk wt_C11), ⟨_, wt_sG, _, _, rfl, jX0_mark, wt_tc h (sX0_mark) fun _ s2 h => ⟨trivial, ih  _ h⟩⟩⟩)
def gX0_markWords_18 (t : Nat) : Nat → wt_S → Int32 → Option (Unit × wt_S)
  | 0, _, _ => none
  | n + 1, s, l3 => (if l3.toInt ≤ (0 : Int32).toInt then some ((), s) else (wt_cl (gX6_frameWords 5 s (s 27 2)) fun v2 s1 => gX0_markWords_41 t (gX0_markWords_18 t n) wt_N s1 l3 v2 0))
theorem sX0_markWords_18 {L d : Nat} {t : Nat}  (ht : wt_T t) : ∀ (n : Nat) {s : wt_S} {l3 : Int32} {x1 x4 x5 : Option (mj_v Int32)}, wt_sd (wt_H L) wt_uv (d + 2) kX0_markWords (mj_drop 10 kX0_markWords) [some (.inr (some 71)), x1, some (.inr (some 27)), some (.inl l3), x4, x5] [] s (gX0_markWords_18 t n s l3) := by
  intro n
  induction n with
  | zero =>
    intro s l3 x1 x4 x5
    exact fun R h => wt_tn h
  | succ n ih =>
    intro s l3 x1 x4 x5
    unfold gX0_markWords_18
    exact wt_go1 [18, 41] 44 fun R h => wt_tb h (fun h => wt_tr (e := wt_uv) h) (fun h => ⟨_, wt_sG, ⟨_, (wt_sWorldB wt_B11), ⟨_, (wt_sWalk wt_C11), ⟨_, (wt_sQ wt_Q5), _, _, rfl, jX6_frameWords, wt_tc h (sX6_frameWords wt_Q5) fun v2 s1 h => ⟨trivial, sX0_markWords_41 ht ih wt_N _ h⟩⟩⟩⟩⟩)
def gX0_markWords (t : Nat) (s : wt_S) : Option (Unit × wt_S) := (wt_cl (gX8_toLast 11 t s) fun _ s1 => gX0_markWords_18 t wt_N s1 (s1 t 4))
theorem sX0_markWords {L d : Nat} {t : Nat} (ht : wt_T t) {s : wt_S}  : wt_sd (wt_H L) wt_uv (d + 2) kX0_markWords kX0_markWords (mj_ent 6 [.inr (some 71), .inr (some t)]) [] s (gX0_markWords t s) := by
  unfold gX0_markWords
  exact wt_go [18, 41] 44 fun R h => ⟨_, wt_sG, ⟨_, (wt_sWorldB wt_B11), ⟨_, (wt_sWalk wt_C11), _, _, rfl, jX8_toLast, wt_tc h (sX8_toLast wt_B11 ht) fun _ s1 h => ⟨_, (wt_sT ht), ⟨trivial, sX0_markWords_18 ht wt_N _ h⟩⟩⟩⟩⟩
def gX0_liesWell_123 (t : Nat) (K94 : wt_S → Int32 → Int32 → Int32 → Int32 → Option (Int32 × wt_S)) (s : wt_S) (l3 : Int32) (l4 : Int32) (l7 : Int32) (z0 : Int32) : Option (Int32 × wt_S) := K94 s l3 l4 z0 (l7 + 1)
theorem sX0_liesWell_123 {L d : Nat} {t : Nat} {K94 : wt_S → Int32 → Int32 → Int32 → Int32 → Option (Int32 × wt_S)} (ht : wt_T t) (hK94 : ∀ {s : wt_S} {l3 : Int32} {l4 : Int32} {l6 : Int32} {l7 : Int32} {x1 x2 x5 : Option (mj_v Int32)}, wt_sd (wt_H L) wt_iv (d + 2) kX0_liesWell (mj_drop 46 kX0_liesWell) [some (.inr (some 71)), x1, x2, some (.inl l3), some (.inl l4), x5, some (.inl l6), some (.inl l7)] [] s (K94 s l3 l4 l6 l7)) {s : wt_S} {l3 : Int32} {l4 : Int32} {l7 : Int32} {z0 : Int32} {x1 x2 x5 x6 : Option (mj_v Int32)} : wt_sd (wt_H L) wt_iv (d + 2) kX0_liesWell (mj_drop 61 kX0_liesWell) [some (.inr (some 71)), x1, x2, some (.inl l3), some (.inl l4), x5, x6, some (.inl l7)] [.inl z0] s (gX0_liesWell_123 t K94 s l3 l4 l7 z0) := by
  unfold gX0_liesWell_123
  exact wt_go1 [88, 89, 94, 122, 123] 70 fun R h => ⟨trivial, hK94  _ h⟩
def gX0_liesWell_122 (t : Nat) (K94 : wt_S → Int32 → Int32 → Int32 → Int32 → Option (Int32 × wt_S)) (s : wt_S) (l3 : Int32) (l4 : Int32) (l7 : Int32) : Option (Int32 × wt_S) := gX0_liesWell_123 t K94 s l3 l4 l7 0
theorem sX0_liesWell_122 {L d : Nat} {t : Nat} {K94 : wt_S → Int32 → Int32 → Int32 → Int32 → Option (Int32 × wt_S)} (ht : wt_T t) (hK94 : ∀ {s : wt_S} {l3 : Int32} {l4 : Int32} {l6 : Int32} {l7 : Int32} {x1 x2 x5 : Option (mj_v Int32)}, wt_sd (wt_H L) wt_iv (d + 2) kX0_liesWell (mj_drop 46 kX0_liesWell) [some (.inr (some 71)), x1, x2, some (.inl l3), some (.inl l4), x5, some (.inl l6), some (.inl l7)] [] s (K94 s l3 l4 l6 l7)) {s : wt_S} {l3 : Int32} {l4 : Int32} {l7 : Int32} {x1 x2 x5 x6 : Option (mj_v Int32)} : wt_sd (wt_H L) wt_iv (d + 2) kX0_liesWell (mj_drop 60 kX0_liesWell) [some (.inr (some 71)), x1, x2, some (.inl l3), some (.inl l4), x5, x6, some (.inl l7)] [] s (gX0_liesWell_122 t K94 s l3 l4 l7) := by
  unfold gX0_liesWell_122
  exact wt_go1 [88, 89, 94, 122, 123] 70 fun R h => ⟨trivial, sX0_liesWell_123 ht hK94 _ h⟩
def gX0_liesWell_94 (t : Nat) : Nat → wt_S → Int32 → Int32 → Int32 → Int32 → Option (Int32 × wt_S)
  | 0, _, _, _, _, _ => none
  | n + 1, s, l3, l4, l6, l7 => (if l4.toInt ≤ l7.toInt then wt_rz l6 (some (l6, s)) else (if l6 = (0 : Int32) then gX0_liesWell_122 t (gX0_liesWell_94 t n) s l3 l4 l7 else (wt_cl (gX0_marksAt s (l3 + l7)) fun v2 s1 => (if v2 ≠ (1 : Int32) then gX0_liesWell_122 t (gX0_liesWell_94 t n) s1 l3 l4 l7 else gX0_liesWell_123 t (gX0_liesWell_94 t n) s1 l3 l4 l7 1))))
theorem sX0_liesWell_94 {L d : Nat} {t : Nat}  (ht : wt_T t) : ∀ (n : Nat) {s : wt_S} {l3 : Int32} {l4 : Int32} {l6 : Int32} {l7 : Int32} {x1 x2 x5 : Option (mj_v Int32)}, wt_sd (wt_H L) wt_iv (d + 2) kX0_liesWell (mj_drop 46 kX0_liesWell) [some (.inr (some 71)), x1, x2, some (.inl l3), some (.inl l4), x5, some (.inl l6), some (.inl l7)] [] s (gX0_liesWell_94 t n s l3 l4 l6 l7) := by
  intro n
  induction n with
  | zero =>
    intro s l3 l4 l6 l7 x1 x2 x5
    exact fun R h => wt_tn h
  | succ n ih =>
    intro s l3 l4 l6 l7 x1 x2 x5
    unfold gX0_liesWell_94
    exact wt_go1 [88, 89, 94, 122, 123] 70 fun R h => wt_tb h (fun h => wt_tz h fun h => wt_tr (e := wt_iv) h) (fun h => wt_tb h (fun h => ⟨trivial, sX0_liesWell_122 ht ih _ h⟩) (fun h => ⟨_, wt_sG, _, _, rfl, jX0_marksAt, wt_tc h (sX0_marksAt) fun v2 s1 h => wt_tb h (fun h => ⟨trivial, sX0_liesWell_122 ht ih _ h⟩) (fun h => ⟨trivial, sX0_liesWell_123 ht ih _ h⟩)⟩))
def gX0_liesWell_89 (t : Nat) (s : wt_S) (l3 : Int32) (l4 : Int32) (z0 : Int32) : Option (Int32 × wt_S) := gX0_liesWell_94 t wt_N s l3 l4 z0 0
theorem sX0_liesWell_89 {L d : Nat} {t : Nat}  (ht : wt_T t) {s : wt_S} {l3 : Int32} {l4 : Int32} {z0 : Int32} {x1 x2 x5 x6 x7 : Option (mj_v Int32)} : wt_sd (wt_H L) wt_iv (d + 2) kX0_liesWell (mj_drop 43 kX0_liesWell) [some (.inr (some 71)), x1, x2, some (.inl l3), some (.inl l4), x5, x6, x7] [.inl z0] s (gX0_liesWell_89 t s l3 l4 z0) := by
  unfold gX0_liesWell_89
  exact wt_go1 [88, 89, 94, 122, 123] 70 fun R h => ⟨trivial, sX0_liesWell_94 ht wt_N _ h⟩
def gX0_liesWell_88 (t : Nat) (s : wt_S) (l3 : Int32) (l4 : Int32) : Option (Int32 × wt_S) := gX0_liesWell_89 t s l3 l4 0
theorem sX0_liesWell_88 {L d : Nat} {t : Nat}  (ht : wt_T t) {s : wt_S} {l3 : Int32} {l4 : Int32} {x1 x2 x5 x6 x7 : Option (mj_v Int32)} : wt_sd (wt_H L) wt_iv (d + 2) kX0_liesWell (mj_drop 42 kX0_liesWell) [some (.inr (some 71)), x1, x2, some (.inl l3), some (.inl l4), x5, x6, x7] [] s (gX0_liesWell_88 t s l3 l4) := by
  unfold gX0_liesWell_88
  exact wt_go1 [88, 89, 94, 122, 123] 70 fun R h => ⟨trivial, sX0_liesWell_89 ht _ h⟩
def gX0_liesWell (t : Nat) (s : wt_S) : Option (Int32 × wt_S) := (wt_cl (gX6_frameWords 5 s (s 27 2)) fun v2 s1 => (wt_cl (gX5_holding 11 s1 (s 27 1)) fun v4 s3 => (wt_cl (gX5_ownerOf 11 s3 v4) fun v6 s5 => (if v6 ≠ (s5 t 0) then gX0_liesWell_88 t s5 (s 27 1) v2 else (wt_cl (gX5_placeOf 11 s5 v4) fun v8 s7 => (if (s 27 1).toInt < v8.toInt then gX0_liesWell_88 t s7 (s 27 1) v2 else (wt_cl (gX5_endOf 11 s7 v4) fun v10 s9 => (if v10.toInt < ((s 27 1) + v2).toInt then gX0_liesWell_88 t s9 (s 27 1) v2 else gX0_liesWell_89 t s9 (s 27 1) v2 1))))))))
theorem sX0_liesWell {L d : Nat} {t : Nat} (ht : wt_T t) {s : wt_S}  : wt_sd (wt_H L) wt_iv (d + 2) kX0_liesWell kX0_liesWell (mj_ent 8 [.inr (some 71), .inr (some t)]) [] s (gX0_liesWell t s) := by
  unfold gX0_liesWell
  exact wt_go [88, 89, 94, 122, 123] 70 fun R h => ⟨_, wt_sG, ⟨_, (wt_sWorldB wt_B11), ⟨_, wt_sG, ⟨_, (wt_sWorldB wt_B11), ⟨_, (wt_sWalk wt_C11), ⟨_, wt_sG, ⟨_, (wt_sWorldB wt_B11), ⟨_, wt_sG, ⟨_, (wt_sWorldB wt_B11), ⟨_, (wt_sWalk wt_C11), ⟨_, (wt_sQ wt_Q5), _, _, rfl, jX6_frameWords, wt_tc h (sX6_frameWords wt_Q5) fun v2 s1 h => ⟨_, (wt_sPieces wt_C11), _, _, rfl, jX5_holding, wt_tc h (sX5_holding wt_B11) fun v4 s3 h => ⟨_, (wt_sPieces wt_C11), _, _, rfl, jX5_ownerOf, wt_tc h (sX5_ownerOf wt_B11) fun v6 s5 h => ⟨_, (wt_sT ht), wt_tb h (fun h => ⟨trivial, sX0_liesWell_88 ht _ h⟩) (fun h => ⟨_, (wt_sPieces wt_C11), _, _, rfl, jX5_placeOf, wt_tc h (sX5_placeOf wt_B11) fun v8 s7 h => wt_tb h (fun h => ⟨trivial, sX0_liesWell_88 ht _ h⟩) (fun h => ⟨_, (wt_sPieces wt_C11), _, _, rfl, jX5_endOf, wt_tc h (sX5_endOf wt_B11) fun v10 s9 h => wt_tb h (fun h => ⟨trivial, sX0_liesWell_88 ht _ h⟩) (fun h => ⟨trivial, sX0_liesWell_89 ht _ h⟩)⟩)⟩)⟩⟩⟩⟩⟩⟩⟩⟩⟩⟩⟩⟩⟩⟩
def gX0_wrongFrames_110 (K90 : wt_S → Int32 → Int32 → Int32 → Nat → Int32 → Option (Int32 × wt_S)) (s : wt_S) (l3 : Int32) (l4 : Int32) (t5 : Nat) (l6 : Int32) (z0 : Int32) (z1 : Int32) : Option (Int32 × wt_S) := (if l6.toInt ≤ (1 : Int32).toInt then K90 s (z0 + z1) l3 l4 t5 (l6 + (-1)) else (wt_cl (gX8_toCaller 11 s) fun _ s1 => K90 s1 (z0 + z1) l3 l4 t5 (l6 + (-1))))
theorem sX0_wrongFrames_110 {L d : Nat}  {K90 : wt_S → Int32 → Int32 → Int32 → Nat → Int32 → Option (Int32 × wt_S)}  (hK90 : ∀ {s : wt_S} {l1 : Int32} {l3 : Int32} {l4 : Int32} {t5 : Nat} {l6 : Int32} (ht5 : wt_T t5), wt_sd (wt_H L) wt_iv (d + 3) kX0_wrongFrames (mj_drop 51 kX0_wrongFrames) [some (.inr (some 71)), some (.inl l1), some (.inr (some 21)), some (.inl l3), some (.inl l4), some (.inr (some t5)), some (.inl l6)] [] s (K90 s l1 l3 l4 t5 l6)) {s : wt_S} {l3 : Int32} {l4 : Int32} {t5 : Nat} {l6 : Int32} {z0 : Int32} {z1 : Int32} {x1 : Option (mj_v Int32)} (ht5 : wt_T t5) : wt_sd (wt_H L) wt_iv (d + 3) kX0_wrongFrames (mj_drop 61 kX0_wrongFrames) [some (.inr (some 71)), x1, some (.inr (some 21)), some (.inl l3), some (.inl l4), some (.inr (some t5)), some (.inl l6)] [.inl z1, .inl z0] s (gX0_wrongFrames_110 K90 s l3 l4 t5 l6 z0 z1) := by
  unfold gX0_wrongFrames_110
  exact wt_go1 [21, 59, 90, 110] 80 fun R h => wt_tb h (fun h => ⟨trivial, hK90 ht5 _ h⟩) (fun h => ⟨_, wt_sG, ⟨_, (wt_sWorldB wt_B11), ⟨_, (wt_sWalk wt_C11), _, _, rfl, jX8_toCaller, wt_tc h (sX8_toCaller wt_B11) fun _ s1 h => ⟨trivial, hK90 ht5 _ h⟩⟩⟩⟩)
def gX0_wrongFrames_90 (K59 : wt_S → Int32 → Int32 → Int32 → Option (Int32 × wt_S)) : Nat → wt_S → Int32 → Int32 → Int32 → Nat → Int32 → Option (Int32 × wt_S)
  | 0, _, _, _, _, _, _ => none
  | n + 1, s, l1, l3, l4, t5, l6 => (if l6.toInt ≤ (0 : Int32).toInt then K59 s l1 l3 (l4 + 1) else (wt_cl (gX0_liesWell t5 s) fun v2 s1 => (if v2 = (0 : Int32) then gX0_wrongFrames_110 (gX0_wrongFrames_90 K59 n) s1 l3 l4 t5 l6 l1 1 else gX0_wrongFrames_110 (gX0_wrongFrames_90 K59 n) s1 l3 l4 t5 l6 l1 0)))
theorem sX0_wrongFrames_90 {L d : Nat}  {K59 : wt_S → Int32 → Int32 → Int32 → Option (Int32 × wt_S)}  (hK59 : ∀ {s : wt_S} {l1 : Int32} {l3 : Int32} {l4 : Int32} {x5 x6 : Option (mj_v Int32)}, wt_sd (wt_H L) wt_iv (d + 3) kX0_wrongFrames (mj_drop 36 kX0_wrongFrames) [some (.inr (some 71)), some (.inl l1), some (.inr (some 21)), some (.inl l3), some (.inl l4), x5, x6] [] s (K59 s l1 l3 l4)) : ∀ (n : Nat) {s : wt_S} {l1 : Int32} {l3 : Int32} {l4 : Int32} {t5 : Nat} {l6 : Int32} (ht5 : wt_T t5), wt_sd (wt_H L) wt_iv (d + 3) kX0_wrongFrames (mj_drop 51 kX0_wrongFrames) [some (.inr (some 71)), some (.inl l1), some (.inr (some 21)), some (.inl l3), some (.inl l4), some (.inr (some t5)), some (.inl l6)] [] s (gX0_wrongFrames_90 K59 n s l1 l3 l4 t5 l6) := by
  intro n
  induction n with
  | zero =>
    intro s l1 l3 l4 t5 l6 ht5
    exact fun R h => wt_tn h
  | succ n ih =>
    intro s l1 l3 l4 t5 l6 ht5
    unfold gX0_wrongFrames_90
    exact wt_go1 [21, 59, 90, 110] 80 fun R h => wt_tb h (fun h => ⟨trivial, hK59  _ h⟩) (fun h => ⟨_, wt_sG, _, _, rfl, jX0_liesWell, wt_tc h (sX0_liesWell ht5) fun v2 s1 h => wt_tb h (fun h => ⟨trivial, sX0_wrongFrames_110 (fun ht5 => ih ht5) ht5 _ h⟩) (fun h => ⟨trivial, sX0_wrongFrames_110 (fun ht5 => ih ht5) ht5 _ h⟩)⟩)
def gX0_wrongFrames_59 : Nat → wt_S → Int32 → Int32 → Int32 → Option (Int32 × wt_S)
  | 0, _, _, _, _ => none
  | n + 1, s, l1, l3, l4 => (if l3.toInt ≤ l4.toInt then some (l1, s) else (wt_ix l4 6 fun k1 => (wt_cl (gX8_toLast 11 (11 + 17 + 2 * k1) s) fun _ s2 => gX0_wrongFrames_90 (gX0_wrongFrames_59 n) wt_N s2 l1 l3 l4 (11 + 17 + 2 * k1) (s2 (11 + 17 + 2 * k1) 4))))
theorem sX0_wrongFrames_59 {L d : Nat}    : ∀ (n : Nat) {s : wt_S} {l1 : Int32} {l3 : Int32} {l4 : Int32} {x5 x6 : Option (mj_v Int32)}, wt_sd (wt_H L) wt_iv (d + 3) kX0_wrongFrames (mj_drop 36 kX0_wrongFrames) [some (.inr (some 71)), some (.inl l1), some (.inr (some 21)), some (.inl l3), some (.inl l4), x5, x6] [] s (gX0_wrongFrames_59 n s l1 l3 l4) := by
  intro n
  induction n with
  | zero =>
    intro s l1 l3 l4 x5 x6
    exact fun R h => wt_tn h
  | succ n ih =>
    intro s l1 l3 l4 x5 x6
    unfold gX0_wrongFrames_59
    exact wt_go1 [21, 59, 90, 110] 80 fun R h => wt_tb h (fun h => wt_tr (e := wt_iv) h) (fun h => ⟨_, _, wt_r10 wt_C11, wt_ty h fun k1 hk1 h => ⟨_, if_pos hk1, ⟨_, wt_sG, ⟨_, (wt_sWorldB wt_B11), ⟨_, (wt_sWalk wt_C11), _, _, rfl, jX8_toLast, wt_tc h (sX8_toLast wt_B11 (wt_Tk wt_C11 hk1)) fun _ s2 h => ⟨_, (wt_sT (wt_Tk wt_C11 hk1)), ⟨trivial, sX0_wrongFrames_90 ih wt_N (wt_Tk wt_C11 hk1) _ h⟩⟩⟩⟩⟩⟩⟩)
def gX0_wrongFrames_21 : Nat → wt_S → Int32 → Int32 → Option (Int32 × wt_S)
  | 0, _, _, _ => none
  | n + 1, s, l2, l3 => (if l2.toInt ≤ l3.toInt then gX0_wrongFrames_59 wt_N s 0 6 0 else (wt_ix l3 6 fun k1 => (wt_cl (gX0_markWords (11 + 17 + 2 * k1) s) fun _ s2 => gX0_wrongFrames_21 n s2 l2 (l3 + 1))))
theorem sX0_wrongFrames_21 {L d : Nat}    : ∀ (n : Nat) {s : wt_S} {l2 : Int32} {l3 : Int32} {x4 x5 x6 : Option (mj_v Int32)}, wt_sd (wt_H L) wt_iv (d + 3) kX0_wrongFrames (mj_drop 13 kX0_wrongFrames) [some (.inr (some 71)), some (.inr (some 21)), some (.inl l2), some (.inl l3), x4, x5, x6] [] s (gX0_wrongFrames_21 n s l2 l3) := by
  intro n
  induction n with
  | zero =>
    intro s l2 l3 x4 x5 x6
    exact fun R h => wt_tn h
  | succ n ih =>
    intro s l2 l3 x4 x5 x6
    unfold gX0_wrongFrames_21
    exact wt_go1 [21, 59, 90, 110] 80 fun R h => wt_tb h (fun h => ⟨_, wt_sG, ⟨_, (wt_sWorldB wt_B11), Or.inr ⟨_, _, wt_r10 wt_C11, ⟨trivial, sX0_wrongFrames_59 wt_N _ h⟩⟩⟩⟩) (fun h => ⟨_, _, wt_r10 wt_C11, wt_ty h fun k1 hk1 h => ⟨_, if_pos hk1, ⟨_, wt_sG, _, _, rfl, jX0_markWords, wt_tc h (sX0_markWords (wt_Tk wt_C11 hk1)) fun _ s2 h => ⟨trivial, ih  _ h⟩⟩⟩⟩)
def gX0_wrongFrames (s : wt_S) : Option (Int32 × wt_S) := (wt_cl (gJ7_fill_53178 72 2048 s 0) fun _ s1 => gX0_wrongFrames_21 wt_N s1 6 0)
theorem sX0_wrongFrames {L d : Nat}   {s : wt_S}  : wt_sd (wt_H L) wt_iv (d + 3) kX0_wrongFrames kX0_wrongFrames (mj_ent 7 [.inr (some 71)]) [] s (gX0_wrongFrames s) := by
  unfold gX0_wrongFrames
  exact wt_go [21, 59, 90, 110] 80 fun R h => ⟨_, wt_sG, ⟨_, _, rfl, jJ7_fill_53178, wt_tc h (sJ7_fill_53178 wt_r72) fun _ s1 h => ⟨_, wt_sG, ⟨_, (wt_sWorldB wt_B11), Or.inr ⟨_, _, wt_r10 wt_C11, ⟨trivial, sX0_wrongFrames_21 wt_N _ h⟩⟩⟩⟩⟩⟩
def gX10_never (s : wt_S) (i1 : Int32) : Option (Int32 × wt_S) := (if i1.toInt < (0 : Int32).toInt then some ((-1), s) else (if i1.toInt ≤ (2 : Int32).toInt then (if i1 ≠ (0 : Int32) then (if i1 ≠ (1 : Int32) then (wt_cl (gX0_wrongFrames s) fun v2 s1 => some (v2, s1)) else (wt_cl (gX0_wrongPlaces s) fun v4 s3 => some (v4, s3))) else some ((s 11 8), s)) else some ((-1), s)))
theorem sX10_never {L d : Nat}   {s : wt_S} {i1 : Int32} : wt_sd (wt_H L) wt_iv (d + 5) kX10_never kX10_never (mj_ent 2 [.inr (some 4), .inl i1]) [] s (gX10_never s i1) := by
  unfold gX10_never
  exact wt_go [] 28 fun R h => wt_tb h (fun h => wt_tr (e := wt_iv) h) (fun h => wt_tb h (fun h => wt_tb h (fun h => wt_tb h (fun h => ⟨_, wt_s4, ⟨_, wt_sG, _, _, rfl, jX0_wrongFrames, wt_tc h (sX0_wrongFrames) fun v2 s1 h => wt_tr (e := wt_iv) h⟩⟩) (fun h => ⟨_, wt_s4, ⟨_, wt_sG, _, _, rfl, jX0_wrongPlaces, wt_tc h (sX0_wrongPlaces) fun v4 s3 h => wt_tr (e := wt_iv) h⟩⟩)) (fun h => ⟨_, wt_s4, ⟨_, (wt_sWorldB wt_B11), wt_tr (e := wt_iv) h⟩⟩)) (fun h => wt_tr (e := wt_iv) h))
def gX10_count (s : wt_S) (i1 : Int32) : Option (Int32 × wt_S) := (if i1.toInt < (0 : Int32).toInt then some ((-1), s) else (if (12 : Int32).toInt ≤ i1.toInt then some ((-1), s) else (wt_ix i1 12 fun k1 => some ((s 24 k1), s))))
theorem sX10_count {L d : Nat}   {s : wt_S} {i1 : Int32} : wt_sd (wt_H L) wt_iv d kX10_count kX10_count (mj_ent 2 [.inr (some 4), .inl i1]) [] s (gX10_count s i1) := by
  unfold gX10_count
  exact wt_go [] 17 fun R h => wt_tb h (fun h => wt_tr (e := wt_iv) h) (fun h => wt_tb h (fun h => wt_tr (e := wt_iv) h) (fun h => ⟨_, wt_s4, ⟨_, (wt_sWorldB wt_B11), ⟨_, (wt_r13 wt_C11).1, wt_tx h fun k1 h => wt_tr (e := wt_iv) h⟩⟩⟩))
def gX6_takeOver (q : Nat) (q2 : Nat) (s : wt_S) : Option (Unit × wt_S) := (wt_ac s (q2 + 1) 0 (q + 1) 0 10 10 10 fun s1 => (wt_ac s1 (q2 + 2) 0 (q + 2) 0 10 10 10 fun s2 => (wt_ac s2 (q2 + 3) 0 (q + 3) 0 10 10 10 fun s3 => (wt_ac s3 (q2 + 4) 0 (q + 4) 0 640 640 640 fun s4 => (wt_ac s4 (q2 + 5) 0 (q + 5) 0 10 10 10 fun s5 => some ((), s5))))))
theorem sX6_takeOver {L d : Nat} {q : Nat} {q2 : Nat} (hq : wt_Q q) (hq2 : wt_Q q2) {s : wt_S}  : wt_sd (wt_H L) wt_uv d kX6_takeOver kX6_takeOver (mj_ent 2 [.inr (some q), .inr (some q2)]) [] s (gX6_takeOver q q2 s) := by
  unfold gX6_takeOver
  exact wt_go [] 47 fun R h => ⟨_, (wt_sQ hq2), ⟨_, (wt_sQ hq), ⟨_, _, (wt_q1 hq2).1, (wt_q1 hq), rfl, wt_ta h fun s1 h => ⟨_, (wt_sQ hq2), ⟨_, (wt_sQ hq), ⟨_, _, (wt_q2 hq2).1, (wt_q2 hq), rfl, wt_ta h fun s2 h => ⟨_, (wt_sQ hq2), ⟨_, (wt_sQ hq), ⟨_, _, (wt_q3 hq2).1, (wt_q3 hq), rfl, wt_ta h fun s3 h => ⟨_, (wt_sQ hq2), ⟨_, (wt_sQ hq), ⟨_, (wt_sQ hq), Or.inl ⟨_, _, (wt_q4 hq).1, ⟨_, _, (wt_q4 hq2).1, (wt_q4 hq), rfl, wt_ta h fun s4 h => ⟨_, (wt_sQ hq2), ⟨_, (wt_sQ hq), ⟨_, _, (wt_q5 hq2).1, (wt_q5 hq), rfl, wt_ta h fun s5 h => wt_tr (e := wt_uv) h⟩⟩⟩⟩⟩⟩⟩⟩⟩⟩⟩⟩⟩⟩⟩⟩⟩
def gX10_image_75 (s : wt_S) : Option (Int32 × wt_S) := wt_rz (s 4 6) (some ((s 4 6), s))
theorem sX10_image_75 {L d : Nat}    {s : wt_S} {x1 : Option (mj_v Int32)} : wt_sd (wt_H L) wt_iv (d + 3) kX10_image (mj_drop 33 kX10_image) [some (.inr (some 4)), x1] [] s (gX10_image_75 s) := by
  unfold gX10_image_75
  exact wt_go1 [75] 40 fun R h => ⟨_, wt_s4, wt_tz h fun h => wt_tr (e := wt_iv) h⟩
def gX10_image (s : wt_S) (i1 : Int32) : Option (Int32 × wt_S) := (if i1 = (0 : Int32) then (if (s 4 6) = (0 : Int32) then gX10_image_75 s else (wt_cl (gX6_takeOver 5 76 s) fun _ s1 => (wt_cl (gX9_takeOver 11 81 s1) fun _ s2 => gX10_image_75 s2))) else (wt_cl (gX6_takeOver 76 5 s) fun _ s3 => (wt_cl (gX9_takeOver 81 11 s3) fun _ s4 => (wt_wr s4 4 6 1 fun s5 => gX10_image_75 s5))))
theorem sX10_image {L d : Nat}   {s : wt_S} {i1 : Int32} : wt_sd (wt_H L) wt_iv (d + 3) kX10_image kX10_image (mj_ent 2 [.inr (some 4), .inl i1]) [] s (gX10_image s i1) := by
  unfold gX10_image
  exact wt_go [75] 40 fun R h => wt_tb h (fun h => ⟨_, wt_s4, wt_tb h (fun h => ⟨trivial, sX10_image_75 _ h⟩) (fun h => ⟨_, wt_s4, ⟨_, (wt_sWorldB wt_B11), ⟨_, wt_s4, ⟨_, (wt_sWorld wt_C81), ⟨_, (wt_sQ wt_Q5), _, _, rfl, jX6_takeOver, wt_tc h (sX6_takeOver wt_Q5 wt_Q76) fun _ s1 h => ⟨_, wt_s4, ⟨_, wt_s4, ⟨_, (wt_sWorldB wt_B11), _, _, rfl, jX9_takeOver, wt_tc h (sX9_takeOver wt_C11 wt_C81) fun _ s2 h => ⟨trivial, sX10_image_75 _ h⟩⟩⟩⟩⟩⟩⟩⟩⟩)⟩) (fun h => ⟨_, wt_s4, ⟨_, (wt_sWorld wt_C81), ⟨_, wt_s4, ⟨_, (wt_sWorldB wt_B11), ⟨_, (wt_sQ wt_Q76), _, _, rfl, jX6_takeOver, wt_tc h (sX6_takeOver wt_Q76 wt_Q5) fun _ s3 h => ⟨_, wt_s4, ⟨_, wt_s4, ⟨_, (wt_sWorld wt_C81), _, _, rfl, jX9_takeOver, wt_tc h (sX9_takeOver wt_C81 wt_C11) fun _ s4 h => ⟨_, wt_s4, Or.inr rfl, have h := wt_tw h; ⟨trivial, sX10_image_75 _ h⟩⟩⟩⟩⟩⟩⟩⟩⟩⟩)
def gX5_greatestGap_4 (b : Nat) : Nat → wt_S → Int32 → Int32 → Option (Int32 × wt_S)
  | 0, _, _, _ => none
  | n + 1, s, l1, l2 => (if (s (b + 2) 7).toInt < l2.toInt then some (l1, s) else (wt_cl (gX5_gapTo b s l2) fun v2 s1 => (wt_cl (gX5_gapFrom b s1 l2) fun v4 s3 => (wt_cl (gJ9_max_7cf53 s3 l1 (v2 - v4)) fun v6 s5 => gX5_greatestGap_4 b n s5 v6 (l2 + 1)))))
theorem sX5_greatestGap_4 {L d : Nat} {b : Nat}  (hb : wt_B b) : ∀ (n : Nat) {s : wt_S} {l1 : Int32} {l2 : Int32}, wt_sd (wt_H L) wt_iv (d + 2) kX5_greatestGap (mj_drop 4 kX5_greatestGap) [some (.inr (some (b + 2))), some (.inl l1), some (.inl l2)] [] s (gX5_greatestGap_4 b n s l1 l2) := by
  intro n
  induction n with
  | zero =>
    intro s l1 l2
    exact fun R h => wt_tn h
  | succ n ih =>
    intro s l1 l2
    unfold gX5_greatestGap_4
    exact wt_go1 [4] 26 fun R h => ⟨_, (wt_sPieces (wt_BC hb)), wt_tb h (fun h => wt_tr (e := wt_iv) h) (fun h => ⟨_, (wt_sPieces (wt_BC hb)), _, _, rfl, jX5_gapTo, wt_tc h (sX5_gapTo hb) fun v2 s1 h => ⟨_, (wt_sPieces (wt_BC hb)), _, _, rfl, jX5_gapFrom, wt_tc h (sX5_gapFrom hb) fun v4 s3 h => ⟨_, _, rfl, jJ9_max_7cf53, wt_tc h (sJ9_max_7cf53) fun v6 s5 h => ⟨trivial, ih  _ h⟩⟩⟩⟩)⟩
def gX5_greatestGap (b : Nat) (s : wt_S) : Option (Int32 × wt_S) := gX5_greatestGap_4 b wt_N s 0 0
theorem sX5_greatestGap {L d : Nat} {b : Nat} (hb : wt_B b) {s : wt_S}  : wt_sd (wt_H L) wt_iv (d + 2) kX5_greatestGap kX5_greatestGap (mj_ent 3 [.inr (some (b + 2))]) [] s (gX5_greatestGap b s) := by
  unfold gX5_greatestGap
  exact wt_go [4] 26 fun R h => ⟨trivial, sX5_greatestGap_4 hb wt_N _ h⟩
def gX9_sidesTaken_40 (b : Nat) (K13 : wt_S → Int32 → Int32 → Int32 → Option (Int32 × wt_S)) (s : wt_S) (l3 : Int32) (l4 : Int32) (z0 : Int32) (z1 : Int32) : Option (Int32 × wt_S) := K13 s (z0 + z1) l3 (l4 + 1)
theorem sX9_sidesTaken_40 {L d : Nat} {b : Nat} {K13 : wt_S → Int32 → Int32 → Int32 → Option (Int32 × wt_S)} (hb : wt_B b) (hK13 : ∀ {s : wt_S} {l1 : Int32} {l3 : Int32} {l4 : Int32} {x0 x5 : Option (mj_v Int32)}, wt_sd (wt_H L) wt_iv d kX9_sidesTaken (mj_drop 10 kX9_sidesTaken) [x0, some (.inl l1), some (.inr (some (b + 10))), some (.inl l3), some (.inl l4), x5] [] s (K13 s l1 l3 l4)) {s : wt_S} {l3 : Int32} {l4 : Int32} {z0 : Int32} {z1 : Int32} {x0 x1 x5 : Option (mj_v Int32)} : wt_sd (wt_H L) wt_iv d kX9_sidesTaken (mj_drop 25 kX9_sidesTaken) [x0, x1, some (.inr (some (b + 10))), some (.inl l3), some (.inl l4), x5] [.inl z1, .inl z0] s (gX9_sidesTaken_40 b K13 s l3 l4 z0 z1) := by
  unfold gX9_sidesTaken_40
  exact wt_go1 [13, 40] 35 fun R h => ⟨trivial, hK13  _ h⟩
def gX9_sidesTaken_13 (b : Nat) : Nat → wt_S → Int32 → Int32 → Int32 → Option (Int32 × wt_S)
  | 0, _, _, _, _ => none
  | n + 1, s, l1, l3, l4 => (if l3.toInt ≤ l4.toInt then some (l1, s) else (wt_ix l4 6 fun k1 => (if (s (b + 17 + 2 * k1) 7) = ((-1) : Int32) then gX9_sidesTaken_40 b (gX9_sidesTaken_13 b n) s l3 l4 l1 0 else gX9_sidesTaken_40 b (gX9_sidesTaken_13 b n) s l3 l4 l1 1)))
theorem sX9_sidesTaken_13 {L d : Nat} {b : Nat}  (hb : wt_B b) : ∀ (n : Nat) {s : wt_S} {l1 : Int32} {l3 : Int32} {l4 : Int32} {x0 x5 : Option (mj_v Int32)}, wt_sd (wt_H L) wt_iv d kX9_sidesTaken (mj_drop 10 kX9_sidesTaken) [x0, some (.inl l1), some (.inr (some (b + 10))), some (.inl l3), some (.inl l4), x5] [] s (gX9_sidesTaken_13 b n s l1 l3 l4) := by
  intro n
  induction n with
  | zero =>
    intro s l1 l3 l4 x0 x5
    exact fun R h => wt_tn h
  | succ n ih =>
    intro s l1 l3 l4 x0 x5
    unfold gX9_sidesTaken_13
    exact wt_go1 [13, 40] 35 fun R h => wt_tb h (fun h => wt_tr (e := wt_iv) h) (fun h => ⟨_, _, wt_r10 (wt_BC hb), wt_ty h fun k1 hk1 h => ⟨_, if_pos hk1, ⟨_, (wt_sT (wt_Tk (wt_BC hb) hk1)), wt_tb h (fun h => ⟨trivial, sX9_sidesTaken_40 hb ih _ h⟩) (fun h => ⟨trivial, sX9_sidesTaken_40 hb ih _ h⟩)⟩⟩⟩)
def gX9_sidesTaken (b : Nat) (s : wt_S) : Option (Int32 × wt_S) := gX9_sidesTaken_13 b wt_N s 0 6 0
theorem sX9_sidesTaken {L d : Nat} {b : Nat} (hb : wt_B b) {s : wt_S}  : wt_sd (wt_H L) wt_iv d kX9_sidesTaken kX9_sidesTaken (mj_ent 6 [.inr (some (wt_wo b))]) [] s (gX9_sidesTaken b s) := by
  unfold gX9_sidesTaken
  exact wt_go [13, 40] 35 fun R h => ⟨_, (wt_sWorldB hb), Or.inr ⟨_, _, wt_r10 (wt_BC hb), ⟨trivial, sX9_sidesTaken_13 hb wt_N _ h⟩⟩⟩
def gX6_toldFunctions_36 (q : Nat) (K13 : wt_S → Int32 → Int32 → Int32 → Option (Int32 × wt_S)) (s : wt_S) (l3 : Int32) (l4 : Int32) (z0 : Int32) (z1 : Int32) : Option (Int32 × wt_S) := K13 s (z0 + z1) l3 (l4 + 1)
theorem sX6_toldFunctions_36 {L d : Nat} {q : Nat} {K13 : wt_S → Int32 → Int32 → Int32 → Option (Int32 × wt_S)} (hq : wt_Q q) (hK13 : ∀ {s : wt_S} {l1 : Int32} {l3 : Int32} {l4 : Int32} {x0 x5 : Option (mj_v Int32)}, wt_sd (wt_H L) wt_iv d kX6_toldFunctions (mj_drop 10 kX6_toldFunctions) [x0, some (.inl l1), some (.inr (some (q + 1))), some (.inl l3), some (.inl l4), x5] [] s (K13 s l1 l3 l4)) {s : wt_S} {l3 : Int32} {l4 : Int32} {z0 : Int32} {z1 : Int32} {x0 x1 x5 : Option (mj_v Int32)} : wt_sd (wt_H L) wt_iv d kX6_toldFunctions (mj_drop 23 kX6_toldFunctions) [x0, x1, some (.inr (some (q + 1))), some (.inl l3), some (.inl l4), x5] [.inl z1, .inl z0] s (gX6_toldFunctions_36 q K13 s l3 l4 z0 z1) := by
  unfold gX6_toldFunctions_36
  exact wt_go1 [13, 36] 33 fun R h => ⟨trivial, hK13  _ h⟩
def gX6_toldFunctions_13 (q : Nat) : Nat → wt_S → Int32 → Int32 → Int32 → Option (Int32 × wt_S)
  | 0, _, _, _, _ => none
  | n + 1, s, l1, l3, l4 => (if l3.toInt ≤ l4.toInt then some (l1, s) else (wt_ix l4 10 fun k1 => (if (s (q + 1) k1).toInt ≤ (0 : Int32).toInt then gX6_toldFunctions_36 q (gX6_toldFunctions_13 q n) s l3 l4 l1 0 else gX6_toldFunctions_36 q (gX6_toldFunctions_13 q n) s l3 l4 l1 1)))
theorem sX6_toldFunctions_13 {L d : Nat} {q : Nat}  (hq : wt_Q q) : ∀ (n : Nat) {s : wt_S} {l1 : Int32} {l3 : Int32} {l4 : Int32} {x0 x5 : Option (mj_v Int32)}, wt_sd (wt_H L) wt_iv d kX6_toldFunctions (mj_drop 10 kX6_toldFunctions) [x0, some (.inl l1), some (.inr (some (q + 1))), some (.inl l3), some (.inl l4), x5] [] s (gX6_toldFunctions_13 q n s l1 l3 l4) := by
  intro n
  induction n with
  | zero =>
    intro s l1 l3 l4 x0 x5
    exact fun R h => wt_tn h
  | succ n ih =>
    intro s l1 l3 l4 x0 x5
    unfold gX6_toldFunctions_13
    exact wt_go1 [13, 36] 33 fun R h => wt_tb h (fun h => wt_tr (e := wt_iv) h) (fun h => ⟨_, (wt_q1 hq).1, wt_tx h fun k1 h => wt_tb h (fun h => ⟨trivial, sX6_toldFunctions_36 hq ih _ h⟩) (fun h => ⟨trivial, sX6_toldFunctions_36 hq ih _ h⟩)⟩)
def gX6_toldFunctions (q : Nat) (s : wt_S) : Option (Int32 × wt_S) := gX6_toldFunctions_13 q wt_N s 0 10 0
theorem sX6_toldFunctions {L d : Nat} {q : Nat} (hq : wt_Q q) {s : wt_S}  : wt_sd (wt_H L) wt_iv d kX6_toldFunctions kX6_toldFunctions (mj_ent 6 [.inr (some q)]) [] s (gX6_toldFunctions q s) := by
  unfold gX6_toldFunctions
  exact wt_go [13, 36] 33 fun R h => ⟨_, (wt_sQ hq), Or.inl ⟨_, _, (wt_q1 hq).1, ⟨trivial, sX6_toldFunctions_13 hq wt_N _ h⟩⟩⟩
def gX6_toldLines_13 (q : Nat) : Nat → wt_S → Int32 → Int32 → Int32 → Option (Int32 × wt_S)
  | 0, _, _, _, _ => none
  | n + 1, s, l1, l3, l4 => (if l3.toInt ≤ l4.toInt then some (l1, s) else (wt_ix l4 10 fun k1 => gX6_toldLines_13 q n s (l1 + (s (q + 3) k1)) l3 (l4 + 1)))
theorem sX6_toldLines_13 {L d : Nat} {q : Nat}  (hq : wt_Q q) : ∀ (n : Nat) {s : wt_S} {l1 : Int32} {l3 : Int32} {l4 : Int32} {x0 x5 : Option (mj_v Int32)}, wt_sd (wt_H L) wt_iv d kX6_toldLines (mj_drop 10 kX6_toldLines) [x0, some (.inl l1), some (.inr (some (q + 3))), some (.inl l3), some (.inl l4), x5] [] s (gX6_toldLines_13 q n s l1 l3 l4) := by
  intro n
  induction n with
  | zero =>
    intro s l1 l3 l4 x0 x5
    exact fun R h => wt_tn h
  | succ n ih =>
    intro s l1 l3 l4 x0 x5
    unfold gX6_toldLines_13
    exact wt_go1 [13] 29 fun R h => wt_tb h (fun h => wt_tr (e := wt_iv) h) (fun h => ⟨_, (wt_q3 hq).1, wt_tx h fun k1 h => ⟨trivial, ih  _ h⟩⟩)
def gX6_toldLines (q : Nat) (s : wt_S) : Option (Int32 × wt_S) := gX6_toldLines_13 q wt_N s 0 10 0
theorem sX6_toldLines {L d : Nat} {q : Nat} (hq : wt_Q q) {s : wt_S}  : wt_sd (wt_H L) wt_iv d kX6_toldLines kX6_toldLines (mj_ent 6 [.inr (some q)]) [] s (gX6_toldLines q s) := by
  unfold gX6_toldLines
  exact wt_go [13] 29 fun R h => ⟨_, (wt_sQ hq), Or.inl ⟨_, _, (wt_q3 hq).1, ⟨trivial, sX6_toldLines_13 hq wt_N _ h⟩⟩⟩
