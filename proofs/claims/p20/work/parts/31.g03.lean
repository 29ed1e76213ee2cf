def gX11_runsEndless_67 (s : wt_S) (l3 : Int32) : Option (Int32 × wt_S) := (wt_rz l3 (wt_wr s 110 5 l3 fun s1 => (if (s1 111 3932) ≠ (3 : Int32) then some (0, s1) else some (1, s1))))
theorem sX11_runsEndless_67 {L d : Nat}    {s : wt_S} {l3 : Int32} {x1 x2 x4 : Option (mj_v Int32)} : wt_sd (wt_H L) wt_iv (d + 23) kX11_runsEndless (mj_drop 35 kX11_runsEndless) [some (.inr (some 110)), x1, x2, some (.inl l3), x4] [] s (gX11_runsEndless_67 s l3) := by
  unfold gX11_runsEndless_67
  exact wt_go1 [38, 67] 52 fun R h => ⟨_, wt_s110, wt_tz h fun h => have h := wt_tw h; ⟨_, wt_s110, ⟨_, wt_m111.1, 3932, ⟨rfl, by decide⟩, wt_tb h (fun h => ⟨Or.inl rfl, wt_tr (e := wt_iv) h⟩) (fun h => ⟨Or.inr rfl, wt_tr (e := wt_iv) h⟩)⟩⟩⟩
def gX11_runsEndless_38 : Nat → wt_S → Int32 → Int32 → Option (Int32 × wt_S)
  | 0, _, _, _ => none
  | n + 1, s, l3, l4 => (if (2000 : Int32).toInt ≤ l4.toInt then gX11_runsEndless_67 s l3 else (wt_cl (gX11_isBusy s 6) fun v2 s1 => (if v2 = (0 : Int32) then gX11_runsEndless_67 s1 l3 else (wt_cl (gX11_steps (fun _ _ _ => none) s1 6) fun _ s3 => gX11_runsEndless_38 n s3 l3 (l4 + 1)))))
theorem sX11_runsEndless_38 {L d : Nat}    : ∀ (n : Nat) {s : wt_S} {l3 : Int32} {l4 : Int32} {x1 x2 : Option (mj_v Int32)}, wt_sd (wt_H L) wt_iv (d + 23) kX11_runsEndless (mj_drop 23 kX11_runsEndless) [some (.inr (some 110)), x1, x2, some (.inl l3), some (.inl l4)] [] s (gX11_runsEndless_38 n s l3 l4) := by
  intro n
  induction n with
  | zero =>
    intro s l3 l4 x1 x2
    exact fun R h => wt_tn h
  | succ n ih =>
    intro s l3 l4 x1 x2
    unfold gX11_runsEndless_38
    exact wt_go1 [38, 67] 52 fun R h => wt_tb h (fun h => ⟨trivial, sX11_runsEndless_67 _ h⟩) (fun h => ⟨_, wt_s110, _, _, rfl, jX11_isBusy, wt_tc h (sX11_isBusy) fun v2 s1 h => wt_tb h (fun h => ⟨trivial, sX11_runsEndless_67 _ h⟩) (fun h => ⟨_, wt_s110, _, _, rfl, jX11_steps, wt_tc h (sX11_steps (fun R h => wt_tn h)) fun _ s3 h => ⟨trivial, ih  _ h⟩⟩)⟩)
def gX11_runsEndless (s : wt_S) (i1 i2 : Int32) : Option (Int32 × wt_S) := (wt_wr s 110 5 1 fun s1 => (wt_cl (gX11_clears s1 6) fun _ s2 => (wt_wr s2 111 3932 1 fun s3 => (wt_cl (gX11_calls s3 6 i1 0 (-1) i2) fun _ s4 => gX11_runsEndless_38 wt_N s4 (s 110 5) 0))))
theorem sX11_runsEndless {L d : Nat}   {s : wt_S} {i1 i2 : Int32} : wt_sd (wt_H L) wt_iv (d + 23) kX11_runsEndless kX11_runsEndless (mj_ent 5 [.inr (some 110), .inl i1, .inl i2]) [] s (gX11_runsEndless s i1 i2) := by
  unfold gX11_runsEndless
  exact wt_go [38, 67] 52 fun R h => ⟨_, wt_s110, ⟨_, wt_s110, Or.inr rfl, have h := wt_tw h; ⟨_, wt_s110, _, _, rfl, jX11_clears, wt_tc h (sX11_clears) fun _ s2 h => ⟨_, wt_s110, ⟨_, wt_m111, 3932, ⟨rfl, by decide⟩, have h := wt_tw h; ⟨_, wt_s110, _, _, rfl, jX11_calls, wt_tc h (sX11_calls) fun _ s4 h => ⟨trivial, sX11_runsEndless_38 wt_N _ h⟩⟩⟩⟩⟩⟩⟩
def gX9_tasksThatAre_42 (b : Nat) (K14 : wt_S → Int32 → Int32 → Int32 → Int32 → Option (Int32 × wt_S)) (s : wt_S) (l1 : Int32) (l4 : Int32) (l5 : Int32) (z0 : Int32) (z1 : Int32) : Option (Int32 × wt_S) := K14 s l1 (z0 + z1) l4 (l5 + 1)
theorem sX9_tasksThatAre_42 {L d : Nat} {b : Nat} {K14 : wt_S → Int32 → Int32 → Int32 → Int32 → Option (Int32 × wt_S)} (hb : wt_B b) (hK14 : ∀ {s : wt_S} {l1 : Int32} {l2 : Int32} {l4 : Int32} {l5 : Int32} {x0 x6 : Option (mj_v Int32)}, wt_sd (wt_H L) wt_iv d kX9_tasksThatAre (mj_drop 10 kX9_tasksThatAre) [x0, some (.inl l1), some (.inl l2), some (.inr (some (b + 10))), some (.inl l4), some (.inl l5), x6] [] s (K14 s l1 l2 l4 l5)) {s : wt_S} {l1 : Int32} {l4 : Int32} {l5 : Int32} {z0 : Int32} {z1 : Int32} {x0 x2 x6 : Option (mj_v Int32)} : wt_sd (wt_H L) wt_iv d kX9_tasksThatAre (mj_drop 25 kX9_tasksThatAre) [x0, some (.inl l1), x2, some (.inr (some (b + 10))), some (.inl l4), some (.inl l5), x6] [.inl z1, .inl z0] s (gX9_tasksThatAre_42 b K14 s l1 l4 l5 z0 z1) := by
  unfold gX9_tasksThatAre_42
  exact wt_go1 [14, 42] 35 fun R h => ⟨trivial, hK14  _ h⟩
def gX9_tasksThatAre_14 (b : Nat) : Nat → wt_S → Int32 → Int32 → Int32 → Int32 → Option (Int32 × wt_S)
  | 0, _, _, _, _, _ => none
  | n + 1, s, l1, l2, l4, l5 => (if l4.toInt ≤ l5.toInt then some (l2, s) else (wt_ix l5 6 fun k1 => (if (s (b + 17 + 2 * k1) 1) ≠ l1 then gX9_tasksThatAre_42 b (gX9_tasksThatAre_14 b n) s l1 l4 l5 l2 0 else gX9_tasksThatAre_42 b (gX9_tasksThatAre_14 b n) s l1 l4 l5 l2 1)))
theorem sX9_tasksThatAre_14 {L d : Nat} {b : Nat}  (hb : wt_B b) : ∀ (n : Nat) {s : wt_S} {l1 : Int32} {l2 : Int32} {l4 : Int32} {l5 : Int32} {x0 x6 : Option (mj_v Int32)}, wt_sd (wt_H L) wt_iv d kX9_tasksThatAre (mj_drop 10 kX9_tasksThatAre) [x0, some (.inl l1), some (.inl l2), some (.inr (some (b + 10))), some (.inl l4), some (.inl l5), x6] [] s (gX9_tasksThatAre_14 b n s l1 l2 l4 l5) := by
  intro n
  induction n with
  | zero =>
    intro s l1 l2 l4 l5 x0 x6
    exact fun R h => wt_tn h
  | succ n ih =>
    intro s l1 l2 l4 l5 x0 x6
    unfold gX9_tasksThatAre_14
    exact wt_go1 [14, 42] 35 fun R h => wt_tb h (fun h => wt_tr (e := wt_iv) h) (fun h => ⟨_, _, wt_r10 (wt_BC hb), wt_ty h fun k1 hk1 h => ⟨_, if_pos hk1, ⟨_, (wt_sT (wt_Tk (wt_BC hb) hk1)), wt_tb h (fun h => ⟨trivial, sX9_tasksThatAre_42 hb ih _ h⟩) (fun h => ⟨trivial, sX9_tasksThatAre_42 hb ih _ h⟩)⟩⟩⟩)
def gX9_tasksThatAre (b : Nat) (s : wt_S) (i1 : Int32) : Option (Int32 × wt_S) := gX9_tasksThatAre_14 b wt_N s i1 0 6 0
theorem sX9_tasksThatAre {L d : Nat} {b : Nat} (hb : wt_B b) {s : wt_S} {i1 : Int32} : wt_sd (wt_H L) wt_iv d kX9_tasksThatAre kX9_tasksThatAre (mj_ent 7 [.inr (some (wt_wo b)), .inl i1]) [] s (gX9_tasksThatAre b s i1) := by
  unfold gX9_tasksThatAre
  exact wt_go [14, 42] 35 fun R h => ⟨_, (wt_sWorldB hb), Or.inr ⟨_, _, wt_r10 (wt_BC hb), ⟨trivial, sX9_tasksThatAre_14 hb wt_N _ h⟩⟩⟩
def gX9_busy (b : Nat) (s : wt_S) : Option (Int32 × wt_S) := (wt_cl (gX9_tasksThatAre b s 1) fun v2 s1 => (wt_cl (gX9_tasksThatAre b s1 2) fun v4 s3 => (if (v2 + v4).toInt ≤ (0 : Int32).toInt then some (0, s3) else some (1, s3))))
theorem sX9_busy {L d : Nat} {b : Nat} (hb : wt_B b) {s : wt_S}  : wt_sd (wt_H L) wt_iv (d + 1) kX9_busy kX9_busy (mj_ent 1 [.inr (some (wt_wo b))]) [] s (gX9_busy b s) := by
  unfold gX9_busy
  exact wt_go [] 16 fun R h => ⟨_, (wt_sWorldB hb), _, _, rfl, jX9_tasksThatAre, wt_tc h (sX9_tasksThatAre hb) fun v2 s1 h => ⟨_, (wt_sWorldB hb), _, _, rfl, jX9_tasksThatAre, wt_tc h (sX9_tasksThatAre hb) fun v4 s3 h => wt_tb h (fun h => ⟨Or.inl rfl, wt_tr (e := wt_iv) h⟩) (fun h => ⟨Or.inr rfl, wt_tr (e := wt_iv) h⟩)⟩⟩
def gX10_set (s : wt_S) (i1 i2 : Int32) : Option (Int32 × wt_S) := (wt_cl (gX9_busy 11 s) fun v2 s1 => (if v2 ≠ (0 : Int32) then some (0, s1) else (if i1.toInt < (0 : Int32).toInt then some (0, s1) else (if (6 : Int32).toInt ≤ i1.toInt then some (0, s1) else (wt_ix i1 6 fun k3 => (if i2.toInt < (s1 1 k3).toInt then some (0, s1) else (wt_ix i1 6 fun k4 => (if i2.toInt ≤ (s1 2 k4).toInt then (wt_ix i1 6 fun k6 => wt_wr s1 12 k6 i2 fun s5 => some (1, s5)) else some (0, s1)))))))))
theorem sX10_set {L d : Nat}   {s : wt_S} {i1 i2 : Int32} : wt_sd (wt_H L) wt_iv (d + 2) kX10_set kX10_set (mj_ent 3 [.inr (some 4), .inl i1, .inl i2]) [] s (gX10_set s i1 i2) := by
  unfold gX10_set
  exact wt_go [] 33 fun R h => ⟨_, wt_s4, ⟨_, (wt_sWorldB wt_B11), _, _, rfl, jX9_busy, wt_tc h (sX9_busy wt_B11) fun v2 s1 h => wt_tb h (fun h => ⟨Or.inl rfl, wt_tr (e := wt_iv) h⟩) (fun h => wt_tb h (fun h => ⟨Or.inl rfl, wt_tr (e := wt_iv) h⟩) (fun h => wt_tb h (fun h => ⟨Or.inl rfl, wt_tr (e := wt_iv) h⟩) (fun h => ⟨_, wt_o1, wt_tx h fun k3 h => wt_tb h (fun h => ⟨Or.inl rfl, wt_tr (e := wt_iv) h⟩) (fun h => ⟨_, wt_o2, wt_tx h fun k4 h => wt_tb h (fun h => ⟨_, wt_s4, ⟨_, (wt_sWorldB wt_B11), ⟨_, (wt_r1 wt_C11), wt_tx h fun k6 h => have h := wt_tw h; ⟨Or.inr rfl, wt_tr (e := wt_iv) h⟩⟩⟩⟩) (fun h => ⟨Or.inl rfl, wt_tr (e := wt_iv) h⟩)⟩)⟩)))⟩⟩
def gX10_isFunction (s : wt_S) (i1 : Int32) : Option (Int32 × wt_S) := (if i1.toInt < (0 : Int32).toInt then some (0, s) else (if (10 : Int32).toInt ≤ i1.toInt then some (0, s) else some (1, s)))
theorem sX10_isFunction {L d : Nat}   {s : wt_S} {i1 : Int32} : wt_sd (wt_H L) wt_iv d kX10_isFunction kX10_isFunction (mj_ent 1 [.inl i1]) [] s (gX10_isFunction s i1) := by
  unfold gX10_isFunction
  exact wt_go [] 13 fun R h => wt_tb h (fun h => ⟨Or.inl rfl, wt_tr (e := wt_iv) h⟩) (fun h => wt_tb h (fun h => ⟨Or.inl rfl, wt_tr (e := wt_iv) h⟩) (fun h => ⟨Or.inr rfl, wt_tr (e := wt_iv) h⟩))
def gX6_linesOf (q : Nat) (s : wt_S) (i1 : Int32) : Option (Int32 × wt_S) := (wt_cl (gX10_isFunction s i1) fun v2 s1 => (if v2 = (0 : Int32) then some (0, s1) else (wt_ix i1 10 fun k3 => some ((s1 (q + 3) k3), s1))))
theorem sX6_linesOf {L d : Nat} {q : Nat} (hq : wt_Q q) {s : wt_S} {i1 : Int32} : wt_sd (wt_H L) wt_iv (d + 1) kX6_linesOf kX6_linesOf (mj_ent 2 [.inr (some q), .inl i1]) [] s (gX6_linesOf q s i1) := by
  unfold gX6_linesOf
  exact wt_go [] 14 fun R h => ⟨_, _, rfl, jX10_isFunction, wt_tc h (sX10_isFunction) fun v2 s1 h => wt_tb h (fun h => wt_tr (e := wt_iv) h) (fun h => ⟨_, (wt_sQ hq), ⟨_, (wt_q3 hq).1, wt_tx h fun k3 h => wt_tr (e := wt_iv) h⟩⟩)⟩
def gX6_part (q : Nat) (s : wt_S) (i1 i2 i3 : Int32) : Option (Int32 × wt_S) := (if i1.toInt < (0 : Int32).toInt then some ((-1), s) else (if (10 : Int32).toInt ≤ i1.toInt then some ((-1), s) else (if i2.toInt < (0 : Int32).toInt then some ((-1), s) else (wt_ix i1 10 fun k1 => (if i2.toInt < (s (q + 3) k1).toInt then (if ((((i1 * 16) + i2) * 4) + i3).toInt < (0 : Int32).toInt then some ((-1), s) else (if (640 : Int32).toInt ≤ ((((i1 * 16) + i2) * 4) + i3).toInt then some ((-1), s) else (wt_ix ((((i1 * 16) + i2) * 4) + i3) 640 fun k2 => some ((s (q + 4) k2), s)))) else some ((-1), s))))))
theorem sX6_part {L d : Nat} {q : Nat} (hq : wt_Q q) {s : wt_S} {i1 i2 i3 : Int32} : wt_sd (wt_H L) wt_iv d kX6_part kX6_part (mj_ent 5 [.inr (some q), .inl i1, .inl i2, .inl i3]) [] s (gX6_part q s i1 i2 i3) := by
  unfold gX6_part
  exact wt_go [] 43 fun R h => wt_tb h (fun h => wt_tr (e := wt_iv) h) (fun h => wt_tb h (fun h => wt_tr (e := wt_iv) h) (fun h => wt_tb h (fun h => wt_tr (e := wt_iv) h) (fun h => ⟨_, (wt_sQ hq), ⟨_, (wt_q3 hq).1, wt_tx h fun k1 h => wt_tb h (fun h => wt_tb h (fun h => wt_tr (e := wt_iv) h) (fun h => ⟨_, (wt_sQ hq), Or.inl ⟨_, _, (wt_q4 hq).1, wt_tb h (fun h => wt_tr (e := wt_iv) h) (fun h => ⟨_, (wt_sQ hq), ⟨_, (wt_q4 hq).1, wt_tx h fun k2 h => wt_tr (e := wt_iv) h⟩⟩)⟩⟩)) (fun h => wt_tr (e := wt_iv) h)⟩⟩)))
def gX6_calledBy (q : Nat) (s : wt_S) (i1 i2 : Int32) : Option (Int32 × wt_S) := (wt_cl (gX6_part q s i1 i2 0) fun v2 s1 => (if v2 ≠ (6 : Int32) then (if v2 ≠ (9 : Int32) then some ((-1), s1) else (wt_cl (gX6_part q s1 i1 i2 2) fun v4 s3 => some (v4, s3))) else (wt_cl (gX6_part q s1 i1 i2 1) fun v6 s5 => some (v6, s5))))
theorem sX6_calledBy {L d : Nat} {q : Nat} (hq : wt_Q q) {s : wt_S} {i1 i2 : Int32} : wt_sd (wt_H L) wt_iv (d + 1) kX6_calledBy kX6_calledBy (mj_ent 4 [.inr (some q), .inl i1, .inl i2]) [] s (gX6_calledBy q s i1 i2) := by
  unfold gX6_calledBy
  exact wt_go [] 30 fun R h => ⟨_, (wt_sQ hq), _, _, rfl, jX6_part, wt_tc h (sX6_part hq) fun v2 s1 h => wt_tb h (fun h => wt_tb h (fun h => wt_tr (e := wt_iv) h) (fun h => ⟨_, (wt_sQ hq), _, _, rfl, jX6_part, wt_tc h (sX6_part hq) fun v4 s3 h => wt_tr (e := wt_iv) h⟩)) (fun h => ⟨_, (wt_sQ hq), _, _, rfl, jX6_part, wt_tc h (sX6_part hq) fun v6 s5 h => wt_tr (e := wt_iv) h⟩)⟩
def gX6_deepOf (q : Nat) (s : wt_S) (i1 : Int32) : Option (Int32 × wt_S) := (wt_cl (gX10_isFunction s i1) fun v2 s1 => (if v2 = (0 : Int32) then some (0, s1) else (wt_ix i1 10 fun k3 => some ((s1 (q + 5) k3), s1))))
theorem sX6_deepOf {L d : Nat} {q : Nat} (hq : wt_Q q) {s : wt_S} {i1 : Int32} : wt_sd (wt_H L) wt_iv (d + 1) kX6_deepOf kX6_deepOf (mj_ent 2 [.inr (some q), .inl i1]) [] s (gX6_deepOf q s i1) := by
  unfold gX6_deepOf
  exact wt_go [] 14 fun R h => ⟨_, _, rfl, jX10_isFunction, wt_tc h (sX10_isFunction) fun v2 s1 h => wt_tb h (fun h => wt_tr (e := wt_iv) h) (fun h => ⟨_, (wt_sQ hq), ⟨_, (wt_q5 hq).1, wt_tx h fun k3 h => wt_tr (e := wt_iv) h⟩⟩)⟩
def gJ9_max_7cf53 (s : wt_S) (i1 i2 : Int32) : Option (Int32 × wt_S) := (if i1.toInt < i2.toInt then some (i2, s) else some (i1, s))
theorem sJ9_max_7cf53 {L d : Nat}   {s : wt_S} {i1 i2 : Int32} : wt_sd (wt_H L) wt_iv d kJ9_max_7cf53 kJ9_max_7cf53 (mj_ent 2 [.inl i1, .inl i2]) [] s (gJ9_max_7cf53 s i1 i2) := by
  unfold gJ9_max_7cf53
  exact wt_go [] 11 fun R h => wt_tb h (fun h => wt_tr (e := wt_iv) h) (fun h => wt_tr (e := wt_iv) h)
def gX6_sizeOf (q : Nat) (s : wt_S) (i1 : Int32) : Option (Int32 × wt_S) := (if i1.toInt < (0 : Int32).toInt then some (0, s) else (if (10 : Int32).toInt ≤ i1.toInt then some (0, s) else (wt_ix i1 10 fun k1 => some ((s (q + 1) k1), s))))
theorem sX6_sizeOf {L d : Nat} {q : Nat} (hq : wt_Q q) {s : wt_S} {i1 : Int32} : wt_sd (wt_H L) wt_iv d kX6_sizeOf kX6_sizeOf (mj_ent 2 [.inr (some q), .inl i1]) [] s (gX6_sizeOf q s i1) := by
  unfold gX6_sizeOf
  exact wt_go [] 16 fun R h => wt_tb h (fun h => wt_tr (e := wt_iv) h) (fun h => wt_tb h (fun h => wt_tr (e := wt_iv) h) (fun h => ⟨_, (wt_sQ hq), ⟨_, (wt_q1 hq).1, wt_tx h fun k1 h => wt_tr (e := wt_iv) h⟩⟩))
def gX6_frameWords (q : Nat) (s : wt_S) (i1 : Int32) : Option (Int32 × wt_S) := (wt_cl (gX6_sizeOf q s i1) fun v2 s1 => some ((2 + v2), s1))
theorem sX6_frameWords {L d : Nat} {q : Nat} (hq : wt_Q q) {s : wt_S} {i1 : Int32} : wt_sd (wt_H L) wt_iv (d + 1) kX6_frameWords kX6_frameWords (mj_ent 2 [.inr (some q), .inl i1]) [] s (gX6_frameWords q s i1) := by
  unfold gX6_frameWords
  exact wt_go [] 10 fun R h => ⟨_, (wt_sQ hq), _, _, rfl, jX6_sizeOf, wt_tc h (sX6_sizeOf hq) fun v2 s1 h => wt_tr (e := wt_iv) h⟩
def gX6_deepByLines_4 (q : Nat) : Nat → wt_S → Int32 → Int32 → Int32 → Option (Int32 × wt_S)
  | 0, _, _, _, _ => none
  | n + 1, s, l1, l2, l3 => (wt_cl (gX6_linesOf q s l1) fun v2 s1 => (if v2.toInt ≤ l3.toInt then (wt_cl (gX6_frameWords q s1 l1) fun v4 s3 => some ((v4 + l2), s3)) else (wt_cl (gX6_calledBy q s1 l1 l3) fun v6 s5 => (wt_cl (gX6_deepOf q s5 v6) fun v8 s7 => (if v8 ≠ ((-2) : Int32) then (wt_cl (gJ9_max_7cf53 s7 l2 v8) fun v10 s9 => gX6_deepByLines_4 q n s9 l1 v10 (l3 + 1)) else some ((-2), s7))))))
theorem sX6_deepByLines_4 {L d : Nat} {q : Nat}  (hq : wt_Q q) : ∀ (n : Nat) {s : wt_S} {l1 : Int32} {l2 : Int32} {l3 : Int32} {x4 : Option (mj_v Int32)}, wt_sd (wt_H L) wt_iv (d + 2) kX6_deepByLines (mj_drop 4 kX6_deepByLines) [some (.inr (some q)), some (.inl l1), some (.inl l2), some (.inl l3), x4] [] s (gX6_deepByLines_4 q n s l1 l2 l3) := by
  intro n
  induction n with
  | zero =>
    intro s l1 l2 l3 x4
    exact fun R h => wt_tn h
  | succ n ih =>
    intro s l1 l2 l3 x4
    unfold gX6_deepByLines_4
    exact wt_go1 [4] 37 fun R h => ⟨_, (wt_sQ hq), _, _, rfl, jX6_linesOf, wt_tc h (sX6_linesOf hq) fun v2 s1 h => wt_tb h (fun h => ⟨_, (wt_sQ hq), _, _, rfl, jX6_frameWords, wt_tc h (sX6_frameWords hq) fun v4 s3 h => wt_tr (e := wt_iv) h⟩) (fun h => ⟨_, (wt_sQ hq), _, _, rfl, jX6_calledBy, wt_tc h (sX6_calledBy hq) fun v6 s5 h => ⟨_, (wt_sQ hq), _, _, rfl, jX6_deepOf, wt_tc h (sX6_deepOf hq) fun v8 s7 h => wt_tb h (fun h => ⟨_, _, rfl, jJ9_max_7cf53, wt_tc h (sJ9_max_7cf53) fun v10 s9 h => ⟨trivial, ih  _ h⟩⟩) (fun h => wt_tr (e := wt_iv) h)⟩⟩)⟩
def gX6_deepByLines (q : Nat) (s : wt_S) (i1 : Int32) : Option (Int32 × wt_S) := gX6_deepByLines_4 q wt_N s i1 0 0
theorem sX6_deepByLines {L d : Nat} {q : Nat} (hq : wt_Q q) {s : wt_S} {i1 : Int32} : wt_sd (wt_H L) wt_iv (d + 2) kX6_deepByLines kX6_deepByLines (mj_ent 5 [.inr (some q), .inl i1]) [] s (gX6_deepByLines q s i1) := by
  unfold gX6_deepByLines
  exact wt_go [4] 37 fun R h => ⟨trivial, sX6_deepByLines_4 hq wt_N _ h⟩
def gX6_findDeeps_28 (q : Nat) (K2 : wt_S → Int32 → Option (Unit × wt_S)) (s : wt_S) (l1 : Int32) (z1 : Int32) (z2 : Int32) : Option (Unit × wt_S) := (wt_ix z1 10 fun k2 => wt_wr s (q + 5) k2 z2 fun s1 => K2 s1 (l1 + 1))
theorem sX6_findDeeps_28 {L d : Nat} {q : Nat} {K2 : wt_S → Int32 → Option (Unit × wt_S)} (hq : wt_Q q) (hK2 : ∀ {s : wt_S} {l1 : Int32} {x2 : Option (mj_v Int32)}, wt_sd (wt_H L) wt_uv (d + 3) kX6_findDeeps (mj_drop 2 kX6_findDeeps) [some (.inr (some q)), some (.inl l1), x2] [] s (K2 s l1)) {s : wt_S} {l1 : Int32} {z1 : Int32} {z2 : Int32} {x2 : Option (mj_v Int32)} : wt_sd (wt_H L) wt_uv (d + 3) kX6_findDeeps (mj_drop 16 kX6_findDeeps) [some (.inr (some q)), some (.inl l1), x2] [.inl z2, .inl z1, .inr (some (q + 5))] s (gX6_findDeeps_28 q K2 s l1 z1 z2) := by
  unfold gX6_findDeeps_28
  exact wt_go1 [2, 28, 37, 45] 51 fun R h => ⟨_, (wt_q5 hq), wt_tx h fun k2 h => have h := wt_tw h; ⟨trivial, hK2  _ h⟩⟩
def gX6_findDeeps_45 (q : Nat) (K37 : wt_S → Int32 → Option (Unit × wt_S)) : Nat → wt_S → Int32 → Int32 → Option (Unit × wt_S)
  | 0, _, _, _ => none
  | n + 1, s, l1, l2 => (if (10 : Int32).toInt ≤ l2.toInt then K37 s (l1 + 1) else (wt_ix l2 10 fun k1 => (if (s (q + 5) k1) ≠ ((-2) : Int32) then gX6_findDeeps_45 q K37 n s l1 (l2 + 1) else (wt_cl (gX6_deepByLines q s l2) fun v3 s2 => (wt_ix l2 10 fun k5 => wt_wr s2 (q + 5) k5 v3 fun s4 => gX6_findDeeps_45 q K37 n s4 l1 (l2 + 1))))))
theorem sX6_findDeeps_45 {L d : Nat} {q : Nat} {K37 : wt_S → Int32 → Option (Unit × wt_S)} (hq : wt_Q q) (hK37 : ∀ {s : wt_S} {l1 : Int32} {x2 : Option (mj_v Int32)}, wt_sd (wt_H L) wt_uv (d + 3) kX6_findDeeps (mj_drop 21 kX6_findDeeps) [some (.inr (some q)), some (.inl l1), x2] [] s (K37 s l1)) : ∀ (n : Nat) {s : wt_S} {l1 : Int32} {l2 : Int32}, wt_sd (wt_H L) wt_uv (d + 3) kX6_findDeeps (mj_drop 26 kX6_findDeeps) [some (.inr (some q)), some (.inl l1), some (.inl l2)] [] s (gX6_findDeeps_45 q K37 n s l1 l2) := by
  intro n
  induction n with
  | zero =>
    intro s l1 l2
    exact fun R h => wt_tn h
  | succ n ih =>
    intro s l1 l2
    unfold gX6_findDeeps_45
    exact wt_go1 [2, 28, 37, 45] 51 fun R h => wt_tb h (fun h => ⟨trivial, hK37  _ h⟩) (fun h => ⟨_, (wt_sQ hq), ⟨_, (wt_q5 hq).1, wt_tx h fun k1 h => wt_tb h (fun h => ⟨trivial, ih  _ h⟩) (fun h => ⟨_, (wt_sQ hq), ⟨_, (wt_sQ hq), _, _, rfl, jX6_deepByLines, wt_tc h (sX6_deepByLines hq) fun v3 s2 h => ⟨_, (wt_q5 hq), wt_tx h fun k5 h => have h := wt_tw h; ⟨trivial, ih  _ h⟩⟩⟩⟩)⟩⟩)
def gX6_findDeeps_37 (q : Nat) : Nat → wt_S → Int32 → Option (Unit × wt_S)
  | 0, _, _ => none
  | n + 1, s, l1 => (if (10 : Int32).toInt ≤ l1.toInt then some ((), s) else gX6_findDeeps_45 q (gX6_findDeeps_37 q n) wt_N s l1 0)
theorem sX6_findDeeps_37 {L d : Nat} {q : Nat}  (hq : wt_Q q) : ∀ (n : Nat) {s : wt_S} {l1 : Int32} {x2 : Option (mj_v Int32)}, wt_sd (wt_H L) wt_uv (d + 3) kX6_findDeeps (mj_drop 21 kX6_findDeeps) [some (.inr (some q)), some (.inl l1), x2] [] s (gX6_findDeeps_37 q n s l1) := by
  intro n
  induction n with
  | zero =>
    intro s l1 x2
    exact fun R h => wt_tn h
  | succ n ih =>
    intro s l1 x2
    unfold gX6_findDeeps_37
    exact wt_go1 [2, 28, 37, 45] 51 fun R h => wt_tb h (fun h => wt_tr (e := wt_uv) h) (fun h => ⟨trivial, sX6_findDeeps_45 hq ih wt_N _ h⟩)
def gX6_findDeeps_2 (q : Nat) : Nat → wt_S → Int32 → Option (Unit × wt_S)
  | 0, _, _ => none
  | n + 1, s, l1 => (if (10 : Int32).toInt ≤ l1.toInt then gX6_findDeeps_37 q wt_N s 0 else (wt_ix l1 10 fun k1 => (if (s (q + 1) k1).toInt ≤ (0 : Int32).toInt then gX6_findDeeps_28 q (gX6_findDeeps_2 q n) s l1 l1 0 else gX6_findDeeps_28 q (gX6_findDeeps_2 q n) s l1 l1 (-2))))
theorem sX6_findDeeps_2 {L d : Nat} {q : Nat}  (hq : wt_Q q) : ∀ (n : Nat) {s : wt_S} {l1 : Int32} {x2 : Option (mj_v Int32)}, wt_sd (wt_H L) wt_uv (d + 3) kX6_findDeeps (mj_drop 2 kX6_findDeeps) [some (.inr (some q)), some (.inl l1), x2] [] s (gX6_findDeeps_2 q n s l1) := by
  intro n
  induction n with
  | zero =>
    intro s l1 x2
    exact fun R h => wt_tn h
  | succ n ih =>
    intro s l1 x2
    unfold gX6_findDeeps_2
    exact wt_go1 [2, 28, 37, 45] 51 fun R h => wt_tb h (fun h => ⟨trivial, sX6_findDeeps_37 hq wt_N _ h⟩) (fun h => ⟨_, (wt_sQ hq), ⟨_, (wt_sQ hq), ⟨_, (wt_q1 hq).1, wt_tx h fun k1 h => wt_tb h (fun h => ⟨trivial, sX6_findDeeps_28 hq ih _ h⟩) (fun h => ⟨trivial, sX6_findDeeps_28 hq ih _ h⟩)⟩⟩⟩)
def gX6_findDeeps (q : Nat) (s : wt_S) : Option (Unit × wt_S) := gX6_findDeeps_2 q wt_N s 0
theorem sX6_findDeeps {L d : Nat} {q : Nat} (hq : wt_Q q) {s : wt_S}  : wt_sd (wt_H L) wt_uv (d + 3) kX6_findDeeps kX6_findDeeps (mj_ent 3 [.inr (some q)]) [] s (gX6_findDeeps q s) := by
  unfold gX6_findDeeps
  exact wt_go [2, 28, 37, 45] 51 fun R h => ⟨trivial, sX6_findDeeps_2 hq wt_N _ h⟩
def gX6_tell (q : Nat) (s : wt_S) (i1 i2 i3 : Int32) : Option (Unit × wt_S) := (wt_cl (gX10_isFunction s i1) fun v2 s1 => (if v2 ≠ (0 : Int32) then (wt_ix i1 10 fun k4 => wt_wr s1 (q + 1) k4 i2 fun s3 => (wt_ix i1 10 fun k6 => wt_wr s3 (q + 2) k6 i3 fun s5 => (wt_ix i1 10 fun k8 => wt_wr s5 (q + 3) k8 0 fun s7 => (wt_cl (gX6_findDeeps q s7) fun _ s9 => some ((), s9))))) else some ((), s1)))
theorem sX6_tell {L d : Nat} {q : Nat} (hq : wt_Q q) {s : wt_S} {i1 i2 i3 : Int32} : wt_sd (wt_H L) wt_uv (d + 4) kX6_tell kX6_tell (mj_ent 4 [.inr (some q), .inl i1, .inl i2, .inl i3]) [] s (gX6_tell q s i1 i2 i3) := by
  unfold gX6_tell
  exact wt_go [] 26 fun R h => ⟨_, _, rfl, jX10_isFunction, wt_tc h (sX10_isFunction) fun v2 s1 h => wt_tb h (fun h => ⟨_, (wt_sQ hq), ⟨_, (wt_q1 hq), wt_tx h fun k4 h => have h := wt_tw h; ⟨_, (wt_sQ hq), ⟨_, (wt_q2 hq), wt_tx h fun k6 h => have h := wt_tw h; ⟨_, (wt_sQ hq), ⟨_, (wt_q3 hq), wt_tx h fun k8 h => have h := wt_tw h; ⟨_, (wt_sQ hq), _, _, rfl, jX6_findDeeps, wt_tc h (sX6_findDeeps hq) fun _ s9 h => wt_tr (e := wt_uv) h⟩⟩⟩⟩⟩⟩⟩) (fun h => wt_tr (e := wt_uv) h)⟩
def gX10_function (s : wt_S) (i1 i2 i3 : Int32) : Option (Int32 × wt_S) := (wt_cl (gX9_busy 11 s) fun v2 s1 => (if v2 ≠ (0 : Int32) then some (0, s1) else (wt_cl (gX10_isFunction s1 i1) fun v4 s3 => (if v4 = (0 : Int32) then some (0, s3) else (if i2.toInt < (0 : Int32).toInt then some (0, s3) else (if i2.toInt ≤ (8 : Int32).toInt then (if i3.toInt < (0 : Int32).toInt then some (0, s3) else (if i3.toInt < (1 <<< (i2 &&& 31)).toInt then (wt_cl (gX6_tell 5 s3 i1 i2 i3) fun _ s5 => some (1, s5)) else some (0, s3))) else some (0, s3)))))))
theorem sX10_function {L d : Nat}   {s : wt_S} {i1 i2 i3 : Int32} : wt_sd (wt_H L) wt_iv (d + 5) kX10_function kX10_function (mj_ent 4 [.inr (some 4), .inl i1, .inl i2, .inl i3]) [] s (gX10_function s i1 i2 i3) := by
  unfold gX10_function
  exact wt_go [] 36 fun R h => ⟨_, wt_s4, ⟨_, (wt_sWorldB wt_B11), _, _, rfl, jX9_busy, wt_tc h (sX9_busy wt_B11) fun v2 s1 h => wt_tb h (fun h => ⟨Or.inl rfl, wt_tr (e := wt_iv) h⟩) (fun h => ⟨_, _, rfl, jX10_isFunction, wt_tc h (sX10_isFunction) fun v4 s3 h => wt_tb h (fun h => ⟨Or.inl rfl, wt_tr (e := wt_iv) h⟩) (fun h => wt_tb h (fun h => ⟨Or.inl rfl, wt_tr (e := wt_iv) h⟩) (fun h => wt_tb h (fun h => wt_tb h (fun h => ⟨Or.inl rfl, wt_tr (e := wt_iv) h⟩) (fun h => wt_tb h (fun h => ⟨_, wt_s4, ⟨_, (wt_sWorldB wt_B11), ⟨_, (wt_sQ wt_Q5), _, _, rfl, jX6_tell, wt_tc h (sX6_tell wt_Q5) fun _ s5 h => ⟨Or.inr rfl, wt_tr (e := wt_iv) h⟩⟩⟩⟩) (fun h => ⟨Or.inl rfl, wt_tr (e := wt_iv) h⟩))) (fun h => ⟨Or.inl rfl, wt_tr (e := wt_iv) h⟩)))⟩)⟩⟩
def gX6_told (q : Nat) (s : wt_S) (i1 : Int32) : Option (Int32 × wt_S) := (wt_cl (gX6_sizeOf q s i1) fun v2 s1 => (if v2.toInt ≤ (0 : Int32).toInt then some (0, s1) else some (1, s1)))
theorem sX6_told {L d : Nat} {q : Nat} (hq : wt_Q q) {s : wt_S} {i1 : Int32} : wt_sd (wt_H L) wt_iv (d + 1) kX6_told kX6_told (mj_ent 2 [.inr (some q), .inl i1]) [] s (gX6_told q s i1) := by
  unfold gX6_told
  exact wt_go [] 12 fun R h => ⟨_, (wt_sQ hq), _, _, rfl, jX6_sizeOf, wt_tc h (sX6_sizeOf hq) fun v2 s1 h => wt_tb h (fun h => ⟨Or.inl rfl, wt_tr (e := wt_iv) h⟩) (fun h => ⟨Or.inr rfl, wt_tr (e := wt_iv) h⟩)⟩
def gX6_hasSlot (q : Nat) (s : wt_S) (i1 i2 : Int32) : Option (Int32 × wt_S) := (if i2.toInt < (0 : Int32).toInt then some (0, s) else (wt_cl (gX6_sizeOf q s i1) fun v2 s1 => (if v2.toInt ≤ i2.toInt then some (0, s1) else some (1, s1))))
theorem sX6_hasSlot {L d : Nat} {q : Nat} (hq : wt_Q q) {s : wt_S} {i1 i2 : Int32} : wt_sd (wt_H L) wt_iv (d + 1) kX6_hasSlot kX6_hasSlot (mj_ent 3 [.inr (some q), .inl i1, .inl i2]) [] s (gX6_hasSlot q s i1 i2) := by
  unfold gX6_hasSlot
  exact wt_go [] 15 fun R h => wt_tb h (fun h => ⟨Or.inl rfl, wt_tr (e := wt_iv) h⟩) (fun h => ⟨_, (wt_sQ hq), _, _, rfl, jX6_sizeOf, wt_tc h (sX6_sizeOf hq) fun v2 s1 h => wt_tb h (fun h => ⟨Or.inl rfl, wt_tr (e := wt_iv) h⟩) (fun h => ⟨Or.inr rfl, wt_tr (e := wt_iv) h⟩)⟩)
def gX6_isPointer (q : Nat) (s : wt_S) (i1 i2 : Int32) : Option (Int32 × wt_S) := (if i1.toInt < (0 : Int32).toInt then some (0, s) else (if (10 : Int32).toInt ≤ i1.toInt then some (0, s) else (wt_ix i1 10 fun k1 => (if (((s (q + 2) k1) >>> (i2 &&& 31)) &&& 1) ≠ (1 : Int32) then some (0, s) else some (1, s)))))
theorem sX6_isPointer {L d : Nat} {q : Nat} (hq : wt_Q q) {s : wt_S} {i1 i2 : Int32} : wt_sd (wt_H L) wt_iv d kX6_isPointer kX6_isPointer (mj_ent 3 [.inr (some q), .inl i1, .inl i2]) [] s (gX6_isPointer q s i1 i2) := by
  unfold gX6_isPointer
  exact wt_go [] 23 fun R h => wt_tb h (fun h => ⟨Or.inl rfl, wt_tr (e := wt_iv) h⟩) (fun h => wt_tb h (fun h => ⟨Or.inl rfl, wt_tr (e := wt_iv) h⟩) (fun h => ⟨_, (wt_sQ hq), ⟨_, (wt_q2 hq).1, wt_tx h fun k1 h => wt_tb h (fun h => ⟨Or.inl rfl, wt_tr (e := wt_iv) h⟩) (fun h => ⟨Or.inr rfl, wt_tr (e := wt_iv) h⟩)⟩⟩))
def gX6_hasNumber (q : Nat) (s : wt_S) (i1 i2 : Int32) : Option (Int32 × wt_S) := (wt_cl (gX6_hasSlot q s i1 i2) fun v2 s1 => (if v2 = (0 : Int32) then some (0, s1) else (wt_cl (gX6_isPointer q s1 i1 i2) fun v4 s3 => (if v4 ≠ (0 : Int32) then some (0, s3) else some (1, s3)))))
theorem sX6_hasNumber {L d : Nat} {q : Nat} (hq : wt_Q q) {s : wt_S} {i1 i2 : Int32} : wt_sd (wt_H L) wt_iv (d + 2) kX6_hasNumber kX6_hasNumber (mj_ent 3 [.inr (some q), .inl i1, .inl i2]) [] s (gX6_hasNumber q s i1 i2) := by
  unfold gX6_hasNumber
  exact wt_go [] 18 fun R h => ⟨_, (wt_sQ hq), _, _, rfl, jX6_hasSlot, wt_tc h (sX6_hasSlot hq) fun v2 s1 h => wt_tb h (fun h => ⟨Or.inl rfl, wt_tr (e := wt_iv) h⟩) (fun h => ⟨_, (wt_sQ hq), _, _, rfl, jX6_isPointer, wt_tc h (sX6_isPointer hq) fun v4 s3 h => wt_tb h (fun h => ⟨Or.inl rfl, wt_tr (e := wt_iv) h⟩) (fun h => ⟨Or.inr rfl, wt_tr (e := wt_iv) h⟩)⟩)⟩
def gX6_hasPointer (q : Nat) (s : wt_S) (i1 i2 : Int32) : Option (Int32 × wt_S) := (wt_cl (gX6_hasSlot q s i1 i2) fun v2 s1 => (if v2 = (0 : Int32) then some (0, s1) else (wt_cl (gX6_isPointer q s1 i1 i2) fun v4 s3 => (if v4 = (0 : Int32) then some (0, s3) else some (1, s3)))))
theorem sX6_hasPointer {L d : Nat} {q : Nat} (hq : wt_Q q) {s : wt_S} {i1 i2 : Int32} : wt_sd (wt_H L) wt_iv (d + 2) kX6_hasPointer kX6_hasPointer (mj_ent 3 [.inr (some q), .inl i1, .inl i2]) [] s (gX6_hasPointer q s i1 i2) := by
  unfold gX6_hasPointer
  exact wt_go [] 18 fun R h => ⟨_, (wt_sQ hq), _, _, rfl, jX6_hasSlot, wt_tc h (sX6_hasSlot hq) fun v2 s1 h => wt_tb h (fun h => ⟨Or.inl rfl, wt_tr (e := wt_iv) h⟩) (fun h => ⟨_, (wt_sQ hq), _, _, rfl, jX6_isPointer, wt_tc h (sX6_isPointer hq) fun v4 s3 h => wt_tb h (fun h => ⟨Or.inl rfl, wt_tr (e := wt_iv) h⟩) (fun h => ⟨Or.inr rfl, wt_tr (e := wt_iv) h⟩)⟩)⟩
def gX6_allows_289 (q : Nat) (s : wt_S) (l1 : Int32) (l5 : Int32) : Option (Int32 × wt_S) := (wt_cl (gX6_hasNumber q s l1 l5) fun v2 s1 => (if v2 = (0 : Int32) then some (0, s1) else some (1, s1)))
theorem sX6_allows_289 {L d : Nat} {q : Nat}  (hq : wt_Q q) {s : wt_S} {l1 : Int32} {l5 : Int32} {x2 x3 x4 : Option (mj_v Int32)} : wt_sd (wt_H L) wt_iv (d + 3) kX6_allows (mj_drop 126 kX6_allows) [some (.inr (some q)), some (.inl l1), x2, x3, x4, some (.inl l5)] [] s (gX6_allows_289 q s l1 l5) := by
  unfold gX6_allows_289
  exact wt_go1 [289] 146 fun R h => ⟨_, (wt_sQ hq), _, _, rfl, jX6_hasNumber, wt_tc h (sX6_hasNumber hq) fun v2 s1 h => wt_tb h (fun h => ⟨Or.inl rfl, wt_tr (e := wt_iv) h⟩) (fun h => ⟨Or.inr rfl, wt_tr (e := wt_iv) h⟩)⟩
def gX6_allows (q : Nat) (s : wt_S) (i1 i2 i3 i4 i5 : Int32) : Option (Int32 × wt_S) := (if i2.toInt < 0 ∨ 9 < i2.toInt then (if i2 ≠ (10 : Int32) then some (0, s) else some (1, s)) else (if i2.toInt = 0 then (wt_cl (gX6_hasNumber q s i1 i3) fun v2 s1 => (if v2 = (0 : Int32) then some (0, s1) else (if i4.toInt < ((-999) : Int32).toInt then some (0, s1) else (if (999 : Int32).toInt < i4.toInt then some (0, s1) else some (1, s1))))) else (if i2.toInt = 1 then (wt_cl (gX6_hasNumber q s i1 i3) fun v4 s3 => (if v4 = (0 : Int32) then some (0, s3) else (wt_cl (gX6_hasNumber q s3 i1 i4) fun v6 s5 => (if v6 = (0 : Int32) then some (0, s5) else (wt_cl (gX6_hasNumber q s5 i1 i5) fun v8 s7 => (if v8 = (0 : Int32) then some (0, s7) else some (1, s7))))))) else (if i2.toInt = 2 then (wt_cl (gX6_hasNumber q s i1 i3) fun v10 s9 => (if v10 = (0 : Int32) then some (0, s9) else (wt_cl (gX6_hasNumber q s9 i1 i4) fun v12 s11 => (if v12 = (0 : Int32) then some (0, s11) else (wt_cl (gX6_hasNumber q s11 i1 i5) fun v14 s13 => (if v14 = (0 : Int32) then some (0, s13) else some (1, s13))))))) else (if i2.toInt = 3 then (wt_cl (gX6_hasPointer q s i1 i3) fun v16 s15 => (if v16 = (0 : Int32) then some (0, s15) else (wt_cl (gX6_hasNumber q s15 i1 i4) fun v18 s17 => (if v18 = (0 : Int32) then some (0, s17) else some (1, s17))))) else (if i2.toInt = 4 then (wt_cl (gX6_hasNumber q s i1 i3) fun v20 s19 => (if v20 = (0 : Int32) then some (0, s19) else (wt_cl (gX6_hasPointer q s19 i1 i4) fun v22 s21 => (if v22 = (0 : Int32) then some (0, s21) else some (1, s21))))) else (if i2.toInt = 5 then (wt_cl (gX6_hasPointer q s i1 i3) fun v24 s23 => (if v24 = (0 : Int32) then some (0, s23) else (wt_cl (gX6_hasNumber q s23 i1 i4) fun v26 s25 => (if v26 = (0 : Int32) then some (0, s25) else some (1, s25))))) else (if i2.toInt = 6 then (wt_cl (gX10_isFunction s i3) fun v28 s27 => (if v28 = (0 : Int32) then some (0, s27) else (wt_cl (gX6_hasSlot q s27 i1 i4) fun v30 s29 => (if v30 = (0 : Int32) then some (0, s29) else (wt_cl (gX6_hasNumber q s29 i1 i5) fun v32 s31 => (if v32 = (0 : Int32) then some (0, s31) else some (1, s31))))))) else (if i2.toInt = 7 then (wt_cl (gX6_hasNumber q s i1 i3) fun v34 s33 => (if v34 = (0 : Int32) then some (0, s33) else (if i4.toInt < (0 : Int32).toInt then some (0, s33) else (if (16 : Int32).toInt ≤ i4.toInt then some (0, s33) else some (1, s33))))) else (if i2.toInt = 8 then (wt_cl (gX6_hasNumber q s i1 i3) fun v36 s35 => wt_rz v36 (some (v36, s35))) else (if i2.toInt = 9 then (if i3.toInt < (1 : Int32).toInt then some (0, s) else (if (40 : Int32).toInt < i3.toInt then some (0, s) else (if i4 = ((-1) : Int32) then gX6_allows_289 q s i1 i5 else (wt_cl (gX10_isFunction s i4) fun v38 s37 => (if v38 = (0 : Int32) then some (0, s37) else gX6_allows_289 q s37 i1 i5))))) else none)))))))))))
theorem sX6_allows {L d : Nat} {q : Nat} (hq : wt_Q q) {s : wt_S} {i1 i2 i3 i4 i5 : Int32} : wt_sd (wt_H L) wt_iv (d + 3) kX6_allows kX6_allows (mj_ent 6 [.inr (some q), .inl i1, .inl i2, .inl i3, .inl i4, .inl i5]) [] s (gX6_allows q s i1 i2 i3 i4 i5) := by
  unfold gX6_allows
  exact wt_go [289] 146 fun R h => wt_s0 h (fun h => wt_tb h (fun h => ⟨Or.inl rfl, wt_tr (e := wt_iv) h⟩) (fun h => ⟨Or.inr rfl, wt_tr (e := wt_iv) h⟩)) (fun h => wt_s1 h (fun e => by omega) (fun h => ⟨_, (wt_sQ hq), _, _, rfl, jX6_hasNumber, wt_tc h (sX6_hasNumber hq) fun v2 s1 h => wt_tb h (fun h => ⟨Or.inl rfl, wt_tr (e := wt_iv) h⟩) (fun h => wt_tb h (fun h => ⟨Or.inl rfl, wt_tr (e := wt_iv) h⟩) (fun h => wt_tb h (fun h => ⟨Or.inl rfl, wt_tr (e := wt_iv) h⟩) (fun h => ⟨Or.inr rfl, wt_tr (e := wt_iv) h⟩)))⟩) (fun h => wt_s1 h (fun e => by omega) (fun h => ⟨_, (wt_sQ hq), _, _, rfl, jX6_hasNumber, wt_tc h (sX6_hasNumber hq) fun v4 s3 h => wt_tb h (fun h => ⟨Or.inl rfl, wt_tr (e := wt_iv) h⟩) (fun h => ⟨_, (wt_sQ hq), _, _, rfl, jX6_hasNumber, wt_tc h (sX6_hasNumber hq) fun v6 s5 h => wt_tb h (fun h => ⟨Or.inl rfl, wt_tr (e := wt_iv) h⟩) (fun h => ⟨_, (wt_sQ hq), _, _, rfl, jX6_hasNumber, wt_tc h (sX6_hasNumber hq) fun v8 s7 h => wt_tb h (fun h => ⟨Or.inl rfl, wt_tr (e := wt_iv) h⟩) (fun h => ⟨Or.inr rfl, wt_tr (e := wt_iv) h⟩)⟩)⟩)⟩) (fun h => wt_s1 h (fun e => by omega) (fun h => ⟨_, (wt_sQ hq), _, _, rfl, jX6_hasNumber, wt_tc h (sX6_hasNumber hq) fun v10 s9 h => wt_tb h (fun h => ⟨Or.inl rfl, wt_tr (e := wt_iv) h⟩) (fun h => ⟨_, (wt_sQ hq), _, _, rfl, jX6_hasNumber, wt_tc h (sX6_hasNumber hq) fun v12 s11 h => wt_tb h (fun h => ⟨Or.inl rfl, wt_tr (e := wt_iv) h⟩) (fun h => ⟨_, (wt_sQ hq), _, _, rfl, jX6_hasNumber, wt_tc h (sX6_hasNumber hq) fun v14 s13 h => wt_tb h (fun h => ⟨Or.inl rfl, wt_tr (e := wt_iv) h⟩) (fun h => ⟨Or.inr rfl, wt_tr (e := wt_iv) h⟩)⟩)⟩)⟩) (fun h => wt_s1 h (fun e => by omega) (fun h => ⟨_, (wt_sQ hq), _, _, rfl, jX6_hasPointer, wt_tc h (sX6_hasPointer hq) fun v16 s15 h => wt_tb h (fun h => ⟨Or.inl rfl, wt_tr (e := wt_iv) h⟩) (fun h => ⟨_, (wt_sQ hq), _, _, rfl, jX6_hasNumber, wt_tc h (sX6_hasNumber hq) fun v18 s17 h => wt_tb h (fun h => ⟨Or.inl rfl, wt_tr (e := wt_iv) h⟩) (fun h => ⟨Or.inr rfl, wt_tr (e := wt_iv) h⟩)⟩)⟩) (fun h => wt_s1 h (fun e => by omega) (fun h => ⟨_, (wt_sQ hq), _, _, rfl, jX6_hasNumber, wt_tc h (sX6_hasNumber hq) fun v20 s19 h => wt_tb h (fun h => ⟨Or.inl rfl, wt_tr (e := wt_iv) h⟩) (fun h => ⟨_, (wt_sQ hq), _, _, rfl, jX6_hasPointer, wt_tc h (sX6_hasPointer hq) fun v22 s21 h => wt_tb h (fun h => ⟨Or.inl rfl, wt_tr (e := wt_iv) h⟩) (fun h => ⟨Or.inr rfl, wt_tr (e := wt_iv) h⟩)⟩)⟩) (fun h => wt_s1 h (fun e => by omega) (fun h => ⟨_, (wt_sQ hq), _, _, rfl, jX6_hasPointer, wt_tc h (sX6_hasPointer hq) fun v24 s23 h => wt_tb h (fun h => ⟨Or.inl rfl, wt_tr (e := wt_iv) h⟩) (fun h => ⟨_, (wt_sQ hq), _, _, rfl, jX6_hasNumber, wt_tc h (sX6_hasNumber hq) fun v26 s25 h => wt_tb h (fun h => ⟨Or.inl rfl, wt_tr (e := wt_iv) h⟩) (fun h => ⟨Or.inr rfl, wt_tr (e := wt_iv) h⟩)⟩)⟩) (fun h => wt_s1 h (fun e => by omega) (fun h => ⟨_, _, rfl, jX10_isFunction, wt_tc h (sX10_isFunction) fun v28 s27 h => wt_tb h (fun h => ⟨Or.inl rfl, wt_tr (e := wt_iv) h⟩) (fun h => ⟨_, (wt_sQ hq), _, _, rfl, jX6_hasSlot, wt_tc h (sX6_hasSlot hq) fun v30 s29 h => wt_tb h (fun h => ⟨Or.inl rfl, wt_tr (e := wt_iv) h⟩) (fun h => ⟨_, (wt_sQ hq), _, _, rfl, jX6_hasNumber, wt_tc h (sX6_hasNumber hq) fun v32 s31 h => wt_tb h (fun h => ⟨Or.inl rfl, wt_tr (e := wt_iv) h⟩) (fun h => ⟨Or.inr rfl, wt_tr (e := wt_iv) h⟩)⟩)⟩)⟩) (fun h => wt_s1 h (fun e => by omega) (fun h => ⟨_, (wt_sQ hq), _, _, rfl, jX6_hasNumber, wt_tc h (sX6_hasNumber hq) fun v34 s33 h => wt_tb h (fun h => ⟨Or.inl rfl, wt_tr (e := wt_iv) h⟩) (fun h => wt_tb h (fun h => ⟨Or.inl rfl, wt_tr (e := wt_iv) h⟩) (fun h => wt_tb h (fun h => ⟨Or.inl rfl, wt_tr (e := wt_iv) h⟩) (fun h => ⟨Or.inr rfl, wt_tr (e := wt_iv) h⟩)))⟩) (fun h => wt_s1 h (fun e => by omega) (fun h => ⟨_, (wt_sQ hq), _, _, rfl, jX6_hasNumber, wt_tc h (sX6_hasNumber hq) fun v36 s35 h => wt_tz h fun h => wt_tr (e := wt_iv) h⟩) (fun h => wt_s1 h (fun e => by omega) (fun h => wt_tb h (fun h => ⟨Or.inl rfl, wt_tr (e := wt_iv) h⟩) (fun h => wt_tb h (fun h => ⟨Or.inl rfl, wt_tr (e := wt_iv) h⟩) (fun h => wt_tb h (fun h => ⟨trivial, sX6_allows_289 hq _ h⟩) (fun h => ⟨_, _, rfl, jX10_isFunction, wt_tc h (sX10_isFunction) fun v38 s37 h => wt_tb h (fun h => ⟨Or.inl rfl, wt_tr (e := wt_iv) h⟩) (fun h => ⟨trivial, sX6_allows_289 hq _ h⟩)⟩)))) (fun h => trivial)))))))))))
def gX6_append_98 (q : Nat) (s : wt_S) (l6 : Int32) : Option (Int32 × wt_S) := (wt_cl (gX6_findDeeps q s) fun _ s1 => some (l6, s1))
theorem sX6_append_98 {L d : Nat} {q : Nat}  (hq : wt_Q q) {s : wt_S} {l6 : Int32} {x1 x2 x3 x4 x5 x7 : Option (mj_v Int32)} : wt_sd (wt_H L) wt_iv (d + 4) kX6_append (mj_drop 61 kX6_append) [some (.inr (some q)), x1, x2, x3, x4, x5, some (.inl l6), x7] [] s (gX6_append_98 q s l6) := by
  unfold gX6_append_98
  exact wt_go1 [98] 69 fun R h => ⟨_, (wt_sQ hq), _, _, rfl, jX6_findDeeps, wt_tc h (sX6_findDeeps hq) fun _ s1 h => wt_tr (e := wt_iv) h⟩
def gX6_append (q : Nat) (s : wt_S) (i1 i2 i3 i4 i5 : Int32) : Option (Int32 × wt_S) := (wt_cl (gX6_linesOf q s i1) fun v2 s1 => (wt_cl (gX10_isFunction s1 i1) fun v4 s3 => (if v4 = (0 : Int32) then some ((-1), s3) else (if v2.toInt < (16 : Int32).toInt then (wt_ix ((((i1 * 16) + v2) * 4) + 0) 640 fun k6 => wt_wr s3 (q + 4) k6 i2 fun s5 => (wt_ix ((((i1 * 16) + v2) * 4) + 1) 640 fun k8 => wt_wr s5 (q + 4) k8 i3 fun s7 => (wt_ix ((((i1 * 16) + v2) * 4) + 2) 640 fun k10 => wt_wr s7 (q + 4) k10 i4 fun s9 => (wt_ix ((((i1 * 16) + v2) * 4) + 3) 640 fun k12 => wt_wr s9 (q + 4) k12 i5 fun s11 => (wt_ix i1 10 fun k14 => wt_wr s11 (q + 3) k14 (v2 + 1) fun s13 => (if i2 = (6 : Int32) then gX6_append_98 q s13 v2 else (if i2 ≠ (9 : Int32) then some (v2, s13) else gX6_append_98 q s13 v2))))))) else some ((-1), s3)))))
theorem sX6_append {L d : Nat} {q : Nat} (hq : wt_Q q) {s : wt_S} {i1 i2 i3 i4 i5 : Int32} : wt_sd (wt_H L) wt_iv (d + 4) kX6_append kX6_append (mj_ent 8 [.inr (some q), .inl i1, .inl i2, .inl i3, .inl i4, .inl i5]) [] s (gX6_append q s i1 i2 i3 i4 i5) := by
  unfold gX6_append
  exact wt_go [98] 69 fun R h => ⟨_, (wt_sQ hq), _, _, rfl, jX6_linesOf, wt_tc h (sX6_linesOf hq) fun v2 s1 h => ⟨_, _, rfl, jX10_isFunction, wt_tc h (sX10_isFunction) fun v4 s3 h => wt_tb h (fun h => wt_tr (e := wt_iv) h) (fun h => wt_tb h (fun h => ⟨_, (wt_sQ hq), ⟨_, (wt_q4 hq), wt_tx h fun k6 h => have h := wt_tw h; ⟨_, (wt_sQ hq), ⟨_, (wt_q4 hq), wt_tx h fun k8 h => have h := wt_tw h; ⟨_, (wt_sQ hq), ⟨_, (wt_q4 hq), wt_tx h fun k10 h => have h := wt_tw h; ⟨_, (wt_sQ hq), ⟨_, (wt_q4 hq), wt_tx h fun k12 h => have h := wt_tw h; ⟨_, (wt_sQ hq), ⟨_, (wt_q3 hq), wt_tx h fun k14 h => have h := wt_tw h; wt_tb h (fun h => ⟨trivial, sX6_append_98 hq _ h⟩) (fun h => wt_tb h (fun h => wt_tr (e := wt_iv) h) (fun h => ⟨trivial, sX6_append_98 hq _ h⟩))⟩⟩⟩⟩⟩⟩⟩⟩⟩⟩) (fun h => wt_tr (e := wt_iv) h))⟩⟩
def gX10_line (s : wt_S) (i1 i2 i3 i4 i5 : Int32) : Option (Int32 × wt_S) := (wt_cl (gX9_busy 11 s) fun v2 s1 => (if v2 ≠ (0 : Int32) then some ((-1), s1) else (wt_cl (gX6_told 5 s1 i1) fun v4 s3 => (if v4 = (0 : Int32) then some ((-1), s3) else (wt_cl (gX6_allows 5 s3 i1 i2 i3 i4 i5) fun v6 s5 => (if v6 ≠ (0 : Int32) then (wt_cl (gX6_append 5 s5 i1 i2 i3 i4 i5) fun v8 s7 => some (v8, s7)) else some ((-1), s5)))))))
theorem sX10_line {L d : Nat}   {s : wt_S} {i1 i2 i3 i4 i5 : Int32} : wt_sd (wt_H L) wt_iv (d + 5) kX10_line kX10_line (mj_ent 6 [.inr (some 4), .inl i1, .inl i2, .inl i3, .inl i4, .inl i5]) [] s (gX10_line s i1 i2 i3 i4 i5) := by
  unfold gX10_line
  exact wt_go [] 36 fun R h => ⟨_, wt_s4, ⟨_, (wt_sWorldB wt_B11), _, _, rfl, jX9_busy, wt_tc h (sX9_busy wt_B11) fun v2 s1 h => wt_tb h (fun h => wt_tr (e := wt_iv) h) (fun h => ⟨_, wt_s4, ⟨_, (wt_sWorldB wt_B11), ⟨_, (wt_sQ wt_Q5), _, _, rfl, jX6_told, wt_tc h (sX6_told wt_Q5) fun v4 s3 h => wt_tb h (fun h => wt_tr (e := wt_iv) h) (fun h => ⟨_, wt_s4, ⟨_, (wt_sWorldB wt_B11), ⟨_, (wt_sQ wt_Q5), _, _, rfl, jX6_allows, wt_tc h (sX6_allows wt_Q5) fun v6 s5 h => wt_tb h (fun h => ⟨_, wt_s4, ⟨_, (wt_sWorldB wt_B11), ⟨_, (wt_sQ wt_Q5), _, _, rfl, jX6_append, wt_tc h (sX6_append wt_Q5) fun v8 s7 h => wt_tr (e := wt_iv) h⟩⟩⟩) (fun h => wt_tr (e := wt_iv) h)⟩⟩⟩)⟩⟩⟩)⟩⟩
def gX10_isTask (s : wt_S) (i1 : Int32) : Option (Int32 × wt_S) := (if i1.toInt < (0 : Int32).toInt then some (0, s) else (if (6 : Int32).toInt ≤ i1.toInt then some (0, s) else some (1, s)))
theorem sX10_isTask {L d : Nat}   {s : wt_S} {i1 : Int32} : wt_sd (wt_H L) wt_iv d kX10_isTask kX10_isTask (mj_ent 1 [.inl i1]) [] s (gX10_isTask s i1) := by
  unfold gX10_isTask
  exact wt_go [] 13 fun R h => wt_tb h (fun h => ⟨Or.inl rfl, wt_tr (e := wt_iv) h⟩) (fun h => wt_tb h (fun h => ⟨Or.inl rfl, wt_tr (e := wt_iv) h⟩) (fun h => ⟨Or.inr rfl, wt_tr (e := wt_iv) h⟩))
def gX7_on (t : Nat) (s : wt_S) : Option (Int32 × wt_S) := (if (s t 1) = (1 : Int32) then some (1, s) else (if (s t 1) ≠ (2 : Int32) then some (0, s) else some (1, s)))
theorem sX7_on {L d : Nat} {t : Nat} (ht : wt_T t) {s : wt_S}  : wt_sd (wt_H L) wt_iv d kX7_on kX7_on (mj_ent 1 [.inr (some t)]) [] s (gX7_on t s) := by
  unfold gX7_on
  exact wt_go [] 16 fun R h => ⟨_, (wt_sT ht), wt_tb h (fun h => ⟨Or.inr rfl, wt_tr (e := wt_iv) h⟩) (fun h => ⟨_, (wt_sT ht), wt_tb h (fun h => ⟨Or.inl rfl, wt_tr (e := wt_iv) h⟩) (fun h => ⟨Or.inr rfl, wt_tr (e := wt_iv) h⟩)⟩)⟩
def gX5_idAt (b : Nat) (s : wt_S) (i1 : Int32) : Option (Int32 × wt_S) := (if i1.toInt < (0 : Int32).toInt then some ((-1), s) else (if (s (b + 2) 7).toInt ≤ i1.toInt then some ((-1), s) else (if (256 : Int32).toInt ≤ i1.toInt then some ((-1), s) else (wt_ix i1 256 fun k1 => some ((s (b + 8) k1), s)))))
theorem sX5_idAt {L d : Nat} {b : Nat} (hb : wt_B b) {s : wt_S} {i1 : Int32} : wt_sd (wt_H L) wt_iv d kX5_idAt kX5_idAt (mj_ent 2 [.inr (some (b + 2)), .inl i1]) [] s (gX5_idAt b s i1) := by
  unfold gX5_idAt
  exact wt_go [] 20 fun R h => wt_tb h (fun h => wt_tr (e := wt_iv) h) (fun h => ⟨_, (wt_sPieces (wt_BC hb)), wt_tb h (fun h => wt_tr (e := wt_iv) h) (fun h => wt_tb h (fun h => wt_tr (e := wt_iv) h) (fun h => ⟨_, (wt_sPieces (wt_BC hb)), ⟨_, (wt_r8 (wt_BC hb)).1, wt_tx h fun k1 h => wt_tr (e := wt_iv) h⟩⟩))⟩)
