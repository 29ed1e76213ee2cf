def gX11_count (s : wt_S) (i1 : Int32) : Option (Int32 × wt_S) := (wt_cl (gX11_isIn s i1 0 11) fun v2 s1 => (if v2 = (0 : Int32) then some ((-1), s1) else (wt_ix (2054 + i1) 4073 fun k3 => some ((s1 111 k3), s1))))
theorem sX11_count {L d : Nat}   {s : wt_S} {i1 : Int32} : wt_sd (wt_H L) wt_iv (d + 1) kX11_count kX11_count (mj_ent 2 [.inr (some 110), .inl i1]) [] s (gX11_count s i1) := by
  unfold gX11_count
  exact wt_go [] 18 fun R h => ⟨_, _, rfl, jX11_isIn, wt_tc h (sX11_isIn) fun v2 s1 h => wt_tb h (fun h => wt_tr (e := wt_iv) h) (fun h => ⟨_, wt_s110, ⟨_, wt_m111.1, wt_tx h fun k3 h => wt_tr (e := wt_iv) h⟩⟩)⟩
def gX11_image_42 (s : wt_S) : Option (Int32 × wt_S) := (wt_wr s 110 4 1 fun s1 => some (1, s1))
theorem sX11_image_42 {L d : Nat}    {s : wt_S} {x1 : Option (mj_v Int32)} : wt_sd (wt_H L) wt_iv (d + 1) kX11_image (mj_drop 20 kX11_image) [some (.inr (some 110)), x1] [] s (gX11_image_42 s) := by
  unfold gX11_image_42
  exact wt_go1 [13, 42] 29 fun R h => ⟨_, wt_s110, Or.inr rfl, have h := wt_tw h; ⟨Or.inr rfl, wt_tr (e := wt_iv) h⟩⟩
def gX11_image_13 (s : wt_S) (l1 : Int32) : Option (Int32 × wt_S) := (if l1 = (0 : Int32) then (wt_cl (gX11_copies 113 4073 111 4073 s) fun _ s1 => gX11_image_42 s1) else (wt_cl (gX11_copies 111 4073 113 4073 s) fun _ s2 => gX11_image_42 s2))
theorem sX11_image_13 {L d : Nat}    {s : wt_S} {l1 : Int32} : wt_sd (wt_H L) wt_iv (d + 1) kX11_image (mj_drop 7 kX11_image) [some (.inr (some 110)), some (.inl l1)] [] s (gX11_image_13 s l1) := by
  unfold gX11_image_13
  exact wt_go1 [13, 42] 29 fun R h => wt_tb h (fun h => ⟨_, wt_s110, ⟨_, wt_s110, ⟨_, _, rfl, jX11_copies, wt_tc h (sX11_copies wt_m113 wt_m111) fun _ s1 h => ⟨trivial, sX11_image_42 _ h⟩⟩⟩⟩) (fun h => ⟨_, wt_s110, ⟨_, wt_s110, ⟨_, _, rfl, jX11_copies, wt_tc h (sX11_copies wt_m111 wt_m113) fun _ s2 h => ⟨trivial, sX11_image_42 _ h⟩⟩⟩⟩)
def gX11_image (s : wt_S) (i1 : Int32) : Option (Int32 × wt_S) := (if i1 ≠ (0 : Int32) then gX11_image_13 s i1 else (if (s 110 4) ≠ (0 : Int32) then gX11_image_13 s i1 else some (0, s)))
theorem sX11_image {L d : Nat}   {s : wt_S} {i1 : Int32} : wt_sd (wt_H L) wt_iv (d + 1) kX11_image kX11_image (mj_ent 2 [.inr (some 110), .inl i1]) [] s (gX11_image s i1) := by
  unfold gX11_image
  exact wt_go [13, 42] 29 fun R h => wt_tb h (fun h => ⟨trivial, sX11_image_13 _ h⟩) (fun h => ⟨_, wt_s110, wt_tb h (fun h => ⟨trivial, sX11_image_13 _ h⟩) (fun h => ⟨Or.inl rfl, wt_tr (e := wt_iv) h⟩)⟩)
def gX11_greatestGap_34 (K4 : wt_S → Int32 → Int32 → Option (Int32 × wt_S)) (s : wt_S) (l2 : Int32) (z0 : Int32) : Option (Int32 × wt_S) := K4 s z0 (l2 + 1)
theorem sX11_greatestGap_34 {L d : Nat}  {K4 : wt_S → Int32 → Int32 → Option (Int32 × wt_S)}  (hK4 : ∀ {s : wt_S} {l1 : Int32} {l2 : Int32}, wt_sd (wt_H L) wt_iv (d + 1) kX11_greatestGap (mj_drop 4 kX11_greatestGap) [some (.inr (some 110)), some (.inl l1), some (.inl l2)] [] s (K4 s l1 l2)) {s : wt_S} {l2 : Int32} {z0 : Int32} {x1 : Option (mj_v Int32)} : wt_sd (wt_H L) wt_iv (d + 1) kX11_greatestGap (mj_drop 22 kX11_greatestGap) [some (.inr (some 110)), x1, some (.inl l2)] [.inl z0] s (gX11_greatestGap_34 K4 s l2 z0) := by
  unfold gX11_greatestGap_34
  exact wt_go1 [4, 34] 31 fun R h => ⟨trivial, hK4  _ h⟩
def gX11_greatestGap_4 : Nat → wt_S → Int32 → Int32 → Option (Int32 × wt_S)
  | 0, _, _, _ => none
  | n + 1, s, l1, l2 => (wt_cl (gX11_gap s (-1) 0) fun v2 s1 => (if v2.toInt ≤ l2.toInt then some (l1, s1) else (wt_cl (gX11_gap s1 l2 1) fun v4 s3 => (if v4.toInt ≤ l1.toInt then gX11_greatestGap_34 (gX11_greatestGap_4 n) s3 l2 l1 else (wt_cl (gX11_gap s3 l2 1) fun v6 s5 => gX11_greatestGap_34 (gX11_greatestGap_4 n) s5 l2 v6)))))
theorem sX11_greatestGap_4 {L d : Nat}    : ∀ (n : Nat) {s : wt_S} {l1 : Int32} {l2 : Int32}, wt_sd (wt_H L) wt_iv (d + 1) kX11_greatestGap (mj_drop 4 kX11_greatestGap) [some (.inr (some 110)), some (.inl l1), some (.inl l2)] [] s (gX11_greatestGap_4 n s l1 l2) := by
  intro n
  induction n with
  | zero =>
    intro s l1 l2
    exact fun R h => wt_tn h
  | succ n ih =>
    intro s l1 l2
    unfold gX11_greatestGap_4
    exact wt_go1 [4, 34] 31 fun R h => ⟨_, wt_s110, _, _, rfl, jX11_gap, wt_tc h (sX11_gap) fun v2 s1 h => wt_tb h (fun h => wt_tr (e := wt_iv) h) (fun h => ⟨_, wt_s110, _, _, rfl, jX11_gap, wt_tc h (sX11_gap) fun v4 s3 h => wt_tb h (fun h => ⟨trivial, sX11_greatestGap_34 ih _ h⟩) (fun h => ⟨_, wt_s110, _, _, rfl, jX11_gap, wt_tc h (sX11_gap) fun v6 s5 h => ⟨trivial, sX11_greatestGap_34 ih _ h⟩⟩)⟩)⟩
def gX11_greatestGap (s : wt_S) : Option (Int32 × wt_S) := gX11_greatestGap_4 wt_N s 0 0
theorem sX11_greatestGap {L d : Nat}   {s : wt_S}  : wt_sd (wt_H L) wt_iv (d + 1) kX11_greatestGap kX11_greatestGap (mj_ent 3 [.inr (some 110)]) [] s (gX11_greatestGap s) := by
  unfold gX11_greatestGap
  exact wt_go [4, 34] 31 fun R h => ⟨trivial, sX11_greatestGap_4 wt_N _ h⟩
def gX11_statesOf_30 (K4 : wt_S → Int32 → Int32 → Int32 → Option (Int32 × wt_S)) (s : wt_S) (l1 : Int32) (l3 : Int32) (z0 : Int32) (z1 : Int32) : Option (Int32 × wt_S) := K4 s l1 (z0 + z1) (l3 + 1)
theorem sX11_statesOf_30 {L d : Nat}  {K4 : wt_S → Int32 → Int32 → Int32 → Option (Int32 × wt_S)}  (hK4 : ∀ {s : wt_S} {l1 : Int32} {l2 : Int32} {l3 : Int32}, wt_sd (wt_H L) wt_iv d kX11_statesOf (mj_drop 4 kX11_statesOf) [some (.inr (some 110)), some (.inl l1), some (.inl l2), some (.inl l3)] [] s (K4 s l1 l2 l3)) {s : wt_S} {l1 : Int32} {l3 : Int32} {z0 : Int32} {z1 : Int32} {x2 : Option (mj_v Int32)} : wt_sd (wt_H L) wt_iv d kX11_statesOf (mj_drop 19 kX11_statesOf) [some (.inr (some 110)), some (.inl l1), x2, some (.inl l3)] [.inl z1, .inl z0] s (gX11_statesOf_30 K4 s l1 l3 z0 z1) := by
  unfold gX11_statesOf_30
  exact wt_go1 [4, 30] 29 fun R h => ⟨trivial, hK4  _ h⟩
def gX11_statesOf_4 : Nat → wt_S → Int32 → Int32 → Int32 → Option (Int32 × wt_S)
  | 0, _, _, _, _ => none
  | n + 1, s, l1, l2, l3 => (if (6 : Int32).toInt ≤ l3.toInt then some (l2, s) else (wt_ix (3926 + l3) 4073 fun k1 => (if (s 111 k1) ≠ l1 then gX11_statesOf_30 (gX11_statesOf_4 n) s l1 l3 l2 0 else gX11_statesOf_30 (gX11_statesOf_4 n) s l1 l3 l2 1)))
theorem sX11_statesOf_4 {L d : Nat}    : ∀ (n : Nat) {s : wt_S} {l1 : Int32} {l2 : Int32} {l3 : Int32}, wt_sd (wt_H L) wt_iv d kX11_statesOf (mj_drop 4 kX11_statesOf) [some (.inr (some 110)), some (.inl l1), some (.inl l2), some (.inl l3)] [] s (gX11_statesOf_4 n s l1 l2 l3) := by
  intro n
  induction n with
  | zero =>
    intro s l1 l2 l3
    exact fun R h => wt_tn h
  | succ n ih =>
    intro s l1 l2 l3
    unfold gX11_statesOf_4
    exact wt_go1 [4, 30] 29 fun R h => wt_tb h (fun h => wt_tr (e := wt_iv) h) (fun h => ⟨_, wt_s110, ⟨_, wt_m111.1, wt_tx h fun k1 h => wt_tb h (fun h => ⟨trivial, sX11_statesOf_30 ih _ h⟩) (fun h => ⟨trivial, sX11_statesOf_30 ih _ h⟩)⟩⟩)
def gX11_statesOf (s : wt_S) (i1 : Int32) : Option (Int32 × wt_S) := gX11_statesOf_4 wt_N s i1 0 0
theorem sX11_statesOf {L d : Nat}   {s : wt_S} {i1 : Int32} : wt_sd (wt_H L) wt_iv d kX11_statesOf kX11_statesOf (mj_ent 4 [.inr (some 110), .inl i1]) [] s (gX11_statesOf s i1) := by
  unfold gX11_statesOf
  exact wt_go [4, 30] 29 fun R h => ⟨trivial, sX11_statesOf_4 wt_N _ h⟩
def gX11_told_37 (K4 : wt_S → Int32 → Int32 → Int32 → Option (Int32 × wt_S)) (s : wt_S) (l1 : Int32) (l3 : Int32) (z0 : Int32) (z1 : Int32) : Option (Int32 × wt_S) := K4 s l1 (z0 + z1) (l3 + 1)
theorem sX11_told_37 {L d : Nat}  {K4 : wt_S → Int32 → Int32 → Int32 → Option (Int32 × wt_S)}  (hK4 : ∀ {s : wt_S} {l1 : Int32} {l2 : Int32} {l3 : Int32}, wt_sd (wt_H L) wt_iv (d + 3) kX11_told (mj_drop 4 kX11_told) [some (.inr (some 110)), some (.inl l1), some (.inl l2), some (.inl l3)] [] s (K4 s l1 l2 l3)) {s : wt_S} {l1 : Int32} {l3 : Int32} {z0 : Int32} {z1 : Int32} {x2 : Option (mj_v Int32)} : wt_sd (wt_H L) wt_iv (d + 3) kX11_told (mj_drop 22 kX11_told) [some (.inr (some 110)), some (.inl l1), x2, some (.inl l3)] [.inl z1, .inl z0] s (gX11_told_37 K4 s l1 l3 z0 z1) := by
  unfold gX11_told_37
  exact wt_go1 [4, 37] 32 fun R h => ⟨trivial, hK4  _ h⟩
def gX11_told_4 : Nat → wt_S → Int32 → Int32 → Int32 → Option (Int32 × wt_S)
  | 0, _, _, _, _ => none
  | n + 1, s, l1, l2, l3 => (if (10 : Int32).toInt ≤ l3.toInt then some (l2, s) else (wt_cl (gX11_isTold s l3) fun v2 s1 => (if v2 = (0 : Int32) then gX11_told_4 n s1 l1 l2 (l3 + 1) else (if l1 = (0 : Int32) then gX11_told_37 (gX11_told_4 n) s1 l1 l3 l2 1 else (wt_ix (2248 + l3) 4073 fun k3 => gX11_told_37 (gX11_told_4 n) s1 l1 l3 l2 (s1 111 k3))))))
theorem sX11_told_4 {L d : Nat}    : ∀ (n : Nat) {s : wt_S} {l1 : Int32} {l2 : Int32} {l3 : Int32}, wt_sd (wt_H L) wt_iv (d + 3) kX11_told (mj_drop 4 kX11_told) [some (.inr (some 110)), some (.inl l1), some (.inl l2), some (.inl l3)] [] s (gX11_told_4 n s l1 l2 l3) := by
  intro n
  induction n with
  | zero =>
    intro s l1 l2 l3
    exact fun R h => wt_tn h
  | succ n ih =>
    intro s l1 l2 l3
    unfold gX11_told_4
    exact wt_go1 [4, 37] 32 fun R h => wt_tb h (fun h => wt_tr (e := wt_iv) h) (fun h => ⟨_, wt_s110, _, _, rfl, jX11_isTold, wt_tc h (sX11_isTold) fun v2 s1 h => wt_tb h (fun h => ⟨trivial, ih  _ h⟩) (fun h => wt_tb h (fun h => ⟨trivial, sX11_told_37 ih _ h⟩) (fun h => ⟨_, wt_s110, ⟨_, wt_m111.1, wt_tx h fun k3 h => ⟨trivial, sX11_told_37 ih _ h⟩⟩⟩))⟩)
def gX11_told (s : wt_S) (i1 : Int32) : Option (Int32 × wt_S) := gX11_told_4 wt_N s i1 0 0
theorem sX11_told {L d : Nat}   {s : wt_S} {i1 : Int32} : wt_sd (wt_H L) wt_iv (d + 3) kX11_told kX11_told (mj_ent 4 [.inr (some 110), .inl i1]) [] s (gX11_told s i1) := by
  unfold gX11_told
  exact wt_go [4, 37] 32 fun R h => ⟨trivial, sX11_told_4 wt_N _ h⟩
def gX11_look_74 : Nat → wt_S → Int32 → Int32 → Option (Int32 × wt_S)
  | 0, _, _, _ => none
  | n + 1, s, l2, l3 => (if (s 111 2898).toInt ≤ l3.toInt then some (l2, s) else (wt_ix (3155 + l3) 4073 fun k1 => gX11_look_74 n s (l2 + (s 111 k1)) (l3 + 1)))
theorem sX11_look_74 {L d : Nat}    : ∀ (n : Nat) {s : wt_S} {l2 : Int32} {l3 : Int32} {x1 : Option (mj_v Int32)}, wt_sd (wt_H L) wt_iv (d + 4) kX11_look (mj_drop 18 kX11_look) [some (.inr (some 110)), x1, some (.inl l2), some (.inl l3)] [] s (gX11_look_74 n s l2 l3) := by
  intro n
  induction n with
  | zero =>
    intro s l2 l3 x1
    exact fun R h => wt_tn h
  | succ n ih =>
    intro s l2 l3 x1
    unfold gX11_look_74
    exact wt_go1 [74, 123, 148] 95 fun R h => ⟨_, wt_s110, ⟨_, wt_m111.1, 2898, ⟨rfl, by decide⟩, wt_tb h (fun h => wt_tr (e := wt_iv) h) (fun h => ⟨_, wt_s110, ⟨_, wt_m111.1, wt_tx h fun k1 h => ⟨trivial, ih  _ h⟩⟩⟩)⟩⟩
def gX11_look_148 (K123 : wt_S → Int32 → Int32 → Option (Int32 × wt_S)) (s : wt_S) (l3 : Int32) (z0 : Int32) (z1 : Int32) : Option (Int32 × wt_S) := K123 s (z0 + z1) (l3 + 1)
theorem sX11_look_148 {L d : Nat}  {K123 : wt_S → Int32 → Int32 → Option (Int32 × wt_S)}  (hK123 : ∀ {s : wt_S} {l2 : Int32} {l3 : Int32} {x1 : Option (mj_v Int32)}, wt_sd (wt_H L) wt_iv (d + 4) kX11_look (mj_drop 47 kX11_look) [some (.inr (some 110)), x1, some (.inl l2), some (.inl l3)] [] s (K123 s l2 l3)) {s : wt_S} {l3 : Int32} {z0 : Int32} {z1 : Int32} {x1 x2 : Option (mj_v Int32)} : wt_sd (wt_H L) wt_iv (d + 4) kX11_look (mj_drop 62 kX11_look) [some (.inr (some 110)), x1, x2, some (.inl l3)] [.inl z1, .inl z0] s (gX11_look_148 K123 s l3 z0 z1) := by
  unfold gX11_look_148
  exact wt_go1 [74, 123, 148] 95 fun R h => ⟨trivial, hK123  _ h⟩
def gX11_look_123 : Nat → wt_S → Int32 → Int32 → Option (Int32 × wt_S)
  | 0, _, _, _ => none
  | n + 1, s, l2, l3 => (if (3 : Int32).toInt ≤ l3.toInt then some (l2, s) else (wt_ix (3923 + l3) 4073 fun k1 => (if (s 111 k1) ≠ ((-1) : Int32) then gX11_look_148 (gX11_look_123 n) s l3 l2 1 else gX11_look_148 (gX11_look_123 n) s l3 l2 0)))
theorem sX11_look_123 {L d : Nat}    : ∀ (n : Nat) {s : wt_S} {l2 : Int32} {l3 : Int32} {x1 : Option (mj_v Int32)}, wt_sd (wt_H L) wt_iv (d + 4) kX11_look (mj_drop 47 kX11_look) [some (.inr (some 110)), x1, some (.inl l2), some (.inl l3)] [] s (gX11_look_123 n s l2 l3) := by
  intro n
  induction n with
  | zero =>
    intro s l2 l3 x1
    exact fun R h => wt_tn h
  | succ n ih =>
    intro s l2 l3 x1
    unfold gX11_look_123
    exact wt_go1 [74, 123, 148] 95 fun R h => wt_tb h (fun h => wt_tr (e := wt_iv) h) (fun h => ⟨_, wt_s110, ⟨_, wt_m111.1, wt_tx h fun k1 h => wt_tb h (fun h => ⟨trivial, sX11_look_148 ih _ h⟩) (fun h => ⟨trivial, sX11_look_148 ih _ h⟩)⟩⟩)
def gX11_look (s : wt_S) (i1 : Int32) : Option (Int32 × wt_S) := (wt_cl (gX11_isIn s i1 0 5) fun v2 s1 => (if v2 = (0 : Int32) then (if i1.toInt < 6 ∨ 14 < i1.toInt then some ((-1), s1) else (if i1.toInt = 6 then gX11_look_74 wt_N s1 0 0 else (if i1.toInt = 7 then some ((s1 111 2898), s1) else (if i1.toInt = 8 then (wt_cl (gX11_greatestGap s1) fun v4 s3 => some (v4, s3)) else (if i1.toInt = 9 then gX11_look_123 wt_N s1 0 0 else (if i1.toInt = 10 then (wt_cl (gX11_statesOf s1 1) fun v6 s5 => some (v6, s5)) else (if i1.toInt = 11 then (wt_cl (gX11_statesOf s1 2) fun v8 s7 => some (v8, s7)) else (if i1.toInt = 12 then (wt_cl (gX11_told s1 0) fun v10 s9 => some (v10, s9)) else (if i1.toInt = 13 then (wt_cl (gX11_told s1 1) fun v12 s11 => some (v12, s11)) else (if i1.toInt = 14 then some ((s1 111 2067), s1) else none)))))))))) else (wt_ix (2048 + i1) 4073 fun k13 => some ((s1 111 k13), s1))))
theorem sX11_look {L d : Nat}   {s : wt_S} {i1 : Int32} : wt_sd (wt_H L) wt_iv (d + 4) kX11_look kX11_look (mj_ent 4 [.inr (some 110), .inl i1]) [] s (gX11_look s i1) := by
  unfold gX11_look
  exact wt_go [74, 123, 148] 95 fun R h => ⟨_, _, rfl, jX11_isIn, wt_tc h (sX11_isIn) fun v2 s1 h => wt_tb h (fun h => wt_s0 h (fun h => wt_tr (e := wt_iv) h) (fun h => wt_s1 h (fun e => by omega) (fun h => ⟨trivial, sX11_look_74 wt_N _ h⟩) (fun h => wt_s1 h (fun e => by omega) (fun h => ⟨_, wt_s110, ⟨_, wt_m111.1, 2898, ⟨rfl, by decide⟩, wt_tr (e := wt_iv) h⟩⟩) (fun h => wt_s1 h (fun e => by omega) (fun h => ⟨_, wt_s110, _, _, rfl, jX11_greatestGap, wt_tc h (sX11_greatestGap) fun v4 s3 h => wt_tr (e := wt_iv) h⟩) (fun h => wt_s1 h (fun e => by omega) (fun h => ⟨trivial, sX11_look_123 wt_N _ h⟩) (fun h => wt_s1 h (fun e => by omega) (fun h => ⟨_, wt_s110, _, _, rfl, jX11_statesOf, wt_tc h (sX11_statesOf) fun v6 s5 h => wt_tr (e := wt_iv) h⟩) (fun h => wt_s1 h (fun e => by omega) (fun h => ⟨_, wt_s110, _, _, rfl, jX11_statesOf, wt_tc h (sX11_statesOf) fun v8 s7 h => wt_tr (e := wt_iv) h⟩) (fun h => wt_s1 h (fun e => by omega) (fun h => ⟨_, wt_s110, _, _, rfl, jX11_told, wt_tc h (sX11_told) fun v10 s9 h => wt_tr (e := wt_iv) h⟩) (fun h => wt_s1 h (fun e => by omega) (fun h => ⟨_, wt_s110, _, _, rfl, jX11_told, wt_tc h (sX11_told) fun v12 s11 h => wt_tr (e := wt_iv) h⟩) (fun h => wt_s1 h (fun e => by omega) (fun h => ⟨_, wt_s110, ⟨_, wt_m111.1, 2067, ⟨rfl, by decide⟩, wt_tr (e := wt_iv) h⟩⟩) (fun h => trivial))))))))))) (fun h => ⟨_, wt_s110, ⟨_, wt_m111.1, wt_tx h fun k13 h => wt_tr (e := wt_iv) h⟩⟩)⟩
