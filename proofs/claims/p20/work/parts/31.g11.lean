def gX11_join_167 : Nat → wt_S → Int32 → Int32 → Int32 → Int32 → Option (Int32 × wt_S)
  | 0, _, _, _, _, _ => none
  | n + 1, s, l1, l2, l3, l5 => (if l5.toInt < (0 : Int32).toInt then (wt_cl (gX11_takes s l1 l3 l2 0) fun _ s1 => (wt_ix (4066 + l1) 4073 fun k3 => wt_wr s1 111 k3 1 fun s2 => (wt_ix (3933 + l1) 4073 fun k5 => wt_wr s2 111 k5 0 fun s4 => (wt_ix (4017 + l1) 4073 fun k6 => (wt_ix (3961 + l1) 4073 fun k7 => (wt_ix (4017 + l1) 4073 fun k9 => wt_wr s4 111 k9 ((s4 111 k6) + (s4 111 k7)) fun s8 => (wt_ix (3961 + l1) 4073 fun k10 => (wt_cl (gX11_counts s8 5 (s8 111 k10)) fun _ s11 => (wt_cl (gX11_logs s11 6 l1 l3 l2) fun _ s12 => some (1, s12)))))))))) else (wt_ix (3411 + l5) 4073 fun k13 => (if (s 111 k13) ≠ l1 then gX11_join_167 n s l1 l2 l3 (l5 + (-1)) else (wt_cl (gX11_gives s l5) fun _ s14 => gX11_join_167 n s14 l1 l2 l3 (l5 + (-1))))))
theorem sX11_join_167 {L d : Nat}    : ∀ (n : Nat) {s : wt_S} {l1 : Int32} {l2 : Int32} {l3 : Int32} {l5 : Int32} {x4 x6 : Option (mj_v Int32)}, wt_sd (wt_H L) wt_iv (d + 3) kX11_join (mj_drop 95 kX11_join) [some (.inr (some 110)), some (.inl l1), some (.inl l2), some (.inl l3), x4, some (.inl l5), x6] [] s (gX11_join_167 n s l1 l2 l3 l5) := by
  intro n
  induction n with
  | zero =>
    intro s l1 l2 l3 l5 x4 x6
    exact fun R h => wt_tn h
  | succ n ih =>
    intro s l1 l2 l3 l5 x4 x6
    unfold gX11_join_167
    exact wt_go1 [40, 80, 167] 166 fun R h => wt_tb h (fun h => ⟨_, wt_s110, _, _, rfl, jX11_takes, wt_tc h (sX11_takes) fun _ s1 h => ⟨_, wt_s110, ⟨_, wt_m111, wt_tx h fun k3 h => have h := wt_tw h; ⟨_, wt_s110, ⟨_, wt_m111, wt_tx h fun k5 h => have h := wt_tw h; ⟨_, wt_s110, ⟨_, wt_m111.1, wt_tx h fun k6 h => ⟨_, wt_s110, ⟨_, wt_m111.1, wt_tx h fun k7 h => ⟨_, wt_m111, wt_tx h fun k9 h => have h := wt_tw h; ⟨_, wt_s110, ⟨_, wt_m111.1, wt_tx h fun k10 h => ⟨_, wt_s110, _, _, rfl, jX11_counts, wt_tc h (sX11_counts) fun _ s11 h => ⟨_, wt_s110, _, _, rfl, jX11_logs, wt_tc h (sX11_logs) fun _ s12 h => ⟨Or.inr rfl, wt_tr (e := wt_iv) h⟩⟩⟩⟩⟩⟩⟩⟩⟩⟩⟩⟩⟩⟩⟩) (fun h => ⟨_, wt_s110, ⟨_, wt_m111.1, wt_tx h fun k13 h => wt_tb h (fun h => ⟨trivial, ih  _ h⟩) (fun h => ⟨_, wt_s110, _, _, rfl, jX11_gives, wt_tc h (sX11_gives) fun _ s14 h => ⟨trivial, ih  _ h⟩⟩)⟩⟩)
def gX11_join_80 : Nat → wt_S → Int32 → Int32 → Int32 → Int32 → Int32 → Option (Int32 × wt_S)
  | 0, _, _, _, _, _, _ => none
  | n + 1, s, l1, l2, l3, l4, l5 => (wt_ix (4066 + l1) 4073 fun k1 => (if (s 111 k1).toInt ≤ l5.toInt then (wt_cl (gX11_carries s) fun _ s2 => (wt_cl (gX11_turns s2 l1) fun _ s3 => gX11_join_167 wt_N s3 l1 l2 l3 ((s3 111 2898) - 1))) else (wt_cl (gX11_pieceOf s l1 l5) fun v5 s4 => (wt_ix (2899 + v5) 4073 fun k6 => (wt_cl (gX11_usedIn s4 l1 v5) fun v8 s7 => (wt_cl (gX11_part s7 (s4 111 k6) v8 l4) fun _ s9 => (wt_ix l5 256 fun k10 => gX11_join_80 n s9 l1 l2 l3 (l4 + (s9 116 k10)) (l5 + 1))))))))
theorem sX11_join_80 {L d : Nat}    : ∀ (n : Nat) {s : wt_S} {l1 : Int32} {l2 : Int32} {l3 : Int32} {l4 : Int32} {l5 : Int32} {x6 : Option (mj_v Int32)}, wt_sd (wt_H L) wt_iv (d + 3) kX11_join (mj_drop 48 kX11_join) [some (.inr (some 110)), some (.inl l1), some (.inl l2), some (.inl l3), some (.inl l4), some (.inl l5), x6] [] s (gX11_join_80 n s l1 l2 l3 l4 l5) := by
  intro n
  induction n with
  | zero =>
    intro s l1 l2 l3 l4 l5 x6
    exact fun R h => wt_tn h
  | succ n ih =>
    intro s l1 l2 l3 l4 l5 x6
    unfold gX11_join_80
    exact wt_go1 [40, 80, 167] 166 fun R h => ⟨_, wt_s110, ⟨_, wt_m111.1, wt_tx h fun k1 h => wt_tb h (fun h => ⟨_, wt_s110, _, _, rfl, jX11_carries, wt_tc h (sX11_carries) fun _ s2 h => ⟨_, wt_s110, _, _, rfl, jX11_turns, wt_tc h (sX11_turns) fun _ s3 h => ⟨_, wt_s110, ⟨_, wt_m111.1, 2898, ⟨rfl, by decide⟩, ⟨trivial, sX11_join_167 wt_N _ h⟩⟩⟩⟩⟩) (fun h => ⟨_, wt_s110, _, _, rfl, jX11_pieceOf, wt_tc h (sX11_pieceOf) fun v5 s4 h => ⟨_, wt_s110, ⟨_, wt_m111.1, wt_tx h fun k6 h => ⟨_, wt_s110, _, _, rfl, jX11_usedIn, wt_tc h (sX11_usedIn) fun v8 s7 h => ⟨_, wt_s110, _, _, rfl, jX11_part, wt_tc h (sX11_part) fun _ s9 h => ⟨_, wt_s110, ⟨_, wt_m116.1, wt_tx h fun k10 h => ⟨trivial, ih  _ h⟩⟩⟩⟩⟩⟩⟩⟩)⟩⟩
def gX11_join_40 : Nat → wt_S → Int32 → Int32 → Option (Int32 × wt_S)
  | 0, _, _, _ => none
  | n + 1, s, l1, l2 => (wt_cl (gX11_keptOf s l1) fun v2 s1 => (if v2.toInt ≤ l2.toInt then (wt_cl (gX11_gapFor s1 l2) fun v4 s3 => (if v4 ≠ ((-1) : Int32) then (wt_wr s3 110 9 0 fun s5 => gX11_join_80 wt_N s5 l1 l2 v4 v4 0) else some (0, s3))) else gX11_join_40 n s1 l1 (l2 * 2)))
theorem sX11_join_40 {L d : Nat}    : ∀ (n : Nat) {s : wt_S} {l1 : Int32} {l2 : Int32} {x3 x4 x5 x6 : Option (mj_v Int32)}, wt_sd (wt_H L) wt_iv (d + 3) kX11_join (mj_drop 22 kX11_join) [some (.inr (some 110)), some (.inl l1), some (.inl l2), x3, x4, x5, x6] [] s (gX11_join_40 n s l1 l2) := by
  intro n
  induction n with
  | zero =>
    intro s l1 l2 x3 x4 x5 x6
    exact fun R h => wt_tn h
  | succ n ih =>
    intro s l1 l2 x3 x4 x5 x6
    unfold gX11_join_40
    exact wt_go1 [40, 80, 167] 166 fun R h => ⟨_, wt_s110, _, _, rfl, jX11_keptOf, wt_tc h (sX11_keptOf) fun v2 s1 h => wt_tb h (fun h => ⟨_, wt_s110, _, _, rfl, jX11_gapFor, wt_tc h (sX11_gapFor) fun v4 s3 h => wt_tb h (fun h => ⟨_, wt_s110, have h := wt_tw h; ⟨trivial, sX11_join_80 wt_N _ h⟩⟩) (fun h => ⟨Or.inl rfl, wt_tr (e := wt_iv) h⟩)⟩) (fun h => ⟨trivial, ih  _ h⟩)⟩
def gX11_join (s : wt_S) (i1 : Int32) : Option (Int32 × wt_S) := (wt_cl (gX11_isTask s i1) fun v2 s1 => (if v2 = (0 : Int32) then some (0, s1) else (wt_cl (gX11_isBusy s1 i1) fun v4 s3 => (if v4 = (0 : Int32) then some (0, s3) else (wt_ix (3933 + i1) 4073 fun k5 => (if (s3 111 k5) = (1 : Int32) then gX11_join_40 wt_N s3 i1 (s3 111 2048) else some (0, s3)))))))
theorem sX11_join {L d : Nat}   {s : wt_S} {i1 : Int32} : wt_sd (wt_H L) wt_iv (d + 3) kX11_join kX11_join (mj_ent 7 [.inr (some 110), .inl i1]) [] s (gX11_join s i1) := by
  unfold gX11_join
  exact wt_go [40, 80, 167] 166 fun R h => ⟨_, _, rfl, jX11_isTask, wt_tc h (sX11_isTask) fun v2 s1 h => wt_tb h (fun h => ⟨Or.inl rfl, wt_tr (e := wt_iv) h⟩) (fun h => ⟨_, wt_s110, _, _, rfl, jX11_isBusy, wt_tc h (sX11_isBusy) fun v4 s3 h => wt_tb h (fun h => ⟨Or.inl rfl, wt_tr (e := wt_iv) h⟩) (fun h => ⟨_, wt_s110, ⟨_, wt_m111.1, wt_tx h fun k5 h => wt_tb h (fun h => ⟨_, wt_s110, ⟨_, wt_m111.1, 2048, ⟨rfl, by decide⟩, ⟨trivial, sX11_join_40 wt_N _ h⟩⟩⟩) (fun h => ⟨Or.inl rfl, wt_tr (e := wt_iv) h⟩)⟩⟩)⟩)⟩
def gX11_compact_92 (K11 : wt_S → Int32 → Int32 → Int32 → Option (Int32 × wt_S)) (s : wt_S) (l1 : Int32) (l2 : Int32) (l3 : Int32) : Option (Int32 × wt_S) := (wt_ix (2899 + l3) 4073 fun k2 => wt_wr s 111 k2 l2 fun s1 => (wt_ix (3155 + l3) 4073 fun k3 => K11 s1 l1 (l2 + (s1 111 k3)) (l3 + 1)))
theorem sX11_compact_92 {L d : Nat}  {K11 : wt_S → Int32 → Int32 → Int32 → Option (Int32 × wt_S)}  (hK11 : ∀ {s : wt_S} {l1 : Int32} {l2 : Int32} {l3 : Int32}, wt_sd (wt_H L) wt_iv (d + 3) kX11_compact (mj_drop 9 kX11_compact) [some (.inr (some 110)), some (.inl l1), some (.inl l2), some (.inl l3)] [] s (K11 s l1 l2 l3)) {s : wt_S} {l1 : Int32} {l2 : Int32} {l3 : Int32} : wt_sd (wt_H L) wt_iv (d + 3) kX11_compact (mj_drop 55 kX11_compact) [some (.inr (some 110)), some (.inl l1), some (.inl l2), some (.inl l3)] [] s (gX11_compact_92 K11 s l1 l2 l3) := by
  unfold gX11_compact_92
  exact wt_go1 [11, 92, 128] 95 fun R h => ⟨_, wt_s110, ⟨_, wt_m111, wt_tx h fun k2 h => have h := wt_tw h; ⟨_, wt_s110, ⟨_, wt_m111.1, wt_tx h fun k3 h => ⟨trivial, hK11  _ h⟩⟩⟩⟩⟩
def gX11_compact_128 : Nat → wt_S → Int32 → Int32 → Option (Int32 × wt_S)
  | 0, _, _, _ => none
  | n + 1, s, l1, l3 => (if (6 : Int32).toInt ≤ l3.toInt then some (l1, s) else (wt_cl (gX11_isBusy s l3) fun v2 s1 => (if v2 = (0 : Int32) then gX11_compact_128 n s1 l1 (l3 + 1) else (wt_cl (gX11_turns s1 l3) fun _ s3 => gX11_compact_128 n s3 l1 (l3 + 1)))))
theorem sX11_compact_128 {L d : Nat}    : ∀ (n : Nat) {s : wt_S} {l1 : Int32} {l3 : Int32} {x2 : Option (mj_v Int32)}, wt_sd (wt_H L) wt_iv (d + 3) kX11_compact (mj_drop 77 kX11_compact) [some (.inr (some 110)), some (.inl l1), x2, some (.inl l3)] [] s (gX11_compact_128 n s l1 l3) := by
  intro n
  induction n with
  | zero =>
    intro s l1 l3 x2
    exact fun R h => wt_tn h
  | succ n ih =>
    intro s l1 l3 x2
    unfold gX11_compact_128
    exact wt_go1 [11, 92, 128] 95 fun R h => wt_tb h (fun h => wt_tr (e := wt_iv) h) (fun h => ⟨_, wt_s110, _, _, rfl, jX11_isBusy, wt_tc h (sX11_isBusy) fun v2 s1 h => wt_tb h (fun h => ⟨trivial, ih  _ h⟩) (fun h => ⟨_, wt_s110, _, _, rfl, jX11_turns, wt_tc h (sX11_turns) fun _ s3 h => ⟨trivial, ih  _ h⟩⟩)⟩)
def gX11_compact_11 : Nat → wt_S → Int32 → Int32 → Int32 → Option (Int32 × wt_S)
  | 0, _, _, _, _ => none
  | n + 1, s, l1, l2, l3 => (if (s 111 2898).toInt ≤ l3.toInt then (wt_cl (gX11_carries s) fun _ s1 => gX11_compact_128 wt_N s1 l1 0) else (wt_ix (2899 + l3) 4073 fun k2 => (wt_ix (3155 + l3) 4073 fun k3 => (wt_cl (gX11_part s (s 111 k2) (s 111 k3) l2) fun _ s4 => (wt_ix (2899 + l3) 4073 fun k5 => (if (s4 111 k5) = l2 then gX11_compact_92 (gX11_compact_11 n) s4 l1 l2 l3 else (wt_ix (3411 + l3) 4073 fun k6 => (wt_ix (3155 + l3) 4073 fun k7 => (wt_cl (gX11_logs s4 7 (s4 111 k6) l2 (s4 111 k7)) fun _ s8 => gX11_compact_92 (gX11_compact_11 n) s8 (l1 + 1) l2 l3)))))))))
theorem sX11_compact_11 {L d : Nat}    : ∀ (n : Nat) {s : wt_S} {l1 : Int32} {l2 : Int32} {l3 : Int32}, wt_sd (wt_H L) wt_iv (d + 3) kX11_compact (mj_drop 9 kX11_compact) [some (.inr (some 110)), some (.inl l1), some (.inl l2), some (.inl l3)] [] s (gX11_compact_11 n s l1 l2 l3) := by
  intro n
  induction n with
  | zero =>
    intro s l1 l2 l3
    exact fun R h => wt_tn h
  | succ n ih =>
    intro s l1 l2 l3
    unfold gX11_compact_11
    exact wt_go1 [11, 92, 128] 95 fun R h => ⟨_, wt_s110, ⟨_, wt_m111.1, 2898, ⟨rfl, by decide⟩, wt_tb h (fun h => ⟨_, wt_s110, _, _, rfl, jX11_carries, wt_tc h (sX11_carries) fun _ s1 h => ⟨trivial, sX11_compact_128 wt_N _ h⟩⟩) (fun h => ⟨_, wt_s110, ⟨_, wt_m111.1, wt_tx h fun k2 h => ⟨_, wt_s110, ⟨_, wt_m111.1, wt_tx h fun k3 h => ⟨_, wt_s110, _, _, rfl, jX11_part, wt_tc h (sX11_part) fun _ s4 h => ⟨_, wt_s110, ⟨_, wt_m111.1, wt_tx h fun k5 h => wt_tb h (fun h => ⟨trivial, sX11_compact_92 ih _ h⟩) (fun h => ⟨_, wt_s110, ⟨_, wt_m111.1, wt_tx h fun k6 h => ⟨_, wt_s110, ⟨_, wt_m111.1, wt_tx h fun k7 h => ⟨_, wt_s110, _, _, rfl, jX11_logs, wt_tc h (sX11_logs) fun _ s8 h => ⟨trivial, sX11_compact_92 ih _ h⟩⟩⟩⟩⟩⟩)⟩⟩⟩⟩⟩⟩⟩)⟩⟩
def gX11_compact (s : wt_S) : Option (Int32 × wt_S) := (wt_wr s 110 9 0 fun s1 => gX11_compact_11 wt_N s1 0 0 0)
theorem sX11_compact {L d : Nat}   {s : wt_S}  : wt_sd (wt_H L) wt_iv (d + 3) kX11_compact kX11_compact (mj_ent 4 [.inr (some 110)]) [] s (gX11_compact s) := by
  unfold gX11_compact
  exact wt_go [11, 92, 128] 95 fun R h => ⟨_, wt_s110, have h := wt_tw h; ⟨trivial, sX11_compact_11 wt_N _ h⟩⟩
def gX11_piecesOf_36 (K4 : wt_S → Int32 → Int32 → Int32 → Option (Int32 × wt_S)) (s : wt_S) (l1 : Int32) (l3 : Int32) (z0 : Int32) (z1 : Int32) : Option (Int32 × wt_S) := K4 s l1 (z0 + z1) (l3 + 1)
theorem sX11_piecesOf_36 {L d : Nat}  {K4 : wt_S → Int32 → Int32 → Int32 → Option (Int32 × wt_S)}  (hK4 : ∀ {s : wt_S} {l1 : Int32} {l2 : Int32} {l3 : Int32}, wt_sd (wt_H L) wt_iv d kX11_piecesOf (mj_drop 4 kX11_piecesOf) [some (.inr (some 110)), some (.inl l1), some (.inl l2), some (.inl l3)] [] s (K4 s l1 l2 l3)) {s : wt_S} {l1 : Int32} {l3 : Int32} {z0 : Int32} {z1 : Int32} {x2 : Option (mj_v Int32)} : wt_sd (wt_H L) wt_iv d kX11_piecesOf (mj_drop 22 kX11_piecesOf) [some (.inr (some 110)), some (.inl l1), x2, some (.inl l3)] [.inl z1, .inl z0] s (gX11_piecesOf_36 K4 s l1 l3 z0 z1) := by
  unfold gX11_piecesOf_36
  exact wt_go1 [4, 36] 32 fun R h => ⟨trivial, hK4  _ h⟩
def gX11_piecesOf_4 : Nat → wt_S → Int32 → Int32 → Int32 → Option (Int32 × wt_S)
  | 0, _, _, _, _ => none
  | n + 1, s, l1, l2, l3 => (if (s 111 2898).toInt ≤ l3.toInt then some (l2, s) else (wt_ix (3411 + l3) 4073 fun k1 => (if (s 111 k1) ≠ l1 then gX11_piecesOf_36 (gX11_piecesOf_4 n) s l1 l3 l2 0 else gX11_piecesOf_36 (gX11_piecesOf_4 n) s l1 l3 l2 1)))
theorem sX11_piecesOf_4 {L d : Nat}    : ∀ (n : Nat) {s : wt_S} {l1 : Int32} {l2 : Int32} {l3 : Int32}, wt_sd (wt_H L) wt_iv d kX11_piecesOf (mj_drop 4 kX11_piecesOf) [some (.inr (some 110)), some (.inl l1), some (.inl l2), some (.inl l3)] [] s (gX11_piecesOf_4 n s l1 l2 l3) := by
  intro n
  induction n with
  | zero =>
    intro s l1 l2 l3
    exact fun R h => wt_tn h
  | succ n ih =>
    intro s l1 l2 l3
    unfold gX11_piecesOf_4
    exact wt_go1 [4, 36] 32 fun R h => ⟨_, wt_s110, ⟨_, wt_m111.1, 2898, ⟨rfl, by decide⟩, wt_tb h (fun h => wt_tr (e := wt_iv) h) (fun h => ⟨_, wt_s110, ⟨_, wt_m111.1, wt_tx h fun k1 h => wt_tb h (fun h => ⟨trivial, sX11_piecesOf_36 ih _ h⟩) (fun h => ⟨trivial, sX11_piecesOf_36 ih _ h⟩)⟩⟩)⟩⟩
def gX11_piecesOf (s : wt_S) (i1 : Int32) : Option (Int32 × wt_S) := gX11_piecesOf_4 wt_N s i1 0 0
theorem sX11_piecesOf {L d : Nat}   {s : wt_S} {i1 : Int32} : wt_sd (wt_H L) wt_iv d kX11_piecesOf kX11_piecesOf (mj_ent 4 [.inr (some 110), .inl i1]) [] s (gX11_piecesOf s i1) := by
  unfold gX11_piecesOf
  exact wt_go [4, 36] 32 fun R h => ⟨trivial, sX11_piecesOf_4 wt_N _ h⟩
def gX11_wordsOf_45 (K4 : wt_S → Int32 → Int32 → Int32 → Option (Int32 × wt_S)) (s : wt_S) (l1 : Int32) (l3 : Int32) (z0 : Int32) (z1 : Int32) : Option (Int32 × wt_S) := K4 s l1 (z0 + z1) (l3 + 1)
theorem sX11_wordsOf_45 {L d : Nat}  {K4 : wt_S → Int32 → Int32 → Int32 → Option (Int32 × wt_S)}  (hK4 : ∀ {s : wt_S} {l1 : Int32} {l2 : Int32} {l3 : Int32}, wt_sd (wt_H L) wt_iv d kX11_wordsOf (mj_drop 4 kX11_wordsOf) [some (.inr (some 110)), some (.inl l1), some (.inl l2), some (.inl l3)] [] s (K4 s l1 l2 l3)) {s : wt_S} {l1 : Int32} {l3 : Int32} {z0 : Int32} {z1 : Int32} {x2 : Option (mj_v Int32)} : wt_sd (wt_H L) wt_iv d kX11_wordsOf (mj_drop 27 kX11_wordsOf) [some (.inr (some 110)), some (.inl l1), x2, some (.inl l3)] [.inl z1, .inl z0] s (gX11_wordsOf_45 K4 s l1 l3 z0 z1) := by
  unfold gX11_wordsOf_45
  exact wt_go1 [4, 45] 37 fun R h => ⟨trivial, hK4  _ h⟩
def gX11_wordsOf_4 : Nat → wt_S → Int32 → Int32 → Int32 → Option (Int32 × wt_S)
  | 0, _, _, _, _ => none
  | n + 1, s, l1, l2, l3 => (if (s 111 2898).toInt ≤ l3.toInt then some (l2, s) else (wt_ix (3411 + l3) 4073 fun k1 => (if (s 111 k1) ≠ l1 then gX11_wordsOf_45 (gX11_wordsOf_4 n) s l1 l3 l2 0 else (wt_ix (3155 + l3) 4073 fun k2 => gX11_wordsOf_45 (gX11_wordsOf_4 n) s l1 l3 l2 (s 111 k2)))))
theorem sX11_wordsOf_4 {L d : Nat}    : ∀ (n : Nat) {s : wt_S} {l1 : Int32} {l2 : Int32} {l3 : Int32}, wt_sd (wt_H L) wt_iv d kX11_wordsOf (mj_drop 4 kX11_wordsOf) [some (.inr (some 110)), some (.inl l1), some (.inl l2), some (.inl l3)] [] s (gX11_wordsOf_4 n s l1 l2 l3) := by
  intro n
  induction n with
  | zero =>
    intro s l1 l2 l3
    exact fun R h => wt_tn h
  | succ n ih =>
    intro s l1 l2 l3
    unfold gX11_wordsOf_4
    exact wt_go1 [4, 45] 37 fun R h => ⟨_, wt_s110, ⟨_, wt_m111.1, 2898, ⟨rfl, by decide⟩, wt_tb h (fun h => wt_tr (e := wt_iv) h) (fun h => ⟨_, wt_s110, ⟨_, wt_m111.1, wt_tx h fun k1 h => wt_tb h (fun h => ⟨trivial, sX11_wordsOf_45 ih _ h⟩) (fun h => ⟨_, wt_s110, ⟨_, wt_m111.1, wt_tx h fun k2 h => ⟨trivial, sX11_wordsOf_45 ih _ h⟩⟩⟩)⟩⟩)⟩⟩
def gX11_wordsOf (s : wt_S) (i1 : Int32) : Option (Int32 × wt_S) := gX11_wordsOf_4 wt_N s i1 0 0
theorem sX11_wordsOf {L d : Nat}   {s : wt_S} {i1 : Int32} : wt_sd (wt_H L) wt_iv d kX11_wordsOf kX11_wordsOf (mj_ent 4 [.inr (some 110), .inl i1]) [] s (gX11_wordsOf s i1) := by
  unfold gX11_wordsOf
  exact wt_go [4, 45] 37 fun R h => ⟨trivial, sX11_wordsOf_4 wt_N _ h⟩
def gX11_task (s : wt_S) (i1 i2 : Int32) : Option (Int32 × wt_S) := (wt_cl (gX11_isTask s i1) fun v2 s1 => (if v2 ≠ (0 : Int32) then (if i2.toInt < 0 ∨ 18 < i2.toInt then some ((-1), s1) else (if i2.toInt = 0 then (wt_ix (3926 + i1) 4073 fun k3 => some ((s1 111 k3), s1)) else (if i2.toInt = 1 then (wt_ix (3933 + i1) 4073 fun k4 => some ((s1 111 k4), s1)) else (if i2.toInt = 2 then (wt_ix (3940 + i1) 4073 fun k5 => some ((s1 111 k5), s1)) else (if i2.toInt = 3 then (wt_ix (3947 + i1) 4073 fun k6 => some ((s1 111 k6), s1)) else (if i2.toInt = 4 then (wt_ix (3954 + i1) 4073 fun k7 => some ((s1 111 k7), s1)) else (if i2.toInt = 5 then (wt_ix (3961 + i1) 4073 fun k8 => some ((s1 111 k8), s1)) else (if i2.toInt = 6 then (wt_cl (gX11_piecesOf s1 i1) fun v10 s9 => some (v10, s9)) else (if i2.toInt = 7 then (wt_cl (gX11_wordsOf s1 i1) fun v12 s11 => some (v12, s11)) else (if i2.toInt = 8 then (wt_ix (3989 + i1) 4073 fun k13 => some ((s1 111 k13), s1)) else (if i2.toInt = 9 then (wt_ix (3996 + i1) 4073 fun k14 => some ((s1 111 k14), s1)) else (if i2.toInt = 10 then (wt_ix (3975 + i1) 4073 fun k15 => some ((s1 111 k15), s1)) else (if i2.toInt = 11 then (wt_cl (gX11_isBusy s1 i1) fun v17 s16 => (if v17 = (0 : Int32) then some ((-1), s16) else (wt_ix (3968 + i1) 4073 fun k18 => some ((s16 111 k18), s16)))) else (if i2.toInt = 12 then (wt_ix (4003 + i1) 4073 fun k19 => some ((s1 111 k19), s1)) else (if i2.toInt = 13 then (wt_ix (4010 + i1) 4073 fun k20 => some ((s1 111 k20), s1)) else (if i2.toInt = 14 then (wt_ix (4017 + i1) 4073 fun k21 => some ((s1 111 k21), s1)) else (if i2.toInt = 15 then (wt_ix (4024 + i1) 4073 fun k22 => some ((s1 111 k22), s1)) else (if i2.toInt = 16 then (wt_ix (4031 + i1) 4073 fun k23 => some ((s1 111 k23), s1)) else (if i2.toInt = 17 then (wt_ix (4038 + i1) 4073 fun k24 => some ((s1 111 k24), s1)) else (if i2.toInt = 18 then (wt_ix (4045 + i1) 4073 fun k25 => some ((s1 111 k25), s1)) else none)))))))))))))))))))) else some ((-1), s1)))
theorem sX11_task {L d : Nat}   {s : wt_S} {i1 i2 : Int32} : wt_sd (wt_H L) wt_iv (d + 2) kX11_task kX11_task (mj_ent 3 [.inr (some 110), .inl i1, .inl i2]) [] s (gX11_task s i1 i2) := by
  unfold gX11_task
  exact wt_go [] 146 fun R h => ⟨_, _, rfl, jX11_isTask, wt_tc h (sX11_isTask) fun v2 s1 h => wt_tb h (fun h => wt_s0 h (fun h => wt_tr (e := wt_iv) h) (fun h => wt_s1 h (fun e => by omega) (fun h => ⟨_, wt_s110, ⟨_, wt_m111.1, wt_tx h fun k3 h => wt_tr (e := wt_iv) h⟩⟩) (fun h => wt_s1 h (fun e => by omega) (fun h => ⟨_, wt_s110, ⟨_, wt_m111.1, wt_tx h fun k4 h => wt_tr (e := wt_iv) h⟩⟩) (fun h => wt_s1 h (fun e => by omega) (fun h => ⟨_, wt_s110, ⟨_, wt_m111.1, wt_tx h fun k5 h => wt_tr (e := wt_iv) h⟩⟩) (fun h => wt_s1 h (fun e => by omega) (fun h => ⟨_, wt_s110, ⟨_, wt_m111.1, wt_tx h fun k6 h => wt_tr (e := wt_iv) h⟩⟩) (fun h => wt_s1 h (fun e => by omega) (fun h => ⟨_, wt_s110, ⟨_, wt_m111.1, wt_tx h fun k7 h => wt_tr (e := wt_iv) h⟩⟩) (fun h => wt_s1 h (fun e => by omega) (fun h => ⟨_, wt_s110, ⟨_, wt_m111.1, wt_tx h fun k8 h => wt_tr (e := wt_iv) h⟩⟩) (fun h => wt_s1 h (fun e => by omega) (fun h => ⟨_, wt_s110, _, _, rfl, jX11_piecesOf, wt_tc h (sX11_piecesOf) fun v10 s9 h => wt_tr (e := wt_iv) h⟩) (fun h => wt_s1 h (fun e => by omega) (fun h => ⟨_, wt_s110, _, _, rfl, jX11_wordsOf, wt_tc h (sX11_wordsOf) fun v12 s11 h => wt_tr (e := wt_iv) h⟩) (fun h => wt_s1 h (fun e => by omega) (fun h => ⟨_, wt_s110, ⟨_, wt_m111.1, wt_tx h fun k13 h => wt_tr (e := wt_iv) h⟩⟩) (fun h => wt_s1 h (fun e => by omega) (fun h => ⟨_, wt_s110, ⟨_, wt_m111.1, wt_tx h fun k14 h => wt_tr (e := wt_iv) h⟩⟩) (fun h => wt_s1 h (fun e => by omega) (fun h => ⟨_, wt_s110, ⟨_, wt_m111.1, wt_tx h fun k15 h => wt_tr (e := wt_iv) h⟩⟩) (fun h => wt_s1 h (fun e => by omega) (fun h => ⟨_, wt_s110, _, _, rfl, jX11_isBusy, wt_tc h (sX11_isBusy) fun v17 s16 h => wt_tb h (fun h => wt_tr (e := wt_iv) h) (fun h => ⟨_, wt_s110, ⟨_, wt_m111.1, wt_tx h fun k18 h => wt_tr (e := wt_iv) h⟩⟩)⟩) (fun h => wt_s1 h (fun e => by omega) (fun h => ⟨_, wt_s110, ⟨_, wt_m111.1, wt_tx h fun k19 h => wt_tr (e := wt_iv) h⟩⟩) (fun h => wt_s1 h (fun e => by omega) (fun h => ⟨_, wt_s110, ⟨_, wt_m111.1, wt_tx h fun k20 h => wt_tr (e := wt_iv) h⟩⟩) (fun h => wt_s1 h (fun e => by omega) (fun h => ⟨_, wt_s110, ⟨_, wt_m111.1, wt_tx h fun k21 h => wt_tr (e := wt_iv) h⟩⟩) (fun h => wt_s1 h (fun e => by omega) (fun h => ⟨_, wt_s110, ⟨_, wt_m111.1, wt_tx h fun k22 h => wt_tr (e := wt_iv) h⟩⟩) (fun h => wt_s1 h (fun e => by omega) (fun h => ⟨_, wt_s110, ⟨_, wt_m111.1, wt_tx h fun k23 h => wt_tr (e := wt_iv) h⟩⟩) (fun h => wt_s1 h (fun e => by omega) (fun h => ⟨_, wt_s110, ⟨_, wt_m111.1, wt_tx h fun k24 h => wt_tr (e := wt_iv) h⟩⟩) (fun h => wt_s1 h (fun e => by omega) (fun h => ⟨_, wt_s110, ⟨_, wt_m111.1, wt_tx h fun k25 h => wt_tr (e := wt_iv) h⟩⟩) (fun h => trivial))))))))))))))))))))) (fun h => wt_tr (e := wt_iv) h)⟩
def gX11_goesBack (s : wt_S) : Option (Unit × wt_S) := (wt_ix ((s 110 11) + 1) 4073 fun k1 => (wt_wr s 110 12 (((s 111 k1) &&& 1023) / 32) fun s2 => (wt_wr s2 110 13 ((s 111 k1) &&& 31) fun s3 => (wt_ix (s3 110 11) 4073 fun k4 => (wt_wr s3 110 11 (s3 111 k4) fun s5 => some ((), s5))))))
theorem sX11_goesBack {L d : Nat}   {s : wt_S}  : wt_sd (wt_H L) wt_uv d kX11_goesBack kX11_goesBack (mj_ent 2 [.inr (some 110)]) [] s (gX11_goesBack s) := by
  unfold gX11_goesBack
  exact wt_go [] 32 fun R h => ⟨_, wt_s110, ⟨_, wt_s110, ⟨_, wt_m111.1, wt_tx h fun k1 h => ⟨(by decide : (32 : Int32) ≠ 0), ⟨_, wt_s110, have h := wt_tw h; ⟨_, wt_s110, have h := wt_tw h; ⟨_, wt_s110, ⟨_, wt_s110, ⟨_, wt_m111.1, wt_tx h fun k4 h => ⟨_, wt_s110, have h := wt_tw h; wt_tr (e := wt_uv) h⟩⟩⟩⟩⟩⟩⟩⟩⟩⟩
def gX11_looksAt_55 : Nat → wt_S → Int32 → Int32 → Option (Unit × wt_S)
  | 0, _, _, _ => none
  | n + 1, s, l2, l3 => (if l3.toInt ≤ l2.toInt then some ((), s) else (wt_cl (gX11_goesBack s) fun _ s1 => gX11_looksAt_55 n s1 l2 (l3 + (-1))))
theorem sX11_looksAt_55 {L d : Nat}    : ∀ (n : Nat) {s : wt_S} {l2 : Int32} {l3 : Int32} {x1 : Option (mj_v Int32)}, wt_sd (wt_H L) wt_uv (d + 1) kX11_looksAt (mj_drop 33 kX11_looksAt) [some (.inr (some 110)), x1, some (.inl l2), some (.inl l3)] [] s (gX11_looksAt_55 n s l2 l3) := by
  intro n
  induction n with
  | zero =>
    intro s l2 l3 x1
    exact fun R h => wt_tn h
  | succ n ih =>
    intro s l2 l3 x1
    unfold gX11_looksAt_55
    exact wt_go1 [55] 45 fun R h => wt_tb h (fun h => wt_tr (e := wt_uv) h) (fun h => ⟨_, wt_s110, _, _, rfl, jX11_goesBack, wt_tc h (sX11_goesBack) fun _ s1 h => ⟨trivial, ih  _ h⟩⟩)
def gX11_looksAt (s : wt_S) (i1 i2 : Int32) : Option (Unit × wt_S) := (wt_ix (3982 + i1) 4073 fun k1 => (wt_wr s 110 11 (s 111 k1) fun s2 => (wt_ix (3975 + i1) 4073 fun k3 => (wt_wr s2 110 12 (s2 111 k3) fun s4 => (wt_ix (3968 + i1) 4073 fun k5 => (wt_wr s4 110 13 (s4 111 k5) fun s6 => (wt_ix (3954 + i1) 4073 fun k7 => gX11_looksAt_55 wt_N s6 i2 ((s6 111 k7) - 1))))))))
theorem sX11_looksAt {L d : Nat}   {s : wt_S} {i1 i2 : Int32} : wt_sd (wt_H L) wt_uv (d + 1) kX11_looksAt kX11_looksAt (mj_ent 4 [.inr (some 110), .inl i1, .inl i2]) [] s (gX11_looksAt s i1 i2) := by
  unfold gX11_looksAt
  exact wt_go [55] 45 fun R h => ⟨_, wt_s110, ⟨_, wt_m111.1, wt_tx h fun k1 h => ⟨_, wt_s110, have h := wt_tw h; ⟨_, wt_s110, ⟨_, wt_m111.1, wt_tx h fun k3 h => ⟨_, wt_s110, have h := wt_tw h; ⟨_, wt_s110, ⟨_, wt_m111.1, wt_tx h fun k5 h => ⟨_, wt_s110, have h := wt_tw h; ⟨_, wt_s110, ⟨_, wt_m111.1, wt_tx h fun k7 h => ⟨trivial, sX11_looksAt_55 wt_N _ h⟩⟩⟩⟩⟩⟩⟩⟩⟩⟩⟩⟩
def gX11_isFrame (s : wt_S) (i1 i2 : Int32) : Option (Int32 × wt_S) := (wt_cl (gX11_isTask s i1) fun v2 s1 => (if v2 = (0 : Int32) then some (0, s1) else (wt_ix (3954 + i1) 4073 fun k3 => (wt_cl (gX11_isIn s1 i2 0 ((s1 111 k3) - 1)) fun v5 s4 => (if v5 = (0 : Int32) then some (0, s4) else some (1, s4))))))
theorem sX11_isFrame {L d : Nat}   {s : wt_S} {i1 i2 : Int32} : wt_sd (wt_H L) wt_iv (d + 2) kX11_isFrame kX11_isFrame (mj_ent 3 [.inr (some 110), .inl i1, .inl i2]) [] s (gX11_isFrame s i1 i2) := by
  unfold gX11_isFrame
  exact wt_go [] 23 fun R h => ⟨_, _, rfl, jX11_isTask, wt_tc h (sX11_isTask) fun v2 s1 h => wt_tb h (fun h => ⟨Or.inl rfl, wt_tr (e := wt_iv) h⟩) (fun h => ⟨_, wt_s110, ⟨_, wt_m111.1, wt_tx h fun k3 h => ⟨_, _, rfl, jX11_isIn, wt_tc h (sX11_isIn) fun v5 s4 h => wt_tb h (fun h => ⟨Or.inl rfl, wt_tr (e := wt_iv) h⟩) (fun h => ⟨Or.inr rfl, wt_tr (e := wt_iv) h⟩)⟩⟩⟩)⟩
def gX11_frame (s : wt_S) (i1 i2 i3 : Int32) : Option (Int32 × wt_S) := (wt_cl (gX11_isFrame s i1 i2) fun v2 s1 => (if v2 ≠ (0 : Int32) then (wt_cl (gX11_looksAt s1 i1 i2) fun _ s3 => (if i3.toInt < 0 ∨ 7 < i3.toInt then some ((-1), s3) else (if i3.toInt = 0 then some ((s3 110 12), s3) else (if i3.toInt = 1 then some ((s3 110 11), s3) else (if i3.toInt = 2 then (wt_cl (gX11_pieceAt s3 (s3 110 11)) fun v5 s4 => (wt_ix (3667 + v5) 4073 fun k6 => some ((s4 111 k6), s4))) else (if i3.toInt = 3 then (wt_ix ((s3 110 11) + 1) 4073 fun k7 => (if ((s3 111 k7) &&& 1024) = (0 : Int32) then some (0, s3) else some (1, s3))) else (if i3.toInt = 4 then some ((s3 110 13), s3) else (if i3.toInt = 5 then (wt_ix ((s3 110 11) + 1) 4073 fun k8 => (if ((s3 111 k8) &&& 2048) = (0 : Int32) then some (0, s3) else some (1, s3))) else (if i3.toInt = 6 then (wt_ix (s3 110 11) 4073 fun k9 => some ((s3 111 k9), s3)) else (if i3.toInt = 7 then (wt_ix ((s3 110 11) + 1) 4073 fun k10 => some ((s3 111 k10), s3)) else none)))))))))) else some ((-1), s1)))
theorem sX11_frame {L d : Nat}   {s : wt_S} {i1 i2 i3 : Int32} : wt_sd (wt_H L) wt_iv (d + 3) kX11_frame kX11_frame (mj_ent 4 [.inr (some 110), .inl i1, .inl i2, .inl i3]) [] s (gX11_frame s i1 i2 i3) := by
  unfold gX11_frame
  exact wt_go [] 80 fun R h => ⟨_, wt_s110, _, _, rfl, jX11_isFrame, wt_tc h (sX11_isFrame) fun v2 s1 h => wt_tb h (fun h => ⟨_, wt_s110, _, _, rfl, jX11_looksAt, wt_tc h (sX11_looksAt) fun _ s3 h => wt_s0 h (fun h => wt_tr (e := wt_iv) h) (fun h => wt_s1 h (fun e => by omega) (fun h => ⟨_, wt_s110, wt_tr (e := wt_iv) h⟩) (fun h => wt_s1 h (fun e => by omega) (fun h => ⟨_, wt_s110, wt_tr (e := wt_iv) h⟩) (fun h => wt_s1 h (fun e => by omega) (fun h => ⟨_, wt_s110, ⟨_, wt_s110, ⟨_, wt_s110, _, _, rfl, jX11_pieceAt, wt_tc h (sX11_pieceAt) fun v5 s4 h => ⟨_, wt_m111.1, wt_tx h fun k6 h => wt_tr (e := wt_iv) h⟩⟩⟩⟩) (fun h => wt_s1 h (fun e => by omega) (fun h => ⟨_, wt_s110, ⟨_, wt_s110, ⟨_, wt_m111.1, wt_tx h fun k7 h => wt_tb h (fun h => wt_tr (e := wt_iv) h) (fun h => wt_tr (e := wt_iv) h)⟩⟩⟩) (fun h => wt_s1 h (fun e => by omega) (fun h => ⟨_, wt_s110, wt_tr (e := wt_iv) h⟩) (fun h => wt_s1 h (fun e => by omega) (fun h => ⟨_, wt_s110, ⟨_, wt_s110, ⟨_, wt_m111.1, wt_tx h fun k8 h => wt_tb h (fun h => wt_tr (e := wt_iv) h) (fun h => wt_tr (e := wt_iv) h)⟩⟩⟩) (fun h => wt_s1 h (fun e => by omega) (fun h => ⟨_, wt_s110, ⟨_, wt_s110, ⟨_, wt_m111.1, wt_tx h fun k9 h => wt_tr (e := wt_iv) h⟩⟩⟩) (fun h => wt_s1 h (fun e => by omega) (fun h => ⟨_, wt_s110, ⟨_, wt_s110, ⟨_, wt_m111.1, wt_tx h fun k10 h => wt_tr (e := wt_iv) h⟩⟩⟩) (fun h => trivial)))))))))⟩) (fun h => wt_tr (e := wt_iv) h)⟩
def gX11_pointed_30 : Nat → wt_S → Int32 → Int32 → Option (Int32 × wt_S)
  | 0, _, _, _ => none
  | n + 1, s, l2, l3 => (if l3.toInt < (0 : Int32).toInt then some ((-1), s) else (wt_ix (2228 + (s 110 12)) 4073 fun k1 => (wt_cl (gX11_isIn s l2 ((s 110 11) + 2) (((s 110 11) + 1) + (s 111 k1))) fun v3 s2 => (if v3 = (0 : Int32) then (if l3.toInt ≤ (0 : Int32).toInt then gX11_pointed_30 n s2 l2 (l3 + (-1)) else (wt_cl (gX11_goesBack s2) fun _ s4 => gX11_pointed_30 n s4 l2 (l3 + (-1)))) else (wt_ix (2238 + (s2 110 12)) 4073 fun k5 => (wt_cl (gX11_has s2 (s2 111 k5) ((l2 - (s2 110 11)) - 2)) fun v7 s6 => (if v7 = (0 : Int32) then some (((((16 * l3) + l2) - (s6 110 11)) - 2), s6) else some ((-1), s6))))))))
theorem sX11_pointed_30 {L d : Nat}    : ∀ (n : Nat) {s : wt_S} {l2 : Int32} {l3 : Int32} {x1 : Option (mj_v Int32)}, wt_sd (wt_H L) wt_iv (d + 2) kX11_pointed (mj_drop 20 kX11_pointed) [some (.inr (some 110)), x1, some (.inl l2), some (.inl l3)] [] s (gX11_pointed_30 n s l2 l3) := by
  intro n
  induction n with
  | zero =>
    intro s l2 l3 x1
    exact fun R h => wt_tn h
  | succ n ih =>
    intro s l2 l3 x1
    unfold gX11_pointed_30
    exact wt_go1 [30] 81 fun R h => wt_tb h (fun h => wt_tr (e := wt_iv) h) (fun h => ⟨_, wt_s110, ⟨_, wt_s110, ⟨_, wt_s110, ⟨_, wt_s110, ⟨_, wt_m111.1, wt_tx h fun k1 h => ⟨_, _, rfl, jX11_isIn, wt_tc h (sX11_isIn) fun v3 s2 h => wt_tb h (fun h => wt_tb h (fun h => ⟨trivial, ih  _ h⟩) (fun h => ⟨_, wt_s110, _, _, rfl, jX11_goesBack, wt_tc h (sX11_goesBack) fun _ s4 h => ⟨trivial, ih  _ h⟩⟩)) (fun h => ⟨_, wt_s110, ⟨_, wt_s110, ⟨_, wt_m111.1, wt_tx h fun k5 h => ⟨_, wt_s110, ⟨_, _, rfl, jX11_has, wt_tc h (sX11_has) fun v7 s6 h => wt_tb h (fun h => ⟨_, wt_s110, wt_tr (e := wt_iv) h⟩) (fun h => wt_tr (e := wt_iv) h)⟩⟩⟩⟩⟩)⟩⟩⟩⟩⟩⟩)
def gX11_pointed (s : wt_S) (i1 i2 : Int32) : Option (Int32 × wt_S) := (wt_ix (3954 + i1) 4073 fun k1 => (wt_cl (gX11_looksAt s i1 ((s 111 k1) - 1)) fun _ s2 => (wt_ix (3954 + i1) 4073 fun k3 => gX11_pointed_30 wt_N s2 i2 ((s2 111 k3) - 1))))
theorem sX11_pointed {L d : Nat}   {s : wt_S} {i1 i2 : Int32} : wt_sd (wt_H L) wt_iv (d + 2) kX11_pointed kX11_pointed (mj_ent 4 [.inr (some 110), .inl i1, .inl i2]) [] s (gX11_pointed s i1 i2) := by
  unfold gX11_pointed
  exact wt_go [30] 81 fun R h => ⟨_, wt_s110, ⟨_, wt_m111.1, wt_tx h fun k1 h => ⟨_, wt_s110, _, _, rfl, jX11_looksAt, wt_tc h (sX11_looksAt) fun _ s2 h => ⟨_, wt_s110, ⟨_, wt_m111.1, wt_tx h fun k3 h => ⟨trivial, sX11_pointed_30 wt_N _ h⟩⟩⟩⟩⟩⟩
def gX11_slot_19 (s : wt_S) : Option (Int32 × wt_S) := some ((-1000000000), s)
theorem sX11_slot_19 {L d : Nat}    {s : wt_S} {x0 x1 x2 x3 x4 x5 x6 x7 : Option (mj_v Int32)} : wt_sd (wt_H L) wt_iv (d + 3) kX11_slot (mj_drop 10 kX11_slot) [x0, x1, x2, x3, x4, x5, x6, x7] [] s (gX11_slot_19 s) := by
  unfold gX11_slot_19
  exact wt_go1 [19, 120, 121] 86 fun R h => wt_tr (e := wt_iv) h
def gX11_slot_121 (s : wt_S) (l4 : Int32) (z0 : Int32) : Option (Int32 × wt_S) := (if z0 ≠ ((-1) : Int32) then (if l4 ≠ (2 : Int32) then some ((z0 - z0 / 16 * 16), s) else some ((z0 / 16), s)) else some ((-1), s))
theorem sX11_slot_121 {L d : Nat}    {s : wt_S} {l4 : Int32} {z0 : Int32} {x0 x1 x2 x3 x5 x6 x7 : Option (mj_v Int32)} : wt_sd (wt_H L) wt_iv (d + 3) kX11_slot (mj_drop 65 kX11_slot) [x0, x1, x2, x3, some (.inl l4), x5, x6, x7] [.inl z0] s (gX11_slot_121 s l4 z0) := by
  unfold gX11_slot_121
  exact wt_go1 [19, 120, 121] 86 fun R h => wt_tb h (fun h => wt_tb h (fun h => ⟨(by decide : (16 : Int32) ≠ 0), wt_tr (e := wt_iv) h⟩) (fun h => ⟨(by decide : (16 : Int32) ≠ 0), wt_tr (e := wt_iv) h⟩)) (fun h => wt_tr (e := wt_iv) h)
def gX11_slot_120 (s : wt_S) (l4 : Int32) : Option (Int32 × wt_S) := gX11_slot_121 s l4 (-1)
theorem sX11_slot_120 {L d : Nat}    {s : wt_S} {l4 : Int32} {x0 x1 x2 x3 x5 x6 x7 : Option (mj_v Int32)} : wt_sd (wt_H L) wt_iv (d + 3) kX11_slot (mj_drop 64 kX11_slot) [x0, x1, x2, x3, some (.inl l4), x5, x6, x7] [] s (gX11_slot_120 s l4) := by
  unfold gX11_slot_120
  exact wt_go1 [19, 120, 121] 86 fun R h => ⟨trivial, sX11_slot_121 _ h⟩
def gX11_slot (s : wt_S) (i1 i2 i3 i4 : Int32) : Option (Int32 × wt_S) := (wt_cl (gX11_isFrame s i1 i2) fun v2 s1 => (if v2 = (0 : Int32) then gX11_slot_19 s1 else (wt_cl (gX11_isIn s1 i4 0 3) fun v4 s3 => (if v4 ≠ (0 : Int32) then (wt_cl (gX11_looksAt s3 i1 i2) fun _ s5 => (wt_cl (gX11_isSlot s5 (s5 110 12) i3) fun v7 s6 => (if v7 ≠ (0 : Int32) then (wt_ix (((s6 110 11) + 2) + i3) 4073 fun k8 => (wt_cl (gX11_isPointer s6 (s6 110 12) i3) fun v10 s9 => (if (2 : Int32).toInt ≤ i4.toInt then (if v10 = (0 : Int32) then gX11_slot_120 s9 i4 else (if (s6 111 k8) = ((-1) : Int32) then gX11_slot_120 s9 i4 else (wt_cl (gX11_pointed s9 i1 (s6 111 k8)) fun v12 s11 => gX11_slot_121 s11 i4 v12))) else (if i4 ≠ (1 : Int32) then (if v10 = (0 : Int32) then some (0, s9) else some (1, s9)) else some ((s6 111 k8), s9))))) else some ((-1000000000), s6)))) else gX11_slot_19 s3))))
theorem sX11_slot {L d : Nat}   {s : wt_S} {i1 i2 i3 i4 : Int32} : wt_sd (wt_H L) wt_iv (d + 3) kX11_slot kX11_slot (mj_ent 8 [.inr (some 110), .inl i1, .inl i2, .inl i3, .inl i4]) [] s (gX11_slot s i1 i2 i3 i4) := by
  unfold gX11_slot
  exact wt_go [19, 120, 121] 86 fun R h => ⟨_, wt_s110, _, _, rfl, jX11_isFrame, wt_tc h (sX11_isFrame) fun v2 s1 h => wt_tb h (fun h => ⟨trivial, sX11_slot_19 _ h⟩) (fun h => ⟨_, _, rfl, jX11_isIn, wt_tc h (sX11_isIn) fun v4 s3 h => wt_tb h (fun h => ⟨_, wt_s110, _, _, rfl, jX11_looksAt, wt_tc h (sX11_looksAt) fun _ s5 h => ⟨_, wt_s110, ⟨_, wt_s110, _, _, rfl, jX11_isSlot, wt_tc h (sX11_isSlot) fun v7 s6 h => wt_tb h (fun h => ⟨_, wt_s110, ⟨_, wt_s110, ⟨_, wt_m111.1, wt_tx h fun k8 h => ⟨_, wt_s110, ⟨_, wt_s110, _, _, rfl, jX11_isPointer, wt_tc h (sX11_isPointer) fun v10 s9 h => wt_tb h (fun h => wt_tb h (fun h => ⟨trivial, sX11_slot_120 _ h⟩) (fun h => wt_tb h (fun h => ⟨trivial, sX11_slot_120 _ h⟩) (fun h => ⟨_, wt_s110, _, _, rfl, jX11_pointed, wt_tc h (sX11_pointed) fun v12 s11 h => ⟨trivial, sX11_slot_121 _ h⟩⟩))) (fun h => wt_tb h (fun h => wt_tb h (fun h => wt_tr (e := wt_iv) h) (fun h => wt_tr (e := wt_iv) h)) (fun h => wt_tr (e := wt_iv) h))⟩⟩⟩⟩⟩) (fun h => wt_tr (e := wt_iv) h)⟩⟩⟩) (fun h => ⟨trivial, sX11_slot_19 _ h⟩)⟩)⟩
