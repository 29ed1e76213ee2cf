def gX11_piece_47 (s : wt_S) (l1 : Int32) (l3 : Int32) (z1 : Int32) (z2 : Int32) : Option (Int32 × wt_S) := (wt_cl (gX11_pieceOf s z1 z2) fun v2 s1 => (if l3.toInt < 0 ∨ 3 < l3.toInt then some ((-1), s1) else (if l3.toInt = 0 then (wt_ix (2899 + v2) 4073 fun k3 => some ((s1 111 k3), s1)) else (if l3.toInt = 1 then (wt_ix (3155 + v2) 4073 fun k4 => some ((s1 111 k4), s1)) else (if l3.toInt = 2 then (wt_cl (gX11_usedIn s1 l1 v2) fun v6 s5 => some (v6, s5)) else (if l3.toInt = 3 then (wt_ix (3667 + v2) 4073 fun k7 => (if (s1 111 k7) ≠ (1000 : Int32) then some (0, s1) else some (1, s1))) else none))))))
theorem sX11_piece_47 {L d : Nat}    {s : wt_S} {l1 : Int32} {l3 : Int32} {z1 : Int32} {z2 : Int32} {x2 x4 : Option (mj_v Int32)} : wt_sd (wt_H L) wt_iv (d + 3) kX11_piece (mj_drop 27 kX11_piece) [some (.inr (some 110)), some (.inl l1), x2, some (.inl l3), x4] [.inl z2, .inl z1, .inr (some 110)] s (gX11_piece_47 s l1 l3 z1 z2) := by
  unfold gX11_piece_47
  exact wt_go1 [47] 68 fun R h => ⟨_, wt_s110, _, _, rfl, jX11_pieceOf, wt_tc h (sX11_pieceOf) fun v2 s1 h => wt_s0 h (fun h => wt_tr (e := wt_iv) h) (fun h => wt_s1 h (fun e => by omega) (fun h => ⟨_, wt_s110, ⟨_, wt_m111.1, wt_tx h fun k3 h => wt_tr (e := wt_iv) h⟩⟩) (fun h => wt_s1 h (fun e => by omega) (fun h => ⟨_, wt_s110, ⟨_, wt_m111.1, wt_tx h fun k4 h => wt_tr (e := wt_iv) h⟩⟩) (fun h => wt_s1 h (fun e => by omega) (fun h => ⟨_, wt_s110, _, _, rfl, jX11_usedIn, wt_tc h (sX11_usedIn) fun v6 s5 h => wt_tr (e := wt_iv) h⟩) (fun h => wt_s1 h (fun e => by omega) (fun h => ⟨_, wt_s110, ⟨_, wt_m111.1, wt_tx h fun k7 h => wt_tb h (fun h => wt_tr (e := wt_iv) h) (fun h => wt_tr (e := wt_iv) h)⟩⟩) (fun h => trivial)))))⟩
def gX11_piece (s : wt_S) (i1 i2 i3 : Int32) : Option (Int32 × wt_S) := (wt_cl (gX11_isTask s i1) fun v2 s1 => (if v2 = (0 : Int32) then some ((-1), s1) else (wt_cl (gX11_piecesOf s1 i1) fun v4 s3 => (wt_cl (gX11_isIn s3 i2 0 (v4 - 1)) fun v6 s5 => (if v6 ≠ (0 : Int32) then (wt_ix (4066 + i1) 4073 fun k7 => (if (s5 111 k7).toInt ≤ i2.toInt then gX11_piece_47 s5 i1 i3 i1 1000 else gX11_piece_47 s5 i1 i3 i1 i2)) else some ((-1), s5))))))
theorem sX11_piece {L d : Nat}   {s : wt_S} {i1 i2 i3 : Int32} : wt_sd (wt_H L) wt_iv (d + 3) kX11_piece kX11_piece (mj_ent 5 [.inr (some 110), .inl i1, .inl i2, .inl i3]) [] s (gX11_piece s i1 i2 i3) := by
  unfold gX11_piece
  exact wt_go [47] 68 fun R h => ⟨_, _, rfl, jX11_isTask, wt_tc h (sX11_isTask) fun v2 s1 h => wt_tb h (fun h => wt_tr (e := wt_iv) h) (fun h => ⟨_, wt_s110, _, _, rfl, jX11_piecesOf, wt_tc h (sX11_piecesOf) fun v4 s3 h => ⟨_, _, rfl, jX11_isIn, wt_tc h (sX11_isIn) fun v6 s5 h => wt_tb h (fun h => ⟨_, wt_s110, ⟨_, wt_m111.1, wt_tx h fun k7 h => wt_tb h (fun h => ⟨trivial, sX11_piece_47 _ h⟩) (fun h => ⟨trivial, sX11_piece_47 _ h⟩)⟩⟩) (fun h => wt_tr (e := wt_iv) h)⟩⟩)⟩
def gX11_gap_92 (K8 : wt_S → Int32 → Int32 → Int32 → Int32 → Int32 → Option (Int32 × wt_S)) (s : wt_S) (l1 : Int32) (l2 : Int32) (l3 : Int32) (l4 : Int32) (l5 : Int32) (l6 : Int32) : Option (Int32 × wt_S) := (if (s 111 2898).toInt ≤ l5.toInt then K8 s l1 l2 l3 l4 (l5 + 1) else (wt_ix (3155 + l5) 4073 fun k1 => K8 s l1 l2 l3 (l6 + (s 111 k1)) (l5 + 1)))
theorem sX11_gap_92 {L d : Nat}  {K8 : wt_S → Int32 → Int32 → Int32 → Int32 → Int32 → Option (Int32 × wt_S)}  (hK8 : ∀ {s : wt_S} {l1 : Int32} {l2 : Int32} {l3 : Int32} {l4 : Int32} {l5 : Int32} {x6 : Option (mj_v Int32)}, wt_sd (wt_H L) wt_iv d kX11_gap (mj_drop 6 kX11_gap) [some (.inr (some 110)), some (.inl l1), some (.inl l2), some (.inl l3), some (.inl l4), some (.inl l5), x6] [] s (K8 s l1 l2 l3 l4 l5)) {s : wt_S} {l1 : Int32} {l2 : Int32} {l3 : Int32} {l4 : Int32} {l5 : Int32} {l6 : Int32} : wt_sd (wt_H L) wt_iv d kX11_gap (mj_drop 47 kX11_gap) [some (.inr (some 110)), some (.inl l1), some (.inl l2), some (.inl l3), some (.inl l4), some (.inl l5), some (.inl l6)] [] s (gX11_gap_92 K8 s l1 l2 l3 l4 l5 l6) := by
  unfold gX11_gap_92
  exact wt_go1 [8, 51, 92] 75 fun R h => ⟨_, wt_s110, ⟨_, wt_m111.1, 2898, ⟨rfl, by decide⟩, wt_tb h (fun h => ⟨trivial, hK8  _ h⟩) (fun h => ⟨_, wt_s110, ⟨_, wt_m111.1, wt_tx h fun k1 h => ⟨trivial, hK8  _ h⟩⟩⟩)⟩⟩
def gX11_gap_51 (K8 : wt_S → Int32 → Int32 → Int32 → Int32 → Int32 → Option (Int32 × wt_S)) (s : wt_S) (l1 : Int32) (l2 : Int32) (l3 : Int32) (l4 : Int32) (l5 : Int32) (z0 : Int32) : Option (Int32 × wt_S) := (if z0.toInt ≤ l4.toInt then gX11_gap_92 K8 s l1 l2 l3 l4 l5 z0 else (if l3 ≠ l1 then gX11_gap_92 K8 s l1 l2 (l3 + 1) l4 l5 z0 else (if l2 ≠ (0 : Int32) then (if l2 ≠ (1 : Int32) then some ((-1), s) else some ((z0 - l4), s)) else some (l4, s))))
theorem sX11_gap_51 {L d : Nat}  {K8 : wt_S → Int32 → Int32 → Int32 → Int32 → Int32 → Option (Int32 × wt_S)}  (hK8 : ∀ {s : wt_S} {l1 : Int32} {l2 : Int32} {l3 : Int32} {l4 : Int32} {l5 : Int32} {x6 : Option (mj_v Int32)}, wt_sd (wt_H L) wt_iv d kX11_gap (mj_drop 6 kX11_gap) [some (.inr (some 110)), some (.inl l1), some (.inl l2), some (.inl l3), some (.inl l4), some (.inl l5), x6] [] s (K8 s l1 l2 l3 l4 l5)) {s : wt_S} {l1 : Int32} {l2 : Int32} {l3 : Int32} {l4 : Int32} {l5 : Int32} {z0 : Int32} {x6 : Option (mj_v Int32)} : wt_sd (wt_H L) wt_iv d kX11_gap (mj_drop 26 kX11_gap) [some (.inr (some 110)), some (.inl l1), some (.inl l2), some (.inl l3), some (.inl l4), some (.inl l5), x6] [.inl z0] s (gX11_gap_51 K8 s l1 l2 l3 l4 l5 z0) := by
  unfold gX11_gap_51
  exact wt_go1 [8, 51, 92] 75 fun R h => wt_tb h (fun h => ⟨trivial, sX11_gap_92 hK8 _ h⟩) (fun h => wt_tb h (fun h => ⟨trivial, sX11_gap_92 hK8 _ h⟩) (fun h => wt_tb h (fun h => wt_tb h (fun h => wt_tr (e := wt_iv) h) (fun h => wt_tr (e := wt_iv) h)) (fun h => wt_tr (e := wt_iv) h)))
def gX11_gap_8 : Nat → wt_S → Int32 → Int32 → Int32 → Int32 → Int32 → Option (Int32 × wt_S)
  | 0, _, _, _, _, _, _ => none
  | n + 1, s, l1, l2, l3, l4, l5 => (if (s 111 2898).toInt < l5.toInt then (if l1 ≠ ((-1) : Int32) then some ((-1), s) else some (l3, s)) else (if (s 111 2898).toInt ≤ l5.toInt then gX11_gap_51 (gX11_gap_8 n) s l1 l2 l3 l4 l5 2048 else (wt_ix (2899 + l5) 4073 fun k1 => gX11_gap_51 (gX11_gap_8 n) s l1 l2 l3 l4 l5 (s 111 k1))))
theorem sX11_gap_8 {L d : Nat}    : ∀ (n : Nat) {s : wt_S} {l1 : Int32} {l2 : Int32} {l3 : Int32} {l4 : Int32} {l5 : Int32} {x6 : Option (mj_v Int32)}, wt_sd (wt_H L) wt_iv d kX11_gap (mj_drop 6 kX11_gap) [some (.inr (some 110)), some (.inl l1), some (.inl l2), some (.inl l3), some (.inl l4), some (.inl l5), x6] [] s (gX11_gap_8 n s l1 l2 l3 l4 l5) := by
  intro n
  induction n with
  | zero =>
    intro s l1 l2 l3 l4 l5 x6
    exact fun R h => wt_tn h
  | succ n ih =>
    intro s l1 l2 l3 l4 l5 x6
    unfold gX11_gap_8
    exact wt_go1 [8, 51, 92] 75 fun R h => ⟨_, wt_s110, ⟨_, wt_m111.1, 2898, ⟨rfl, by decide⟩, wt_tb h (fun h => wt_tb h (fun h => wt_tr (e := wt_iv) h) (fun h => wt_tr (e := wt_iv) h)) (fun h => ⟨_, wt_s110, ⟨_, wt_m111.1, 2898, ⟨rfl, by decide⟩, wt_tb h (fun h => ⟨trivial, sX11_gap_51 ih _ h⟩) (fun h => ⟨_, wt_s110, ⟨_, wt_m111.1, wt_tx h fun k1 h => ⟨trivial, sX11_gap_51 ih _ h⟩⟩⟩)⟩⟩)⟩⟩
def gX11_gap (s : wt_S) (i1 i2 : Int32) : Option (Int32 × wt_S) := gX11_gap_8 wt_N s i1 i2 0 0 0
theorem sX11_gap {L d : Nat}   {s : wt_S} {i1 i2 : Int32} : wt_sd (wt_H L) wt_iv d kX11_gap kX11_gap (mj_ent 7 [.inr (some 110), .inl i1, .inl i2]) [] s (gX11_gap s i1 i2) := by
  unfold gX11_gap
  exact wt_go [8, 51, 92] 75 fun R h => ⟨trivial, sX11_gap_8 wt_N _ h⟩
def gX11_endless_26 (s : wt_S) : Option (Int32 × wt_S) := some ((-1000000000), s)
theorem sX11_endless_26 {L d : Nat}    {s : wt_S} {x0 x1 x2 x3 : Option (mj_v Int32)} : wt_sd (wt_H L) wt_iv (d + 24) kX11_endless (mj_drop 14 kX11_endless) [x0, x1, x2, x3] [] s (gX11_endless_26 s) := by
  unfold gX11_endless_26
  exact wt_go1 [26] 40 fun R h => wt_tr (e := wt_iv) h
def gX11_endless (s : wt_S) (i1 i2 i3 : Int32) : Option (Int32 × wt_S) := (wt_cl (gX11_isTold s i1) fun v2 s1 => (if v2 = (0 : Int32) then gX11_endless_26 s1 else (wt_cl (gX11_isIn s1 i3 0 2) fun v4 s3 => (if v4 = (0 : Int32) then gX11_endless_26 s3 else (wt_cl (gX11_runsEndless s3 i1 i2) fun v6 s5 => (if v6 ≠ (0 : Int32) then (if i3 ≠ (0 : Int32) then (if i3 ≠ (1 : Int32) then some ((s5 111 4051), s5) else some ((s5 111 3953), s5)) else some ((s5 111 3946), s5)) else gX11_endless_26 s5))))))
theorem sX11_endless {L d : Nat}   {s : wt_S} {i1 i2 i3 : Int32} : wt_sd (wt_H L) wt_iv (d + 24) kX11_endless kX11_endless (mj_ent 4 [.inr (some 110), .inl i1, .inl i2, .inl i3]) [] s (gX11_endless s i1 i2 i3) := by
  unfold gX11_endless
  exact wt_go [26] 40 fun R h => ⟨_, wt_s110, _, _, rfl, jX11_isTold, wt_tc h (sX11_isTold) fun v2 s1 h => wt_tb h (fun h => ⟨trivial, sX11_endless_26 _ h⟩) (fun h => ⟨_, _, rfl, jX11_isIn, wt_tc h (sX11_isIn) fun v4 s3 h => wt_tb h (fun h => ⟨trivial, sX11_endless_26 _ h⟩) (fun h => ⟨_, wt_s110, _, _, rfl, jX11_runsEndless, wt_tc h (sX11_runsEndless) fun v6 s5 h => wt_tb h (fun h => wt_tb h (fun h => wt_tb h (fun h => ⟨_, wt_s110, ⟨_, wt_m111.1, 4051, ⟨rfl, by decide⟩, wt_tr (e := wt_iv) h⟩⟩) (fun h => ⟨_, wt_s110, ⟨_, wt_m111.1, 3953, ⟨rfl, by decide⟩, wt_tr (e := wt_iv) h⟩⟩)) (fun h => ⟨_, wt_s110, ⟨_, wt_m111.1, 3946, ⟨rfl, by decide⟩, wt_tr (e := wt_iv) h⟩⟩)) (fun h => ⟨trivial, sX11_endless_26 _ h⟩)⟩)⟩)⟩
def gX11_land_123 (s : wt_S) (z0 : Int32) : Option (Int32 × wt_S) := (wt_cl (gX11_copies 112 4073 111 4073 s) fun _ s1 => some (z0, s1))
theorem sX11_land_123 {L d : Nat}    {s : wt_S} {z0 : Int32} {x1 x2 x3 x4 : Option (mj_v Int32)} : wt_sd (wt_H L) wt_iv (d + 28) kX11_land (mj_drop 67 kX11_land) [some (.inr (some 110)), x1, x2, x3, x4] [.inl z0] s (gX11_land_123 s z0) := by
  unfold gX11_land_123
  exact wt_go1 [123] 79 fun R h => ⟨_, wt_s110, ⟨_, wt_s110, ⟨_, _, rfl, jX11_copies, wt_tc h (sX11_copies wt_m112 wt_m111) fun _ s1 h => wt_tr (e := wt_iv) h⟩⟩⟩
def gX11_land (s : wt_S) (i1 i2 i3 : Int32) : Option (Int32 × wt_S) := (wt_cl (gX11_isTask s i1) fun v2 s1 => (if v2 = (0 : Int32) then some ((-1), s1) else (wt_cl (gX11_isIn s1 i2 1 200) fun v4 s3 => (if v4 = (0 : Int32) then some ((-1), s3) else (wt_cl (gX11_isIn s3 i3 0 4) fun v6 s5 => (if v6 ≠ (0 : Int32) then (wt_cl (gX11_copies 111 4073 112 4073 s5) fun _ s7 => (wt_cl (gX11_runs s7 i1 i2) fun v9 s8 => (if i3 ≠ (0 : Int32) then (if i3 ≠ (1 : Int32) then (if i3 ≠ (2 : Int32) then (if i3 ≠ (3 : Int32) then (wt_ix (4017 + i1) 4073 fun k10 => gX11_land_123 s8 (s8 111 k10)) else (wt_cl (gX11_wordsOf s8 i1) fun v12 s11 => gX11_land_123 s11 v12)) else (wt_ix (3961 + i1) 4073 fun k13 => gX11_land_123 s8 (s8 111 k13))) else (wt_ix (3954 + i1) 4073 fun k14 => gX11_land_123 s8 (s8 111 k14))) else (wt_ix (3926 + i1) 4073 fun k15 => gX11_land_123 s8 (s8 111 k15))))) else some ((-1), s5)))))))
theorem sX11_land {L d : Nat}   {s : wt_S} {i1 i2 i3 : Int32} : wt_sd (wt_H L) wt_iv (d + 28) kX11_land kX11_land (mj_ent 5 [.inr (some 110), .inl i1, .inl i2, .inl i3]) [] s (gX11_land s i1 i2 i3) := by
  unfold gX11_land
  exact wt_go [123] 79 fun R h => ⟨_, _, rfl, jX11_isTask, wt_tc h (sX11_isTask) fun v2 s1 h => wt_tb h (fun h => wt_tr (e := wt_iv) h) (fun h => ⟨_, _, rfl, jX11_isIn, wt_tc h (sX11_isIn) fun v4 s3 h => wt_tb h (fun h => wt_tr (e := wt_iv) h) (fun h => ⟨_, _, rfl, jX11_isIn, wt_tc h (sX11_isIn) fun v6 s5 h => wt_tb h (fun h => ⟨_, wt_s110, ⟨_, wt_s110, ⟨_, _, rfl, jX11_copies, wt_tc h (sX11_copies wt_m111 wt_m112) fun _ s7 h => ⟨_, wt_s110, _, _, rfl, jX11_runs, wt_tc h (sX11_runs) fun v9 s8 h => wt_tb h (fun h => wt_tb h (fun h => wt_tb h (fun h => wt_tb h (fun h => ⟨_, wt_s110, ⟨_, wt_m111.1, wt_tx h fun k10 h => ⟨trivial, sX11_land_123 _ h⟩⟩⟩) (fun h => ⟨_, wt_s110, _, _, rfl, jX11_wordsOf, wt_tc h (sX11_wordsOf) fun v12 s11 h => ⟨trivial, sX11_land_123 _ h⟩⟩)) (fun h => ⟨_, wt_s110, ⟨_, wt_m111.1, wt_tx h fun k13 h => ⟨trivial, sX11_land_123 _ h⟩⟩⟩)) (fun h => ⟨_, wt_s110, ⟨_, wt_m111.1, wt_tx h fun k14 h => ⟨trivial, sX11_land_123 _ h⟩⟩⟩)) (fun h => ⟨_, wt_s110, ⟨_, wt_m111.1, wt_tx h fun k15 h => ⟨trivial, sX11_land_123 _ h⟩⟩⟩)⟩⟩⟩⟩) (fun h => wt_tr (e := wt_iv) h)⟩)⟩)⟩
def gX11_runsAlone_94 (K52 : wt_S → Int32 → Int32 → Option (Int32 × wt_S)) (s : wt_S) (l5 : Int32) (z0 : Int32) : Option (Int32 × wt_S) := K52 s z0 (l5 + 1)
theorem sX11_runsAlone_94 {L d : Nat}  {K52 : wt_S → Int32 → Int32 → Option (Int32 × wt_S)}  (hK52 : ∀ {s : wt_S} {l4 : Int32} {l5 : Int32} {x1 x2 x3 x6 : Option (mj_v Int32)}, wt_sd (wt_H L) wt_iv (d + 27) kX11_runsAlone (mj_drop 29 kX11_runsAlone) [some (.inr (some 110)), x1, x2, x3, some (.inl l4), some (.inl l5), x6] [] s (K52 s l4 l5)) {s : wt_S} {l5 : Int32} {z0 : Int32} {x1 x2 x3 x4 x6 : Option (mj_v Int32)} : wt_sd (wt_H L) wt_iv (d + 27) kX11_runsAlone (mj_drop 49 kX11_runsAlone) [some (.inr (some 110)), x1, x2, x3, x4, some (.inl l5), x6] [.inl z0] s (gX11_runsAlone_94 K52 s l5 z0) := by
  unfold gX11_runsAlone_94
  exact wt_go1 [3, 52, 94] 58 fun R h => ⟨trivial, hK52  _ h⟩
def gX11_runsAlone_52 : Nat → wt_S → Int32 → Int32 → Option (Int32 × wt_S)
  | 0, _, _, _ => none
  | n + 1, s, l4, l5 => (if (2000 : Int32).toInt ≤ l5.toInt then some (l4, s) else (wt_cl (gX11_isBusy s 0) fun v2 s1 => (if v2 = (0 : Int32) then some (l4, s1) else (wt_cl (gX11_steps gX11_runsEndless s1 0) fun _ s3 => (wt_cl (gX11_wordsOf s3 0) fun v5 s4 => (if v5.toInt ≤ l4.toInt then gX11_runsAlone_94 (gX11_runsAlone_52 n) s4 l5 l4 else gX11_runsAlone_94 (gX11_runsAlone_52 n) s4 l5 v5))))))
theorem sX11_runsAlone_52 {L d : Nat}    : ∀ (n : Nat) {s : wt_S} {l4 : Int32} {l5 : Int32} {x1 x2 x3 x6 : Option (mj_v Int32)}, wt_sd (wt_H L) wt_iv (d + 27) kX11_runsAlone (mj_drop 29 kX11_runsAlone) [some (.inr (some 110)), x1, x2, x3, some (.inl l4), some (.inl l5), x6] [] s (gX11_runsAlone_52 n s l4 l5) := by
  intro n
  induction n with
  | zero =>
    intro s l4 l5 x1 x2 x3 x6
    exact fun R h => wt_tn h
  | succ n ih =>
    intro s l4 l5 x1 x2 x3 x6
    unfold gX11_runsAlone_52
    exact wt_go1 [3, 52, 94] 58 fun R h => wt_tb h (fun h => wt_tr (e := wt_iv) h) (fun h => ⟨_, wt_s110, _, _, rfl, jX11_isBusy, wt_tc h (sX11_isBusy) fun v2 s1 h => wt_tb h (fun h => wt_tr (e := wt_iv) h) (fun h => ⟨_, wt_s110, _, _, rfl, jX11_steps, wt_tc h (sX11_steps sX11_runsEndless) fun _ s3 h => ⟨_, wt_s110, _, _, rfl, jX11_wordsOf, wt_tc h (sX11_wordsOf) fun v5 s4 h => wt_tb h (fun h => ⟨trivial, sX11_runsAlone_94 ih _ h⟩) (fun h => ⟨trivial, sX11_runsAlone_94 ih _ h⟩)⟩⟩)⟩)
def gX11_runsAlone_3 : Nat → wt_S → Int32 → Int32 → Int32 → Int32 → Option (Int32 × wt_S)
  | 0, _, _, _, _, _ => none
  | n + 1, s, l1, l2, l3, l4 => (if (6 : Int32).toInt ≤ l4.toInt then (wt_wr s 110 10 0 fun s1 => (wt_cl (gX11_begins s1 0 l1 l2 l3) fun v3 s2 => (wt_cl (gX11_wordsOf s2 0) fun v5 s4 => gX11_runsAlone_52 wt_N s4 v5 0))) else (wt_cl (gX11_givesAll s l4) fun _ s6 => (wt_cl (gX11_clears s6 l4) fun _ s7 => gX11_runsAlone_3 n s7 l1 l2 l3 (l4 + 1))))
theorem sX11_runsAlone_3 {L d : Nat}    : ∀ (n : Nat) {s : wt_S} {l1 : Int32} {l2 : Int32} {l3 : Int32} {l4 : Int32} {x5 x6 : Option (mj_v Int32)}, wt_sd (wt_H L) wt_iv (d + 27) kX11_runsAlone (mj_drop 2 kX11_runsAlone) [some (.inr (some 110)), some (.inl l1), some (.inl l2), some (.inl l3), some (.inl l4), x5, x6] [] s (gX11_runsAlone_3 n s l1 l2 l3 l4) := by
  intro n
  induction n with
  | zero =>
    intro s l1 l2 l3 l4 x5 x6
    exact fun R h => wt_tn h
  | succ n ih =>
    intro s l1 l2 l3 l4 x5 x6
    unfold gX11_runsAlone_3
    exact wt_go1 [3, 52, 94] 58 fun R h => wt_tb h (fun h => ⟨_, wt_s110, Or.inl rfl, have h := wt_tw h; ⟨_, wt_s110, _, _, rfl, jX11_begins, wt_tc h (sX11_begins) fun v3 s2 h => ⟨_, wt_s110, _, _, rfl, jX11_wordsOf, wt_tc h (sX11_wordsOf) fun v5 s4 h => ⟨trivial, sX11_runsAlone_52 wt_N _ h⟩⟩⟩⟩) (fun h => ⟨_, wt_s110, _, _, rfl, jX11_givesAll, wt_tc h (sX11_givesAll) fun _ s6 h => ⟨_, wt_s110, _, _, rfl, jX11_clears, wt_tc h (sX11_clears) fun _ s7 h => ⟨trivial, ih  _ h⟩⟩⟩)
def gX11_runsAlone (s : wt_S) (i1 i2 i3 : Int32) : Option (Int32 × wt_S) := gX11_runsAlone_3 wt_N s i1 i2 i3 0
theorem sX11_runsAlone {L d : Nat}   {s : wt_S} {i1 i2 i3 : Int32} : wt_sd (wt_H L) wt_iv (d + 27) kX11_runsAlone kX11_runsAlone (mj_ent 7 [.inr (some 110), .inl i1, .inl i2, .inl i3]) [] s (gX11_runsAlone s i1 i2 i3) := by
  unfold gX11_runsAlone
  exact wt_go [3, 52, 94] 58 fun R h => ⟨trivial, sX11_runsAlone_3 wt_N _ h⟩
def gX11_alone_200 (s : wt_S) (l5 : Int32) : Option (Int32 × wt_S) := (wt_cl (gX11_copies 112 4073 111 4073 s) fun _ s1 => some (l5, s1))
theorem sX11_alone_200 {L d : Nat}    {s : wt_S} {l5 : Int32} {x1 x2 x3 x4 x6 : Option (mj_v Int32)} : wt_sd (wt_H L) wt_iv (d + 28) kX11_alone (mj_drop 100 kX11_alone) [some (.inr (some 110)), x1, x2, x3, x4, some (.inl l5), x6] [] s (gX11_alone_200 s l5) := by
  unfold gX11_alone_200
  exact wt_go1 [146, 155, 191, 200] 111 fun R h => ⟨_, wt_s110, ⟨_, wt_s110, ⟨_, _, rfl, jX11_copies, wt_tc h (sX11_copies wt_m112 wt_m111) fun _ s1 h => wt_tr (e := wt_iv) h⟩⟩⟩
def gX11_alone_146 (s : wt_S) (z0 : Int32) : Option (Int32 × wt_S) := gX11_alone_200 s z0
theorem sX11_alone_146 {L d : Nat}    {s : wt_S} {z0 : Int32} {x1 x2 x3 x4 x5 x6 : Option (mj_v Int32)} : wt_sd (wt_H L) wt_iv (d + 28) kX11_alone (mj_drop 72 kX11_alone) [some (.inr (some 110)), x1, x2, x3, x4, x5, x6] [.inl z0] s (gX11_alone_146 s z0) := by
  unfold gX11_alone_146
  exact wt_go1 [146, 155, 191, 200] 111 fun R h => ⟨trivial, sX11_alone_200 _ h⟩
def gX11_alone_191 (K155 : wt_S → Int32 → Int32 → Int32 → Int32 → Int32 → Option (Int32 × wt_S)) (s : wt_S) (l1 : Int32) (l2 : Int32) (l3 : Int32) (l5 : Int32) (l6 : Int32) : Option (Int32 × wt_S) := K155 s l1 l2 l3 l5 (l6 / 2)
theorem sX11_alone_191 {L d : Nat}  {K155 : wt_S → Int32 → Int32 → Int32 → Int32 → Int32 → Option (Int32 × wt_S)}  (hK155 : ∀ {s : wt_S} {l1 : Int32} {l2 : Int32} {l3 : Int32} {l5 : Int32} {l6 : Int32} {x4 : Option (mj_v Int32)}, wt_sd (wt_H L) wt_iv (d + 28) kX11_alone (mj_drop 76 kX11_alone) [some (.inr (some 110)), some (.inl l1), some (.inl l2), some (.inl l3), x4, some (.inl l5), some (.inl l6)] [] s (K155 s l1 l2 l3 l5 l6)) {s : wt_S} {l1 : Int32} {l2 : Int32} {l3 : Int32} {l5 : Int32} {l6 : Int32} {x4 : Option (mj_v Int32)} : wt_sd (wt_H L) wt_iv (d + 28) kX11_alone (mj_drop 95 kX11_alone) [some (.inr (some 110)), some (.inl l1), some (.inl l2), some (.inl l3), x4, some (.inl l5), some (.inl l6)] [] s (gX11_alone_191 K155 s l1 l2 l3 l5 l6) := by
  unfold gX11_alone_191
  exact wt_go1 [146, 155, 191, 200] 111 fun R h => ⟨(by decide : (2 : Int32) ≠ 0), ⟨trivial, hK155  _ h⟩⟩
def gX11_alone_155 : Nat → wt_S → Int32 → Int32 → Int32 → Int32 → Int32 → Option (Int32 × wt_S)
  | 0, _, _, _, _, _, _ => none
  | n + 1, s, l1, l2, l3, l5, l6 => (if l6.toInt < (8 : Int32).toInt then gX11_alone_200 s l5 else (wt_wr s 111 2048 l6 fun s1 => (wt_cl (gX11_runsAlone s1 l1 l2 l3) fun v3 s2 => (if (s2 110 10) ≠ (0 : Int32) then gX11_alone_191 (gX11_alone_155 n) s2 l1 l2 l3 l5 l6 else gX11_alone_191 (gX11_alone_155 n) s2 l1 l2 l3 l6 l6))))
theorem sX11_alone_155 {L d : Nat}    : ∀ (n : Nat) {s : wt_S} {l1 : Int32} {l2 : Int32} {l3 : Int32} {l5 : Int32} {l6 : Int32} {x4 : Option (mj_v Int32)}, wt_sd (wt_H L) wt_iv (d + 28) kX11_alone (mj_drop 76 kX11_alone) [some (.inr (some 110)), some (.inl l1), some (.inl l2), some (.inl l3), x4, some (.inl l5), some (.inl l6)] [] s (gX11_alone_155 n s l1 l2 l3 l5 l6) := by
  intro n
  induction n with
  | zero =>
    intro s l1 l2 l3 l5 l6 x4
    exact fun R h => wt_tn h
  | succ n ih =>
    intro s l1 l2 l3 l5 l6 x4
    unfold gX11_alone_155
    exact wt_go1 [146, 155, 191, 200] 111 fun R h => wt_tb h (fun h => ⟨trivial, sX11_alone_200 _ h⟩) (fun h => ⟨_, wt_s110, ⟨_, wt_m111, 2048, ⟨rfl, by decide⟩, have h := wt_tw h; ⟨_, wt_s110, _, _, rfl, jX11_runsAlone, wt_tc h (sX11_runsAlone) fun v3 s2 h => ⟨_, wt_s110, wt_tb h (fun h => ⟨trivial, sX11_alone_191 ih _ h⟩) (fun h => ⟨trivial, sX11_alone_191 ih _ h⟩)⟩⟩⟩⟩)
def gX11_alone (s : wt_S) (i1 i2 i3 i4 : Int32) : Option (Int32 × wt_S) := (wt_cl (gX11_isTold s i1) fun v2 s1 => (if v2 = (0 : Int32) then some ((-1), s1) else (wt_cl (gX11_isIn s1 i3 0 1) fun v4 s3 => (if v4 = (0 : Int32) then some ((-1), s3) else (wt_cl (gX11_isIn s3 i4 0 6) fun v6 s5 => (if v6 ≠ (0 : Int32) then (wt_cl (gX11_copies 111 4073 112 4073 s5) fun _ s7 => (if (6 : Int32).toInt ≤ i4.toInt then gX11_alone_155 wt_N s7 i1 i2 i3 (-1) 64 else (wt_cl (gX11_runsAlone s7 i1 i2 i3) fun v9 s8 => (if i4 ≠ (0 : Int32) then (if i4 ≠ (1 : Int32) then (if i4 ≠ (2 : Int32) then (if i4 ≠ (3 : Int32) then (if i4 ≠ (4 : Int32) then gX11_alone_146 s8 v9 else gX11_alone_146 s8 (s8 111 4024)) else gX11_alone_146 s8 (s8 111 4017)) else gX11_alone_146 s8 (s8 111 4003)) else gX11_alone_146 s8 (s8 111 3947)) else gX11_alone_146 s8 (s8 111 3926))))) else some ((-1), s5)))))))
theorem sX11_alone {L d : Nat}   {s : wt_S} {i1 i2 i3 i4 : Int32} : wt_sd (wt_H L) wt_iv (d + 28) kX11_alone kX11_alone (mj_ent 7 [.inr (some 110), .inl i1, .inl i2, .inl i3, .inl i4]) [] s (gX11_alone s i1 i2 i3 i4) := by
  unfold gX11_alone
  exact wt_go [146, 155, 191, 200] 111 fun R h => ⟨_, wt_s110, _, _, rfl, jX11_isTold, wt_tc h (sX11_isTold) fun v2 s1 h => wt_tb h (fun h => wt_tr (e := wt_iv) h) (fun h => ⟨_, _, rfl, jX11_isIn, wt_tc h (sX11_isIn) fun v4 s3 h => wt_tb h (fun h => wt_tr (e := wt_iv) h) (fun h => ⟨_, _, rfl, jX11_isIn, wt_tc h (sX11_isIn) fun v6 s5 h => wt_tb h (fun h => ⟨_, wt_s110, ⟨_, wt_s110, ⟨_, _, rfl, jX11_copies, wt_tc h (sX11_copies wt_m111 wt_m112) fun _ s7 h => wt_tb h (fun h => ⟨trivial, sX11_alone_155 wt_N _ h⟩) (fun h => ⟨_, wt_s110, _, _, rfl, jX11_runsAlone, wt_tc h (sX11_runsAlone) fun v9 s8 h => wt_tb h (fun h => wt_tb h (fun h => wt_tb h (fun h => wt_tb h (fun h => wt_tb h (fun h => ⟨trivial, sX11_alone_146 _ h⟩) (fun h => ⟨_, wt_s110, ⟨_, wt_m111.1, 4024, ⟨rfl, by decide⟩, ⟨trivial, sX11_alone_146 _ h⟩⟩⟩)) (fun h => ⟨_, wt_s110, ⟨_, wt_m111.1, 4017, ⟨rfl, by decide⟩, ⟨trivial, sX11_alone_146 _ h⟩⟩⟩)) (fun h => ⟨_, wt_s110, ⟨_, wt_m111.1, 4003, ⟨rfl, by decide⟩, ⟨trivial, sX11_alone_146 _ h⟩⟩⟩)) (fun h => ⟨_, wt_s110, ⟨_, wt_m111.1, 3947, ⟨rfl, by decide⟩, ⟨trivial, sX11_alone_146 _ h⟩⟩⟩)) (fun h => ⟨_, wt_s110, ⟨_, wt_m111.1, 3926, ⟨rfl, by decide⟩, ⟨trivial, sX11_alone_146 _ h⟩⟩⟩)⟩)⟩⟩⟩) (fun h => wt_tr (e := wt_iv) h)⟩)⟩)⟩
def gX11_log_26 (s : wt_S) (l1 : Int32) (l2 : Int32) (z0 : Int32) : Option (Int32 × wt_S) := (wt_cl (gX11_isIn s l1 0 (z0 - 1)) fun v2 s1 => (if v2 = (0 : Int32) then some ((-1), s1) else (wt_cl (gX11_isIn s1 l2 0 3) fun v4 s3 => (if v4 = (0 : Int32) then some ((-1), s3) else (wt_ix ((2068 + (4 * ((z0 - 1) - l1))) + l2) 4073 fun k5 => some ((s3 111 k5), s3))))))
theorem sX11_log_26 {L d : Nat}    {s : wt_S} {l1 : Int32} {l2 : Int32} {z0 : Int32} {x3 : Option (mj_v Int32)} : wt_sd (wt_H L) wt_iv (d + 1) kX11_log (mj_drop 12 kX11_log) [some (.inr (some 110)), some (.inl l1), some (.inl l2), x3] [.inl z0] s (gX11_log_26 s l1 l2 z0) := by
  unfold gX11_log_26
  exact wt_go1 [26] 46 fun R h => ⟨_, _, rfl, jX11_isIn, wt_tc h (sX11_isIn) fun v2 s1 h => wt_tb h (fun h => wt_tr (e := wt_iv) h) (fun h => ⟨_, _, rfl, jX11_isIn, wt_tc h (sX11_isIn) fun v4 s3 h => wt_tb h (fun h => wt_tr (e := wt_iv) h) (fun h => ⟨_, wt_s110, ⟨_, wt_m111.1, wt_tx h fun k5 h => wt_tr (e := wt_iv) h⟩⟩)⟩)⟩
def gX11_log (s : wt_S) (i1 i2 : Int32) : Option (Int32 × wt_S) := (if (40 : Int32).toInt ≤ (s 111 2067).toInt then gX11_log_26 s i1 i2 40 else gX11_log_26 s i1 i2 (s 111 2067))
theorem sX11_log {L d : Nat}   {s : wt_S} {i1 i2 : Int32} : wt_sd (wt_H L) wt_iv (d + 1) kX11_log kX11_log (mj_ent 4 [.inr (some 110), .inl i1, .inl i2]) [] s (gX11_log s i1 i2) := by
  unfold gX11_log
  exact wt_go [26] 46 fun R h => ⟨_, wt_s110, ⟨_, wt_m111.1, 2067, ⟨rfl, by decide⟩, wt_tb h (fun h => ⟨trivial, sX11_log_26 _ h⟩) (fun h => ⟨_, wt_s110, ⟨_, wt_m111.1, 2067, ⟨rfl, by decide⟩, ⟨trivial, sX11_log_26 _ h⟩⟩⟩)⟩⟩
def gX11_wrongWords_110 (K40 : wt_S → Int32 → Int32 → Int32 → Int32 → Int32 → Int32 → Option (Int32 × wt_S)) (s : wt_S) (l1 : Int32) (l3 : Int32) (l4 : Int32) (l5 : Int32) (l6 : Int32) (z0 : Int32) (z1 : Int32) : Option (Int32 × wt_S) := K40 s l1 (z0 + z1) l3 l4 l5 (l6 + 1)
theorem sX11_wrongWords_110 {L d : Nat}  {K40 : wt_S → Int32 → Int32 → Int32 → Int32 → Int32 → Int32 → Option (Int32 × wt_S)}  (hK40 : ∀ {s : wt_S} {l1 : Int32} {l2 : Int32} {l3 : Int32} {l4 : Int32} {l5 : Int32} {l6 : Int32} {x7 : Option (mj_v Int32)}, wt_sd (wt_H L) wt_iv (d + 3) kX11_wrongWords (mj_drop 25 kX11_wrongWords) [some (.inr (some 110)), some (.inl l1), some (.inl l2), some (.inl l3), some (.inl l4), some (.inl l5), some (.inl l6), x7] [] s (K40 s l1 l2 l3 l4 l5 l6)) {s : wt_S} {l1 : Int32} {l3 : Int32} {l4 : Int32} {l5 : Int32} {l6 : Int32} {z0 : Int32} {z1 : Int32} {x2 x7 : Option (mj_v Int32)} : wt_sd (wt_H L) wt_iv (d + 3) kX11_wrongWords (mj_drop 65 kX11_wrongWords) [some (.inr (some 110)), some (.inl l1), x2, some (.inl l3), some (.inl l4), some (.inl l5), some (.inl l6), x7] [.inl z1, .inl z0] s (gX11_wrongWords_110 K40 s l1 l3 l4 l5 l6 z0 z1) := by
  unfold gX11_wrongWords_110
  exact wt_go1 [15, 40, 109, 110, 186, 190, 191] 118 fun R h => ⟨trivial, hK40  _ h⟩
def gX11_wrongWords_109 (K40 : wt_S → Int32 → Int32 → Int32 → Int32 → Int32 → Int32 → Option (Int32 × wt_S)) (s : wt_S) (l1 : Int32) (l3 : Int32) (l4 : Int32) (l5 : Int32) (l6 : Int32) (z0 : Int32) : Option (Int32 × wt_S) := gX11_wrongWords_110 K40 s l1 l3 l4 l5 l6 z0 0
theorem sX11_wrongWords_109 {L d : Nat}  {K40 : wt_S → Int32 → Int32 → Int32 → Int32 → Int32 → Int32 → Option (Int32 × wt_S)}  (hK40 : ∀ {s : wt_S} {l1 : Int32} {l2 : Int32} {l3 : Int32} {l4 : Int32} {l5 : Int32} {l6 : Int32} {x7 : Option (mj_v Int32)}, wt_sd (wt_H L) wt_iv (d + 3) kX11_wrongWords (mj_drop 25 kX11_wrongWords) [some (.inr (some 110)), some (.inl l1), some (.inl l2), some (.inl l3), some (.inl l4), some (.inl l5), some (.inl l6), x7] [] s (K40 s l1 l2 l3 l4 l5 l6)) {s : wt_S} {l1 : Int32} {l3 : Int32} {l4 : Int32} {l5 : Int32} {l6 : Int32} {z0 : Int32} {x2 x7 : Option (mj_v Int32)} : wt_sd (wt_H L) wt_iv (d + 3) kX11_wrongWords (mj_drop 64 kX11_wrongWords) [some (.inr (some 110)), some (.inl l1), x2, some (.inl l3), some (.inl l4), some (.inl l5), some (.inl l6), x7] [.inl z0] s (gX11_wrongWords_109 K40 s l1 l3 l4 l5 l6 z0) := by
  unfold gX11_wrongWords_109
  exact wt_go1 [15, 40, 109, 110, 186, 190, 191] 118 fun R h => ⟨trivial, sX11_wrongWords_110 hK40 _ h⟩
def gX11_wrongWords_191 (K15 : wt_S → Int32 → Int32 → Int32 → Option (Int32 × wt_S)) (s : wt_S) (l1 : Int32) (l3 : Int32) (z0 : Int32) (z1 : Int32) : Option (Int32 × wt_S) := K15 s l1 (z0 + z1) (l3 + (-1))
theorem sX11_wrongWords_191 {L d : Nat}  {K15 : wt_S → Int32 → Int32 → Int32 → Option (Int32 × wt_S)}  (hK15 : ∀ {s : wt_S} {l1 : Int32} {l2 : Int32} {l3 : Int32} {x4 x5 x6 x7 : Option (mj_v Int32)}, wt_sd (wt_H L) wt_iv (d + 3) kX11_wrongWords (mj_drop 11 kX11_wrongWords) [some (.inr (some 110)), some (.inl l1), some (.inl l2), some (.inl l3), x4, x5, x6, x7] [] s (K15 s l1 l2 l3)) {s : wt_S} {l1 : Int32} {l3 : Int32} {z0 : Int32} {z1 : Int32} {x2 x4 x5 x6 x7 : Option (mj_v Int32)} : wt_sd (wt_H L) wt_iv (d + 3) kX11_wrongWords (mj_drop 108 kX11_wrongWords) [some (.inr (some 110)), some (.inl l1), x2, some (.inl l3), x4, x5, x6, x7] [.inl z1, .inl z0] s (gX11_wrongWords_191 K15 s l1 l3 z0 z1) := by
  unfold gX11_wrongWords_191
  exact wt_go1 [15, 40, 109, 110, 186, 190, 191] 118 fun R h => ⟨trivial, hK15  _ h⟩
def gX11_wrongWords_186 (K15 : wt_S → Int32 → Int32 → Int32 → Option (Int32 × wt_S)) (s : wt_S) (l1 : Int32) (l3 : Int32) (z0 : Int32) : Option (Int32 × wt_S) := gX11_wrongWords_191 K15 s l1 l3 z0 0
theorem sX11_wrongWords_186 {L d : Nat}  {K15 : wt_S → Int32 → Int32 → Int32 → Option (Int32 × wt_S)}  (hK15 : ∀ {s : wt_S} {l1 : Int32} {l2 : Int32} {l3 : Int32} {x4 x5 x6 x7 : Option (mj_v Int32)}, wt_sd (wt_H L) wt_iv (d + 3) kX11_wrongWords (mj_drop 11 kX11_wrongWords) [some (.inr (some 110)), some (.inl l1), some (.inl l2), some (.inl l3), x4, x5, x6, x7] [] s (K15 s l1 l2 l3)) {s : wt_S} {l1 : Int32} {l3 : Int32} {z0 : Int32} {x2 x4 x5 x6 x7 : Option (mj_v Int32)} : wt_sd (wt_H L) wt_iv (d + 3) kX11_wrongWords (mj_drop 105 kX11_wrongWords) [some (.inr (some 110)), some (.inl l1), x2, some (.inl l3), x4, x5, x6, x7] [.inl z0] s (gX11_wrongWords_186 K15 s l1 l3 z0) := by
  unfold gX11_wrongWords_186
  exact wt_go1 [15, 40, 109, 110, 186, 190, 191] 118 fun R h => ⟨trivial, sX11_wrongWords_191 hK15 _ h⟩
def gX11_wrongWords_190 (K15 : wt_S → Int32 → Int32 → Int32 → Option (Int32 × wt_S)) (s : wt_S) (l1 : Int32) (l3 : Int32) (z0 : Int32) : Option (Int32 × wt_S) := gX11_wrongWords_191 K15 s l1 l3 z0 1
theorem sX11_wrongWords_190 {L d : Nat}  {K15 : wt_S → Int32 → Int32 → Int32 → Option (Int32 × wt_S)}  (hK15 : ∀ {s : wt_S} {l1 : Int32} {l2 : Int32} {l3 : Int32} {x4 x5 x6 x7 : Option (mj_v Int32)}, wt_sd (wt_H L) wt_iv (d + 3) kX11_wrongWords (mj_drop 11 kX11_wrongWords) [some (.inr (some 110)), some (.inl l1), some (.inl l2), some (.inl l3), x4, x5, x6, x7] [] s (K15 s l1 l2 l3)) {s : wt_S} {l1 : Int32} {l3 : Int32} {z0 : Int32} {x2 x4 x5 x6 x7 : Option (mj_v Int32)} : wt_sd (wt_H L) wt_iv (d + 3) kX11_wrongWords (mj_drop 107 kX11_wrongWords) [some (.inr (some 110)), some (.inl l1), x2, some (.inl l3), x4, x5, x6, x7] [.inl z0] s (gX11_wrongWords_190 K15 s l1 l3 z0) := by
  unfold gX11_wrongWords_190
  exact wt_go1 [15, 40, 109, 110, 186, 190, 191] 118 fun R h => ⟨trivial, sX11_wrongWords_191 hK15 _ h⟩
def gX11_wrongWords_40 (K15 : wt_S → Int32 → Int32 → Int32 → Option (Int32 × wt_S)) : Nat → wt_S → Int32 → Int32 → Int32 → Int32 → Int32 → Int32 → Option (Int32 × wt_S)
  | 0, _, _, _, _, _, _, _ => none
  | n + 1, s, l1, l2, l3, l4, l5, l6 => (wt_ix (2228 + l5) 4073 fun k1 => (if (s 111 k1).toInt ≤ l6.toInt then (if l3 ≠ (0 : Int32) then (wt_cl (gX11_looksAt s l1 (l3 - 1)) fun _ s2 => (wt_cl (gX11_frameOf s2 (s2 110 12)) fun v4 s3 => (wt_cl (gX11_pieceAt s3 l4) fun v6 s5 => (if ((s2 110 11) + v4) = l4 then gX11_wrongWords_186 K15 s5 l1 l3 l2 else (if v6 = ((-1) : Int32) then gX11_wrongWords_190 K15 s5 l1 l3 l2 else (wt_ix (2899 + v6) 4073 fun k7 => (if (s5 111 k7) ≠ l4 then gX11_wrongWords_190 K15 s5 l1 l3 l2 else gX11_wrongWords_186 K15 s5 l1 l3 l2))))))) else K15 s l1 l2 (l3 + (-1))) else (wt_cl (gX11_isPointer s l5 l6) fun v9 s8 => (if v9 = (0 : Int32) then gX11_wrongWords_109 (gX11_wrongWords_40 K15 n) s8 l1 l3 l4 l5 l6 l2 else (wt_ix ((l4 + 2) + l6) 4073 fun k10 => (if (s8 111 k10) = ((-1) : Int32) then gX11_wrongWords_109 (gX11_wrongWords_40 K15 n) s8 l1 l3 l4 l5 l6 l2 else (wt_ix ((l4 + 2) + l6) 4073 fun k11 => (wt_cl (gX11_pointed s8 l1 (s8 111 k11)) fun v13 s12 => (if v13 ≠ ((-1) : Int32) then gX11_wrongWords_109 (gX11_wrongWords_40 K15 n) s12 l1 l3 l4 l5 l6 l2 else gX11_wrongWords_110 (gX11_wrongWords_40 K15 n) s12 l1 l3 l4 l5 l6 l2 1)))))))))
theorem sX11_wrongWords_40 {L d : Nat}  {K15 : wt_S → Int32 → Int32 → Int32 → Option (Int32 × wt_S)}  (hK15 : ∀ {s : wt_S} {l1 : Int32} {l2 : Int32} {l3 : Int32} {x4 x5 x6 x7 : Option (mj_v Int32)}, wt_sd (wt_H L) wt_iv (d + 3) kX11_wrongWords (mj_drop 11 kX11_wrongWords) [some (.inr (some 110)), some (.inl l1), some (.inl l2), some (.inl l3), x4, x5, x6, x7] [] s (K15 s l1 l2 l3)) : ∀ (n : Nat) {s : wt_S} {l1 : Int32} {l2 : Int32} {l3 : Int32} {l4 : Int32} {l5 : Int32} {l6 : Int32} {x7 : Option (mj_v Int32)}, wt_sd (wt_H L) wt_iv (d + 3) kX11_wrongWords (mj_drop 25 kX11_wrongWords) [some (.inr (some 110)), some (.inl l1), some (.inl l2), some (.inl l3), some (.inl l4), some (.inl l5), some (.inl l6), x7] [] s (gX11_wrongWords_40 K15 n s l1 l2 l3 l4 l5 l6) := by
  intro n
  induction n with
  | zero =>
    intro s l1 l2 l3 l4 l5 l6 x7
    exact fun R h => wt_tn h
  | succ n ih =>
    intro s l1 l2 l3 l4 l5 l6 x7
    unfold gX11_wrongWords_40
    exact wt_go1 [15, 40, 109, 110, 186, 190, 191] 118 fun R h => ⟨_, wt_s110, ⟨_, wt_m111.1, wt_tx h fun k1 h => wt_tb h (fun h => wt_tb h (fun h => ⟨_, wt_s110, _, _, rfl, jX11_looksAt, wt_tc h (sX11_looksAt) fun _ s2 h => ⟨_, wt_s110, ⟨_, wt_s110, ⟨_, wt_s110, _, _, rfl, jX11_frameOf, wt_tc h (sX11_frameOf) fun v4 s3 h => ⟨_, wt_s110, _, _, rfl, jX11_pieceAt, wt_tc h (sX11_pieceAt) fun v6 s5 h => wt_tb h (fun h => ⟨trivial, sX11_wrongWords_186 hK15 _ h⟩) (fun h => wt_tb h (fun h => ⟨trivial, sX11_wrongWords_190 hK15 _ h⟩) (fun h => ⟨_, wt_s110, ⟨_, wt_m111.1, wt_tx h fun k7 h => wt_tb h (fun h => ⟨trivial, sX11_wrongWords_190 hK15 _ h⟩) (fun h => ⟨trivial, sX11_wrongWords_186 hK15 _ h⟩)⟩⟩))⟩⟩⟩⟩⟩) (fun h => ⟨trivial, hK15  _ h⟩)) (fun h => ⟨_, wt_s110, _, _, rfl, jX11_isPointer, wt_tc h (sX11_isPointer) fun v9 s8 h => wt_tb h (fun h => ⟨trivial, sX11_wrongWords_109 ih _ h⟩) (fun h => ⟨_, wt_s110, ⟨_, wt_m111.1, wt_tx h fun k10 h => wt_tb h (fun h => ⟨trivial, sX11_wrongWords_109 ih _ h⟩) (fun h => ⟨_, wt_s110, ⟨_, wt_m111.1, wt_tx h fun k11 h => ⟨_, wt_s110, _, _, rfl, jX11_pointed, wt_tc h (sX11_pointed) fun v13 s12 h => wt_tb h (fun h => ⟨trivial, sX11_wrongWords_109 ih _ h⟩) (fun h => ⟨trivial, sX11_wrongWords_110 ih _ h⟩)⟩⟩⟩)⟩⟩)⟩)⟩⟩
def gX11_wrongWords_15 : Nat → wt_S → Int32 → Int32 → Int32 → Option (Int32 × wt_S)
  | 0, _, _, _, _ => none
  | n + 1, s, l1, l2, l3 => (if l3.toInt < (0 : Int32).toInt then some (l2, s) else (wt_cl (gX11_looksAt s l1 l3) fun _ s1 => gX11_wrongWords_40 (gX11_wrongWords_15 n) wt_N s1 l1 l2 l3 (s1 110 11) (s1 110 12) 0))
theorem sX11_wrongWords_15 {L d : Nat}    : ∀ (n : Nat) {s : wt_S} {l1 : Int32} {l2 : Int32} {l3 : Int32} {x4 x5 x6 x7 : Option (mj_v Int32)}, wt_sd (wt_H L) wt_iv (d + 3) kX11_wrongWords (mj_drop 11 kX11_wrongWords) [some (.inr (some 110)), some (.inl l1), some (.inl l2), some (.inl l3), x4, x5, x6, x7] [] s (gX11_wrongWords_15 n s l1 l2 l3) := by
  intro n
  induction n with
  | zero =>
    intro s l1 l2 l3 x4 x5 x6 x7
    exact fun R h => wt_tn h
  | succ n ih =>
    intro s l1 l2 l3 x4 x5 x6 x7
    unfold gX11_wrongWords_15
    exact wt_go1 [15, 40, 109, 110, 186, 190, 191] 118 fun R h => wt_tb h (fun h => wt_tr (e := wt_iv) h) (fun h => ⟨_, wt_s110, _, _, rfl, jX11_looksAt, wt_tc h (sX11_looksAt) fun _ s1 h => ⟨_, wt_s110, ⟨_, wt_s110, ⟨trivial, sX11_wrongWords_40 ih wt_N _ h⟩⟩⟩⟩)
def gX11_wrongWords (s : wt_S) (i1 : Int32) : Option (Int32 × wt_S) := (wt_ix (3954 + i1) 4073 fun k1 => gX11_wrongWords_15 wt_N s i1 0 ((s 111 k1) - 1))
theorem sX11_wrongWords {L d : Nat}   {s : wt_S} {i1 : Int32} : wt_sd (wt_H L) wt_iv (d + 3) kX11_wrongWords kX11_wrongWords (mj_ent 8 [.inr (some 110), .inl i1]) [] s (gX11_wrongWords s i1) := by
  unfold gX11_wrongWords
  exact wt_go [15, 40, 109, 110, 186, 190, 191] 118 fun R h => ⟨_, wt_s110, ⟨_, wt_m111.1, wt_tx h fun k1 h => ⟨trivial, sX11_wrongWords_15 wt_N _ h⟩⟩⟩
def gX11_wrongFrames_139 (K112 : wt_S → Int32 → Int32 → Int32 → Int32 → Int32 → Int32 → Option (Int32 × wt_S)) (s : wt_S) (l1 : Int32) (l2 : Int32) (l3 : Int32) (l4 : Int32) (l7 : Int32) (z0 : Int32) : Option (Int32 × wt_S) := (wt_ix l7 2048 fun k2 => wt_wr s 118 k2 1 fun s1 => K112 s1 l1 l2 l3 l4 z0 (l7 + 1))
theorem sX11_wrongFrames_139 {L d : Nat}  {K112 : wt_S → Int32 → Int32 → Int32 → Int32 → Int32 → Int32 → Option (Int32 × wt_S)}  (hK112 : ∀ {s : wt_S} {l1 : Int32} {l2 : Int32} {l3 : Int32} {l4 : Int32} {l6 : Int32} {l7 : Int32} {x5 : Option (mj_v Int32)}, wt_sd (wt_H L) wt_iv (d + 2) kX11_wrongFrames (mj_drop 63 kX11_wrongFrames) [some (.inr (some 110)), some (.inl l1), some (.inl l2), some (.inl l3), some (.inl l4), x5, some (.inl l6), some (.inl l7)] [] s (K112 s l1 l2 l3 l4 l6 l7)) {s : wt_S} {l1 : Int32} {l2 : Int32} {l3 : Int32} {l4 : Int32} {l7 : Int32} {z0 : Int32} {x5 x6 : Option (mj_v Int32)} : wt_sd (wt_H L) wt_iv (d + 2) kX11_wrongFrames (mj_drop 76 kX11_wrongFrames) [some (.inr (some 110)), some (.inl l1), some (.inl l2), some (.inl l3), some (.inl l4), x5, x6, some (.inl l7)] [.inl z0] s (gX11_wrongFrames_139 K112 s l1 l2 l3 l4 l7 z0) := by
  unfold gX11_wrongFrames_139
  exact wt_go1 [15, 99, 104, 112, 134, 139, 166] 100 fun R h => ⟨_, wt_s110, ⟨_, wt_m118, Or.inr rfl, wt_tx h fun k2 h => have h := wt_tw h; ⟨trivial, hK112  _ h⟩⟩⟩
def gX11_wrongFrames_134 (K112 : wt_S → Int32 → Int32 → Int32 → Int32 → Int32 → Int32 → Option (Int32 × wt_S)) (s : wt_S) (l1 : Int32) (l2 : Int32) (l3 : Int32) (l4 : Int32) (l7 : Int32) : Option (Int32 × wt_S) := gX11_wrongFrames_139 K112 s l1 l2 l3 l4 l7 1
theorem sX11_wrongFrames_134 {L d : Nat}  {K112 : wt_S → Int32 → Int32 → Int32 → Int32 → Int32 → Int32 → Option (Int32 × wt_S)}  (hK112 : ∀ {s : wt_S} {l1 : Int32} {l2 : Int32} {l3 : Int32} {l4 : Int32} {l6 : Int32} {l7 : Int32} {x5 : Option (mj_v Int32)}, wt_sd (wt_H L) wt_iv (d + 2) kX11_wrongFrames (mj_drop 63 kX11_wrongFrames) [some (.inr (some 110)), some (.inl l1), some (.inl l2), some (.inl l3), some (.inl l4), x5, some (.inl l6), some (.inl l7)] [] s (K112 s l1 l2 l3 l4 l6 l7)) {s : wt_S} {l1 : Int32} {l2 : Int32} {l3 : Int32} {l4 : Int32} {l7 : Int32} {x5 x6 : Option (mj_v Int32)} : wt_sd (wt_H L) wt_iv (d + 2) kX11_wrongFrames (mj_drop 73 kX11_wrongFrames) [some (.inr (some 110)), some (.inl l1), some (.inl l2), some (.inl l3), some (.inl l4), x5, x6, some (.inl l7)] [] s (gX11_wrongFrames_134 K112 s l1 l2 l3 l4 l7) := by
  unfold gX11_wrongFrames_134
  exact wt_go1 [15, 99, 104, 112, 134, 139, 166] 100 fun R h => ⟨trivial, sX11_wrongFrames_139 hK112 _ h⟩
def gX11_wrongFrames_166 (K15 : wt_S → Int32 → Int32 → Int32 → Option (Int32 × wt_S)) (s : wt_S) (l1 : Int32) (l3 : Int32) (z0 : Int32) (z1 : Int32) : Option (Int32 × wt_S) := K15 s l1 (z0 + z1) (l3 + (-1))
theorem sX11_wrongFrames_166 {L d : Nat}  {K15 : wt_S → Int32 → Int32 → Int32 → Option (Int32 × wt_S)}  (hK15 : ∀ {s : wt_S} {l1 : Int32} {l2 : Int32} {l3 : Int32} {x4 x5 x6 x7 : Option (mj_v Int32)}, wt_sd (wt_H L) wt_iv (d + 2) kX11_wrongFrames (mj_drop 11 kX11_wrongFrames) [some (.inr (some 110)), some (.inl l1), some (.inl l2), some (.inl l3), x4, x5, x6, x7] [] s (K15 s l1 l2 l3)) {s : wt_S} {l1 : Int32} {l3 : Int32} {z0 : Int32} {z1 : Int32} {x2 x4 x5 x6 x7 : Option (mj_v Int32)} : wt_sd (wt_H L) wt_iv (d + 2) kX11_wrongFrames (mj_drop 90 kX11_wrongFrames) [some (.inr (some 110)), some (.inl l1), x2, some (.inl l3), x4, x5, x6, x7] [.inl z1, .inl z0] s (gX11_wrongFrames_166 K15 s l1 l3 z0 z1) := by
  unfold gX11_wrongFrames_166
  exact wt_go1 [15, 99, 104, 112, 134, 139, 166] 100 fun R h => ⟨trivial, hK15  _ h⟩
def gX11_wrongFrames_112 (K15 : wt_S → Int32 → Int32 → Int32 → Option (Int32 × wt_S)) : Nat → wt_S → Int32 → Int32 → Int32 → Int32 → Int32 → Int32 → Option (Int32 × wt_S)
  | 0, _, _, _, _, _, _, _ => none
  | n + 1, s, l1, l2, l3, l4, l6, l7 => (if l4.toInt ≤ l7.toInt then (if l6 = (0 : Int32) then gX11_wrongFrames_166 K15 s l1 l3 l2 0 else gX11_wrongFrames_166 K15 s l1 l3 l2 1) else (if l6 ≠ (0 : Int32) then gX11_wrongFrames_134 (gX11_wrongFrames_112 K15 n) s l1 l2 l3 l4 l7 else (wt_ix l7 2048 fun k1 => (if (s 118 k1) = (0 : Int32) then gX11_wrongFrames_139 (gX11_wrongFrames_112 K15 n) s l1 l2 l3 l4 l7 0 else gX11_wrongFrames_134 (gX11_wrongFrames_112 K15 n) s l1 l2 l3 l4 l7))))
theorem sX11_wrongFrames_112 {L d : Nat}  {K15 : wt_S → Int32 → Int32 → Int32 → Option (Int32 × wt_S)}  (hK15 : ∀ {s : wt_S} {l1 : Int32} {l2 : Int32} {l3 : Int32} {x4 x5 x6 x7 : Option (mj_v Int32)}, wt_sd (wt_H L) wt_iv (d + 2) kX11_wrongFrames (mj_drop 11 kX11_wrongFrames) [some (.inr (some 110)), some (.inl l1), some (.inl l2), some (.inl l3), x4, x5, x6, x7] [] s (K15 s l1 l2 l3)) : ∀ (n : Nat) {s : wt_S} {l1 : Int32} {l2 : Int32} {l3 : Int32} {l4 : Int32} {l6 : Int32} {l7 : Int32} {x5 : Option (mj_v Int32)}, wt_sd (wt_H L) wt_iv (d + 2) kX11_wrongFrames (mj_drop 63 kX11_wrongFrames) [some (.inr (some 110)), some (.inl l1), some (.inl l2), some (.inl l3), some (.inl l4), x5, some (.inl l6), some (.inl l7)] [] s (gX11_wrongFrames_112 K15 n s l1 l2 l3 l4 l6 l7) := by
  intro n
  induction n with
  | zero =>
    intro s l1 l2 l3 l4 l6 l7 x5
    exact fun R h => wt_tn h
  | succ n ih =>
    intro s l1 l2 l3 l4 l6 l7 x5
    unfold gX11_wrongFrames_112
    exact wt_go1 [15, 99, 104, 112, 134, 139, 166] 100 fun R h => wt_tb h (fun h => wt_tb h (fun h => ⟨trivial, sX11_wrongFrames_166 hK15 _ h⟩) (fun h => ⟨trivial, sX11_wrongFrames_166 hK15 _ h⟩)) (fun h => wt_tb h (fun h => ⟨trivial, sX11_wrongFrames_134 ih _ h⟩) (fun h => ⟨_, wt_s110, ⟨_, wt_m118.1, wt_tx h fun k1 h => wt_tb h (fun h => ⟨trivial, sX11_wrongFrames_139 ih _ h⟩) (fun h => ⟨trivial, sX11_wrongFrames_134 ih _ h⟩)⟩⟩))
def gX11_wrongFrames_104 (K15 : wt_S → Int32 → Int32 → Int32 → Option (Int32 × wt_S)) (s : wt_S) (l1 : Int32) (l2 : Int32) (l3 : Int32) (l4 : Int32) (z0 : Int32) : Option (Int32 × wt_S) := gX11_wrongFrames_112 K15 wt_N s l1 l2 l3 l4 z0 (s 110 11)
theorem sX11_wrongFrames_104 {L d : Nat}  {K15 : wt_S → Int32 → Int32 → Int32 → Option (Int32 × wt_S)}  (hK15 : ∀ {s : wt_S} {l1 : Int32} {l2 : Int32} {l3 : Int32} {x4 x5 x6 x7 : Option (mj_v Int32)}, wt_sd (wt_H L) wt_iv (d + 2) kX11_wrongFrames (mj_drop 11 kX11_wrongFrames) [some (.inr (some 110)), some (.inl l1), some (.inl l2), some (.inl l3), x4, x5, x6, x7] [] s (K15 s l1 l2 l3)) {s : wt_S} {l1 : Int32} {l2 : Int32} {l3 : Int32} {l4 : Int32} {z0 : Int32} {x5 x6 x7 : Option (mj_v Int32)} : wt_sd (wt_H L) wt_iv (d + 2) kX11_wrongFrames (mj_drop 59 kX11_wrongFrames) [some (.inr (some 110)), some (.inl l1), some (.inl l2), some (.inl l3), some (.inl l4), x5, x6, x7] [.inl z0] s (gX11_wrongFrames_104 K15 s l1 l2 l3 l4 z0) := by
  unfold gX11_wrongFrames_104
  exact wt_go1 [15, 99, 104, 112, 134, 139, 166] 100 fun R h => ⟨_, wt_s110, ⟨trivial, sX11_wrongFrames_112 hK15 wt_N _ h⟩⟩
def gX11_wrongFrames_99 (K15 : wt_S → Int32 → Int32 → Int32 → Option (Int32 × wt_S)) (s : wt_S) (l1 : Int32) (l2 : Int32) (l3 : Int32) (l4 : Int32) : Option (Int32 × wt_S) := gX11_wrongFrames_104 K15 s l1 l2 l3 l4 1
theorem sX11_wrongFrames_99 {L d : Nat}  {K15 : wt_S → Int32 → Int32 → Int32 → Option (Int32 × wt_S)}  (hK15 : ∀ {s : wt_S} {l1 : Int32} {l2 : Int32} {l3 : Int32} {x4 x5 x6 x7 : Option (mj_v Int32)}, wt_sd (wt_H L) wt_iv (d + 2) kX11_wrongFrames (mj_drop 11 kX11_wrongFrames) [some (.inr (some 110)), some (.inl l1), some (.inl l2), some (.inl l3), x4, x5, x6, x7] [] s (K15 s l1 l2 l3)) {s : wt_S} {l1 : Int32} {l2 : Int32} {l3 : Int32} {l4 : Int32} {x5 x6 x7 : Option (mj_v Int32)} : wt_sd (wt_H L) wt_iv (d + 2) kX11_wrongFrames (mj_drop 56 kX11_wrongFrames) [some (.inr (some 110)), some (.inl l1), some (.inl l2), some (.inl l3), some (.inl l4), x5, x6, x7] [] s (gX11_wrongFrames_99 K15 s l1 l2 l3 l4) := by
  unfold gX11_wrongFrames_99
  exact wt_go1 [15, 99, 104, 112, 134, 139, 166] 100 fun R h => ⟨trivial, sX11_wrongFrames_104 hK15 _ h⟩
def gX11_wrongFrames_15 : Nat → wt_S → Int32 → Int32 → Int32 → Option (Int32 × wt_S)
  | 0, _, _, _, _ => none
  | n + 1, s, l1, l2, l3 => (if l3.toInt < (0 : Int32).toInt then some (l2, s) else (wt_cl (gX11_looksAt s l1 l3) fun _ s1 => (wt_cl (gX11_frameOf s1 (s1 110 12)) fun v3 s2 => (wt_cl (gX11_pieceAt s2 (s2 110 11)) fun v5 s4 => (if v5 = ((-1) : Int32) then gX11_wrongFrames_99 (gX11_wrongFrames_15 n) s4 l1 l2 l3 ((s1 110 11) + v3) else (wt_ix (3411 + v5) 4073 fun k6 => (if (s4 111 k6) ≠ l1 then gX11_wrongFrames_99 (gX11_wrongFrames_15 n) s4 l1 l2 l3 ((s1 110 11) + v3) else (wt_ix (2899 + v5) 4073 fun k7 => (wt_ix (3155 + v5) 4073 fun k8 => (if ((s1 110 11) + v3).toInt ≤ ((s4 111 k7) + (s4 111 k8)).toInt then gX11_wrongFrames_104 (gX11_wrongFrames_15 n) s4 l1 l2 l3 ((s1 110 11) + v3) 0 else gX11_wrongFrames_99 (gX11_wrongFrames_15 n) s4 l1 l2 l3 ((s1 110 11) + v3)))))))))))
theorem sX11_wrongFrames_15 {L d : Nat}    : ∀ (n : Nat) {s : wt_S} {l1 : Int32} {l2 : Int32} {l3 : Int32} {x4 x5 x6 x7 : Option (mj_v Int32)}, wt_sd (wt_H L) wt_iv (d + 2) kX11_wrongFrames (mj_drop 11 kX11_wrongFrames) [some (.inr (some 110)), some (.inl l1), some (.inl l2), some (.inl l3), x4, x5, x6, x7] [] s (gX11_wrongFrames_15 n s l1 l2 l3) := by
  intro n
  induction n with
  | zero =>
    intro s l1 l2 l3 x4 x5 x6 x7
    exact fun R h => wt_tn h
  | succ n ih =>
    intro s l1 l2 l3 x4 x5 x6 x7
    unfold gX11_wrongFrames_15
    exact wt_go1 [15, 99, 104, 112, 134, 139, 166] 100 fun R h => wt_tb h (fun h => wt_tr (e := wt_iv) h) (fun h => ⟨_, wt_s110, _, _, rfl, jX11_looksAt, wt_tc h (sX11_looksAt) fun _ s1 h => ⟨_, wt_s110, ⟨_, wt_s110, ⟨_, wt_s110, _, _, rfl, jX11_frameOf, wt_tc h (sX11_frameOf) fun v3 s2 h => ⟨_, wt_s110, ⟨_, wt_s110, _, _, rfl, jX11_pieceAt, wt_tc h (sX11_pieceAt) fun v5 s4 h => wt_tb h (fun h => ⟨trivial, sX11_wrongFrames_99 ih _ h⟩) (fun h => ⟨_, wt_s110, ⟨_, wt_m111.1, wt_tx h fun k6 h => wt_tb h (fun h => ⟨trivial, sX11_wrongFrames_99 ih _ h⟩) (fun h => ⟨_, wt_s110, ⟨_, wt_m111.1, wt_tx h fun k7 h => ⟨_, wt_s110, ⟨_, wt_m111.1, wt_tx h fun k8 h => wt_tb h (fun h => ⟨trivial, sX11_wrongFrames_104 ih _ h⟩) (fun h => ⟨trivial, sX11_wrongFrames_99 ih _ h⟩)⟩⟩⟩⟩)⟩⟩)⟩⟩⟩⟩⟩⟩)
def gX11_wrongFrames (s : wt_S) (i1 : Int32) : Option (Int32 × wt_S) := (wt_ix (3954 + i1) 4073 fun k1 => gX11_wrongFrames_15 wt_N s i1 0 ((s 111 k1) - 1))
theorem sX11_wrongFrames {L d : Nat}   {s : wt_S} {i1 : Int32} : wt_sd (wt_H L) wt_iv (d + 2) kX11_wrongFrames kX11_wrongFrames (mj_ent 8 [.inr (some 110), .inl i1]) [] s (gX11_wrongFrames s i1) := by
  unfold gX11_wrongFrames
  exact wt_go [15, 99, 104, 112, 134, 139, 166] 100 fun R h => ⟨_, wt_s110, ⟨_, wt_m111.1, wt_tx h fun k1 h => ⟨trivial, sX11_wrongFrames_15 wt_N _ h⟩⟩⟩
def gX11_never_75 (K50 : wt_S → Int32 → Int32 → Int32 → Option (Int32 × wt_S)) (s : wt_S) (l1 : Int32) (l3 : Int32) (z0 : Int32) (z1 : Int32) : Option (Int32 × wt_S) := K50 s l1 (z0 + z1) (l3 + 1)
theorem sX11_never_75 {L d : Nat}  {K50 : wt_S → Int32 → Int32 → Int32 → Option (Int32 × wt_S)}  (hK50 : ∀ {s : wt_S} {l1 : Int32} {l2 : Int32} {l3 : Int32}, wt_sd (wt_H L) wt_iv (d + 4) kX11_never (mj_drop 30 kX11_never) [some (.inr (some 110)), some (.inl l1), some (.inl l2), some (.inl l3)] [] s (K50 s l1 l2 l3)) {s : wt_S} {l1 : Int32} {l3 : Int32} {z0 : Int32} {z1 : Int32} {x2 : Option (mj_v Int32)} : wt_sd (wt_H L) wt_iv (d + 4) kX11_never (mj_drop 44 kX11_never) [some (.inr (some 110)), some (.inl l1), x2, some (.inl l3)] [.inl z1, .inl z0] s (gX11_never_75 K50 s l1 l3 z0 z1) := by
  unfold gX11_never_75
  exact wt_go1 [26, 50, 75] 54 fun R h => ⟨trivial, hK50  _ h⟩
def gX11_never_50 : Nat → wt_S → Int32 → Int32 → Int32 → Option (Int32 × wt_S)
  | 0, _, _, _, _ => none
  | n + 1, s, l1, l2, l3 => (if (6 : Int32).toInt ≤ l3.toInt then some (l2, s) else (if l1 ≠ (1 : Int32) then (wt_cl (gX11_wrongFrames s l3) fun v2 s1 => gX11_never_75 (gX11_never_50 n) s1 l1 l3 l2 v2) else (wt_cl (gX11_wrongWords s l3) fun v4 s3 => gX11_never_75 (gX11_never_50 n) s3 l1 l3 l2 v4)))
theorem sX11_never_50 {L d : Nat}    : ∀ (n : Nat) {s : wt_S} {l1 : Int32} {l2 : Int32} {l3 : Int32}, wt_sd (wt_H L) wt_iv (d + 4) kX11_never (mj_drop 30 kX11_never) [some (.inr (some 110)), some (.inl l1), some (.inl l2), some (.inl l3)] [] s (gX11_never_50 n s l1 l2 l3) := by
  intro n
  induction n with
  | zero =>
    intro s l1 l2 l3
    exact fun R h => wt_tn h
  | succ n ih =>
    intro s l1 l2 l3
    unfold gX11_never_50
    exact wt_go1 [26, 50, 75] 54 fun R h => wt_tb h (fun h => wt_tr (e := wt_iv) h) (fun h => wt_tb h (fun h => ⟨_, wt_s110, _, _, rfl, jX11_wrongFrames, wt_tc h (sX11_wrongFrames) fun v2 s1 h => ⟨trivial, sX11_never_75 ih _ h⟩⟩) (fun h => ⟨_, wt_s110, _, _, rfl, jX11_wrongWords, wt_tc h (sX11_wrongWords) fun v4 s3 h => ⟨trivial, sX11_never_75 ih _ h⟩⟩))
def gX11_never_26 : Nat → wt_S → Int32 → Int32 → Option (Int32 × wt_S)
  | 0, _, _, _ => none
  | n + 1, s, l1, l2 => (if (2048 : Int32).toInt ≤ l2.toInt then gX11_never_50 wt_N s l1 0 0 else (wt_ix l2 2048 fun k2 => wt_wr s 118 k2 0 fun s1 => gX11_never_26 n s1 l1 (l2 + 1)))
theorem sX11_never_26 {L d : Nat}    : ∀ (n : Nat) {s : wt_S} {l1 : Int32} {l2 : Int32} {x3 : Option (mj_v Int32)}, wt_sd (wt_H L) wt_iv (d + 4) kX11_never (mj_drop 16 kX11_never) [some (.inr (some 110)), some (.inl l1), some (.inl l2), x3] [] s (gX11_never_26 n s l1 l2) := by
  intro n
  induction n with
  | zero =>
    intro s l1 l2 x3
    exact fun R h => wt_tn h
  | succ n ih =>
    intro s l1 l2 x3
    unfold gX11_never_26
    exact wt_go1 [26, 50, 75] 54 fun R h => wt_tb h (fun h => ⟨trivial, sX11_never_50 wt_N _ h⟩) (fun h => ⟨_, wt_s110, ⟨_, wt_m118, Or.inl rfl, wt_tx h fun k2 h => have h := wt_tw h; ⟨trivial, ih  _ h⟩⟩⟩)
def gX11_never (s : wt_S) (i1 : Int32) : Option (Int32 × wt_S) := (if i1 ≠ (0 : Int32) then (wt_cl (gX11_isIn s i1 1 2) fun v2 s1 => (if v2 ≠ (0 : Int32) then gX11_never_26 wt_N s1 i1 0 else some ((-1), s1))) else some ((s 111 2066), s))
theorem sX11_never {L d : Nat}   {s : wt_S} {i1 : Int32} : wt_sd (wt_H L) wt_iv (d + 4) kX11_never kX11_never (mj_ent 4 [.inr (some 110), .inl i1]) [] s (gX11_never s i1) := by
  unfold gX11_never
  exact wt_go [26, 50, 75] 54 fun R h => wt_tb h (fun h => ⟨_, _, rfl, jX11_isIn, wt_tc h (sX11_isIn) fun v2 s1 h => wt_tb h (fun h => ⟨trivial, sX11_never_26 wt_N _ h⟩) (fun h => wt_tr (e := wt_iv) h)⟩) (fun h => ⟨_, wt_s110, ⟨_, wt_m111.1, 2066, ⟨rfl, by decide⟩, wt_tr (e := wt_iv) h⟩⟩)
