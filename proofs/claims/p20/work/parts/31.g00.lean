def gX11_clears_4 : Nat → wt_S → Int32 → Int32 → Option (Unit × wt_S)
  | 0, _, _, _ => none
  | n + 1, s, l1, l2 => (if (4073 : Int32).toInt ≤ l2.toInt then (wt_ix (3989 + l1) 4073 fun k2 => wt_wr s 111 k2 (-1) fun s1 => (wt_ix (3975 + l1) 4073 fun k4 => wt_wr s1 111 k4 (-1) fun s3 => some ((), s3))) else (wt_ix (l2 + l1) 4073 fun k6 => wt_wr s 111 k6 0 fun s5 => gX11_clears_4 n s5 l1 (l2 + 7)))
theorem sX11_clears_4 {L d : Nat}    : ∀ (n : Nat) {s : wt_S} {l1 : Int32} {l2 : Int32}, wt_sd (wt_H L) wt_uv d kX11_clears (mj_drop 2 kX11_clears) [some (.inr (some 110)), some (.inl l1), some (.inl l2)] [] s (gX11_clears_4 n s l1 l2) := by
  intro n
  induction n with
  | zero =>
    intro s l1 l2
    exact fun R h => wt_tn h
  | succ n ih =>
    intro s l1 l2
    unfold gX11_clears_4
    exact wt_go1 [4] 33 fun R h => wt_tb h (fun h => ⟨_, wt_s110, ⟨_, wt_m111, wt_tx h fun k2 h => have h := wt_tw h; ⟨_, wt_s110, ⟨_, wt_m111, wt_tx h fun k4 h => have h := wt_tw h; wt_tr (e := wt_uv) h⟩⟩⟩⟩) (fun h => ⟨_, wt_s110, ⟨_, wt_m111, wt_tx h fun k6 h => have h := wt_tw h; ⟨trivial, ih  _ h⟩⟩⟩)
def gX11_clears (s : wt_S) (i1 : Int32) : Option (Unit × wt_S) := gX11_clears_4 wt_N s i1 3926
theorem sX11_clears {L d : Nat}   {s : wt_S} {i1 : Int32} : wt_sd (wt_H L) wt_uv d kX11_clears kX11_clears (mj_ent 3 [.inr (some 110), .inl i1]) [] s (gX11_clears s i1) := by
  unfold gX11_clears
  exact wt_go [4] 33 fun R h => ⟨trivial, sX11_clears_4 wt_N _ h⟩
def gX11_word (s : wt_S) (i1 : Int32) : Option (Int32 × wt_S) := (if (s 110 5) = (0 : Int32) then (wt_ix i1 4073 fun k1 => some ((s 111 k1), s)) else (wt_ix i1 20200 fun k2 => some ((s 114 k2), s)))
theorem sX11_word {L d : Nat}   {s : wt_S} {i1 : Int32} : wt_sd (wt_H L) wt_iv d kX11_word kX11_word (mj_ent 2 [.inr (some 110), .inl i1]) [] s (gX11_word s i1) := by
  unfold gX11_word
  exact wt_go [] 17 fun R h => ⟨_, wt_s110, wt_tb h (fun h => ⟨_, wt_s110, ⟨_, wt_m111.1, wt_tx h fun k1 h => wt_tr (e := wt_iv) h⟩⟩) (fun h => ⟨_, wt_s110, ⟨_, wt_m114.1, wt_tx h fun k2 h => wt_tr (e := wt_iv) h⟩⟩)⟩
def gX11_isCovered (s : wt_S) (i1 : Int32) : Option (Int32 × wt_S) := (wt_ix (3954 + i1) 4073 fun k1 => (if (s 111 k1).toInt ≤ (0 : Int32).toInt then some (0, s) else (wt_ix (3982 + i1) 4073 fun k2 => (wt_cl (gX11_word s ((s 111 k2) + 1)) fun v4 s3 => (if (v4 &&& 1024) = (0 : Int32) then some (0, s3) else some (1, s3))))))
theorem sX11_isCovered {L d : Nat}   {s : wt_S} {i1 : Int32} : wt_sd (wt_H L) wt_iv (d + 1) kX11_isCovered kX11_isCovered (mj_ent 2 [.inr (some 110), .inl i1]) [] s (gX11_isCovered s i1) := by
  unfold gX11_isCovered
  exact wt_go [] 28 fun R h => ⟨_, wt_s110, ⟨_, wt_m111.1, wt_tx h fun k1 h => wt_tb h (fun h => ⟨Or.inl rfl, wt_tr (e := wt_iv) h⟩) (fun h => ⟨_, wt_s110, ⟨_, wt_m111.1, wt_tx h fun k2 h => ⟨_, wt_s110, _, _, rfl, jX11_word, wt_tc h (sX11_word) fun v4 s3 h => wt_tb h (fun h => ⟨Or.inl rfl, wt_tr (e := wt_iv) h⟩) (fun h => ⟨Or.inr rfl, wt_tr (e := wt_iv) h⟩)⟩⟩⟩)⟩⟩
def gX11_frameOf (s : wt_S) (i1 : Int32) : Option (Int32 × wt_S) := (wt_ix (2228 + i1) 4073 fun k1 => some (((s 111 k1) + 2), s))
theorem sX11_frameOf {L d : Nat}   {s : wt_S} {i1 : Int32} : wt_sd (wt_H L) wt_iv d kX11_frameOf kX11_frameOf (mj_ent 2 [.inr (some 110), .inl i1]) [] s (gX11_frameOf s i1) := by
  unfold gX11_frameOf
  exact wt_go [] 13 fun R h => ⟨_, wt_s110, ⟨_, wt_m111.1, wt_tx h fun k1 h => wt_tr (e := wt_iv) h⟩⟩
def gX11_pieceOf_2 : Nat → wt_S → Int32 → Int32 → Int32 → Option (Int32 × wt_S)
  | 0, _, _, _, _ => none
  | n + 1, s, l1, l2, l3 => (if (s 111 2898).toInt ≤ l3.toInt then some ((-1), s) else (wt_ix (3411 + l3) 4073 fun k1 => (if (s 111 k1) ≠ l1 then gX11_pieceOf_2 n s l1 l2 (l3 + 1) else (wt_ix (3667 + l3) 4073 fun k2 => (if (s 111 k2) ≠ l2 then gX11_pieceOf_2 n s l1 l2 (l3 + 1) else some (l3, s))))))
theorem sX11_pieceOf_2 {L d : Nat}    : ∀ (n : Nat) {s : wt_S} {l1 : Int32} {l2 : Int32} {l3 : Int32}, wt_sd (wt_H L) wt_iv d kX11_pieceOf (mj_drop 2 kX11_pieceOf) [some (.inr (some 110)), some (.inl l1), some (.inl l2), some (.inl l3)] [] s (gX11_pieceOf_2 n s l1 l2 l3) := by
  intro n
  induction n with
  | zero =>
    intro s l1 l2 l3
    exact fun R h => wt_tn h
  | succ n ih =>
    intro s l1 l2 l3
    unfold gX11_pieceOf_2
    exact wt_go1 [2] 34 fun R h => ⟨_, wt_s110, ⟨_, wt_m111.1, 2898, ⟨rfl, by decide⟩, wt_tb h (fun h => wt_tr (e := wt_iv) h) (fun h => ⟨_, wt_s110, ⟨_, wt_m111.1, wt_tx h fun k1 h => wt_tb h (fun h => ⟨trivial, ih  _ h⟩) (fun h => ⟨_, wt_s110, ⟨_, wt_m111.1, wt_tx h fun k2 h => wt_tb h (fun h => ⟨trivial, ih  _ h⟩) (fun h => wt_tr (e := wt_iv) h)⟩⟩)⟩⟩)⟩⟩
def gX11_pieceOf (s : wt_S) (i1 i2 : Int32) : Option (Int32 × wt_S) := gX11_pieceOf_2 wt_N s i1 i2 0
theorem sX11_pieceOf {L d : Nat}   {s : wt_S} {i1 i2 : Int32} : wt_sd (wt_H L) wt_iv d kX11_pieceOf kX11_pieceOf (mj_ent 4 [.inr (some 110), .inl i1, .inl i2]) [] s (gX11_pieceOf s i1 i2) := by
  unfold gX11_pieceOf
  exact wt_go [2] 34 fun R h => ⟨trivial, sX11_pieceOf_2 wt_N _ h⟩
def gX11_topOf (s : wt_S) (i1 : Int32) : Option (Int32 × wt_S) := (wt_ix (3954 + i1) 4073 fun k1 => (if (s 111 k1).toInt ≤ (0 : Int32).toInt then (if (s 110 5) = (0 : Int32) then (wt_cl (gX11_pieceOf s i1 0) fun v3 s2 => (wt_ix (2899 + v3) 4073 fun k4 => some ((s2 111 k4), s2))) else some (0, s)) else (wt_ix (3982 + i1) 4073 fun k5 => (wt_ix (3975 + i1) 4073 fun k6 => (wt_cl (gX11_frameOf s (s 111 k6)) fun v8 s7 => some (((s 111 k5) + v8), s7))))))
theorem sX11_topOf {L d : Nat}   {s : wt_S} {i1 : Int32} : wt_sd (wt_H L) wt_iv (d + 1) kX11_topOf kX11_topOf (mj_ent 2 [.inr (some 110), .inl i1]) [] s (gX11_topOf s i1) := by
  unfold gX11_topOf
  exact wt_go [] 42 fun R h => ⟨_, wt_s110, ⟨_, wt_m111.1, wt_tx h fun k1 h => wt_tb h (fun h => ⟨_, wt_s110, wt_tb h (fun h => ⟨_, wt_s110, ⟨_, wt_s110, _, _, rfl, jX11_pieceOf, wt_tc h (sX11_pieceOf) fun v3 s2 h => ⟨_, wt_m111.1, wt_tx h fun k4 h => wt_tr (e := wt_iv) h⟩⟩⟩) (fun h => wt_tr (e := wt_iv) h)⟩) (fun h => ⟨_, wt_s110, ⟨_, wt_m111.1, wt_tx h fun k5 h => ⟨_, wt_s110, ⟨_, wt_m111.1, wt_tx h fun k6 h => ⟨_, wt_s110, _, _, rfl, jX11_frameOf, wt_tc h (sX11_frameOf) fun v8 s7 h => wt_tr (e := wt_iv) h⟩⟩⟩⟩⟩)⟩⟩
def gX11_counts (s : wt_S) (i1 i2 : Int32) : Option (Unit × wt_S) := (if (s 110 5) ≠ (0 : Int32) then some ((), s) else (wt_ix (2054 + i1) 4073 fun k1 => (wt_ix (2054 + i1) 4073 fun k3 => wt_wr s 111 k3 ((s 111 k1) + i2) fun s2 => some ((), s2))))
theorem sX11_counts {L d : Nat}   {s : wt_S} {i1 i2 : Int32} : wt_sd (wt_H L) wt_uv d kX11_counts kX11_counts (mj_ent 3 [.inr (some 110), .inl i1, .inl i2]) [] s (gX11_counts s i1 i2) := by
  unfold gX11_counts
  exact wt_go [] 18 fun R h => ⟨_, wt_s110, wt_tb h (fun h => wt_tr (e := wt_uv) h) (fun h => ⟨_, wt_s110, ⟨_, wt_m111.1, wt_tx h fun k1 h => ⟨_, wt_m111, wt_tx h fun k3 h => have h := wt_tw h; wt_tr (e := wt_uv) h⟩⟩⟩)⟩
def gX11_lastPiece (s : wt_S) (i1 : Int32) : Option (Int32 × wt_S) := (wt_ix (4066 + i1) 4073 fun k1 => (wt_cl (gX11_pieceOf s i1 ((s 111 k1) - 1)) fun v3 s2 => some (v3, s2)))
theorem sX11_lastPiece {L d : Nat}   {s : wt_S} {i1 : Int32} : wt_sd (wt_H L) wt_iv (d + 1) kX11_lastPiece kX11_lastPiece (mj_ent 2 [.inr (some 110), .inl i1]) [] s (gX11_lastPiece s i1) := by
  unfold gX11_lastPiece
  exact wt_go [] 16 fun R h => ⟨_, wt_s110, ⟨_, wt_m111.1, wt_tx h fun k1 h => ⟨_, wt_s110, _, _, rfl, jX11_pieceOf, wt_tc h (sX11_pieceOf) fun v3 s2 h => wt_tr (e := wt_iv) h⟩⟩⟩
def gX11_codeAt (s : wt_S) (i1 i2 : Int32) : Option (Int32 × wt_S) := some ((2258 + (4 * ((16 * i1) + i2))), s)
theorem sX11_codeAt {L d : Nat}   {s : wt_S} {i1 i2 : Int32} : wt_sd (wt_H L) wt_iv d kX11_codeAt kX11_codeAt (mj_ent 3 [.inr (some 110), .inl i1, .inl i2]) [] s (gX11_codeAt s i1 i2) := by
  unfold gX11_codeAt
  exact wt_go [] 14 fun R h => wt_tr (e := wt_iv) h
def gX11_isIn (s : wt_S) (i1 i2 i3 : Int32) : Option (Int32 × wt_S) := (if i1.toInt < i2.toInt then some (0, s) else (if i3.toInt < i1.toInt then some (0, s) else some (1, s)))
theorem sX11_isIn {L d : Nat}   {s : wt_S} {i1 i2 i3 : Int32} : wt_sd (wt_H L) wt_iv d kX11_isIn kX11_isIn (mj_ent 3 [.inl i1, .inl i2, .inl i3]) [] s (gX11_isIn s i1 i2 i3) := by
  unfold gX11_isIn
  exact wt_go [] 14 fun R h => wt_tb h (fun h => ⟨Or.inl rfl, wt_tr (e := wt_iv) h⟩) (fun h => wt_tb h (fun h => ⟨Or.inl rfl, wt_tr (e := wt_iv) h⟩) (fun h => ⟨Or.inr rfl, wt_tr (e := wt_iv) h⟩))
def gX11_isFunction (s : wt_S) (i1 : Int32) : Option (Int32 × wt_S) := (wt_cl (gX11_isIn s i1 0 9) fun v2 s1 => wt_rz v2 (some (v2, s1)))
theorem sX11_isFunction {L d : Nat}   {s : wt_S} {i1 : Int32} : wt_sd (wt_H L) wt_iv (d + 1) kX11_isFunction kX11_isFunction (mj_ent 1 [.inl i1]) [] s (gX11_isFunction s i1) := by
  unfold gX11_isFunction
  exact wt_go [] 9 fun R h => ⟨_, _, rfl, jX11_isIn, wt_tc h (sX11_isIn) fun v2 s1 h => wt_tz h fun h => wt_tr (e := wt_iv) h⟩
def gX11_isTold (s : wt_S) (i1 : Int32) : Option (Int32 × wt_S) := (wt_cl (gX11_isFunction s i1) fun v2 s1 => (if v2 = (0 : Int32) then some (0, s1) else (wt_ix (2228 + i1) 4073 fun k3 => (if (s1 111 k3).toInt ≤ (0 : Int32).toInt then some (0, s1) else some (1, s1)))))
theorem sX11_isTold {L d : Nat}   {s : wt_S} {i1 : Int32} : wt_sd (wt_H L) wt_iv (d + 2) kX11_isTold kX11_isTold (mj_ent 2 [.inr (some 110), .inl i1]) [] s (gX11_isTold s i1) := by
  unfold gX11_isTold
  exact wt_go [] 18 fun R h => ⟨_, _, rfl, jX11_isFunction, wt_tc h (sX11_isFunction) fun v2 s1 h => wt_tb h (fun h => ⟨Or.inl rfl, wt_tr (e := wt_iv) h⟩) (fun h => ⟨_, wt_s110, ⟨_, wt_m111.1, wt_tx h fun k3 h => wt_tb h (fun h => ⟨Or.inl rfl, wt_tr (e := wt_iv) h⟩) (fun h => ⟨Or.inr rfl, wt_tr (e := wt_iv) h⟩)⟩⟩)⟩
def gX11_calledBy_75 (K4 : wt_S → Int32 → Int32 → Int32 → Option (Int32 × wt_S)) (s : wt_S) (l1 : Int32) (l2 : Int32) (l3 : Int32) (z0 : Int32) : Option (Int32 × wt_S) := (wt_cl (gX11_isTold s z0) fun v2 s1 => (if v2 = (0 : Int32) then K4 s1 l1 l2 (l3 + 1) else K4 s1 l1 (l2 ||| (1 <<< (z0 &&& 31))) (l3 + 1)))
theorem sX11_calledBy_75 {L d : Nat}  {K4 : wt_S → Int32 → Int32 → Int32 → Option (Int32 × wt_S)}  (hK4 : ∀ {s : wt_S} {l1 : Int32} {l2 : Int32} {l3 : Int32} {x4 x5 : Option (mj_v Int32)}, wt_sd (wt_H L) wt_iv (d + 3) kX11_calledBy (mj_drop 4 kX11_calledBy) [some (.inr (some 110)), some (.inl l1), some (.inl l2), some (.inl l3), x4, x5] [] s (K4 s l1 l2 l3)) {s : wt_S} {l1 : Int32} {l2 : Int32} {l3 : Int32} {z0 : Int32} {x4 x5 : Option (mj_v Int32)} : wt_sd (wt_H L) wt_iv (d + 3) kX11_calledBy (mj_drop 44 kX11_calledBy) [some (.inr (some 110)), some (.inl l1), some (.inl l2), some (.inl l3), x4, x5] [.inl z0] s (gX11_calledBy_75 K4 s l1 l2 l3 z0) := by
  unfold gX11_calledBy_75
  exact wt_go1 [4, 75] 63 fun R h => ⟨_, wt_s110, _, _, rfl, jX11_isTold, wt_tc h (sX11_isTold) fun v2 s1 h => wt_tb h (fun h => ⟨trivial, hK4  _ h⟩) (fun h => ⟨trivial, hK4  _ h⟩)⟩
def gX11_calledBy_4 : Nat → wt_S → Int32 → Int32 → Int32 → Option (Int32 × wt_S)
  | 0, _, _, _, _ => none
  | n + 1, s, l1, l2, l3 => (wt_ix (2248 + l1) 4073 fun k1 => (if (s 111 k1).toInt ≤ l3.toInt then some (l2, s) else (wt_cl (gX11_codeAt s l1 l3) fun v3 s2 => (wt_ix v3 4073 fun k4 => (if (s2 111 k4) ≠ (6 : Int32) then (wt_ix v3 4073 fun k5 => (if (s2 111 k5) ≠ (9 : Int32) then gX11_calledBy_75 (gX11_calledBy_4 n) s2 l1 l2 l3 (-1) else (wt_ix (v3 + 2) 4073 fun k6 => gX11_calledBy_75 (gX11_calledBy_4 n) s2 l1 l2 l3 (s2 111 k6)))) else (wt_ix (v3 + 1) 4073 fun k7 => gX11_calledBy_75 (gX11_calledBy_4 n) s2 l1 l2 l3 (s2 111 k7)))))))
theorem sX11_calledBy_4 {L d : Nat}    : ∀ (n : Nat) {s : wt_S} {l1 : Int32} {l2 : Int32} {l3 : Int32} {x4 x5 : Option (mj_v Int32)}, wt_sd (wt_H L) wt_iv (d + 3) kX11_calledBy (mj_drop 4 kX11_calledBy) [some (.inr (some 110)), some (.inl l1), some (.inl l2), some (.inl l3), x4, x5] [] s (gX11_calledBy_4 n s l1 l2 l3) := by
  intro n
  induction n with
  | zero =>
    intro s l1 l2 l3 x4 x5
    exact fun R h => wt_tn h
  | succ n ih =>
    intro s l1 l2 l3 x4 x5
    unfold gX11_calledBy_4
    exact wt_go1 [4, 75] 63 fun R h => ⟨_, wt_s110, ⟨_, wt_m111.1, wt_tx h fun k1 h => wt_tb h (fun h => wt_tr (e := wt_iv) h) (fun h => ⟨_, wt_s110, _, _, rfl, jX11_codeAt, wt_tc h (sX11_codeAt) fun v3 s2 h => ⟨_, wt_s110, ⟨_, wt_m111.1, wt_tx h fun k4 h => wt_tb h (fun h => ⟨_, wt_s110, ⟨_, wt_m111.1, wt_tx h fun k5 h => wt_tb h (fun h => ⟨trivial, sX11_calledBy_75 ih _ h⟩) (fun h => ⟨_, wt_s110, ⟨_, wt_m111.1, wt_tx h fun k6 h => ⟨trivial, sX11_calledBy_75 ih _ h⟩⟩⟩)⟩⟩) (fun h => ⟨_, wt_s110, ⟨_, wt_m111.1, wt_tx h fun k7 h => ⟨trivial, sX11_calledBy_75 ih _ h⟩⟩⟩)⟩⟩⟩)⟩⟩
def gX11_calledBy (s : wt_S) (i1 : Int32) : Option (Int32 × wt_S) := gX11_calledBy_4 wt_N s i1 0 0
theorem sX11_calledBy {L d : Nat}   {s : wt_S} {i1 : Int32} : wt_sd (wt_H L) wt_iv (d + 3) kX11_calledBy kX11_calledBy (mj_ent 6 [.inr (some 110), .inl i1]) [] s (gX11_calledBy s i1) := by
  unfold gX11_calledBy
  exact wt_go [4, 75] 63 fun R h => ⟨trivial, sX11_calledBy_4 wt_N _ h⟩
def gX11_has (s : wt_S) (i1 i2 : Int32) : Option (Int32 × wt_S) := (if ((i1 >>> (i2 &&& 31)) &&& 1) ≠ (1 : Int32) then some (0, s) else some (1, s))
theorem sX11_has {L d : Nat}   {s : wt_S} {i1 i2 : Int32} : wt_sd (wt_H L) wt_iv d kX11_has kX11_has (mj_ent 2 [.inl i1, .inl i2]) [] s (gX11_has s i1 i2) := by
  unfold gX11_has
  exact wt_go [] 15 fun R h => wt_tb h (fun h => ⟨Or.inl rfl, wt_tr (e := wt_iv) h⟩) (fun h => ⟨Or.inr rfl, wt_tr (e := wt_iv) h⟩)
def gX11_reachedBy_18 (K8 : wt_S → Int32 → Int32 → Option (Int32 × wt_S)) : Nat → wt_S → Int32 → Int32 → Int32 → Option (Int32 × wt_S)
  | 0, _, _, _, _ => none
  | n + 1, s, l2, l3, l4 => (if (10 : Int32).toInt ≤ l4.toInt then K8 s l2 l3 else (wt_cl (gX11_has s l3 l4) fun v2 s1 => (if v2 = (0 : Int32) then gX11_reachedBy_18 K8 n s1 l2 l3 (l4 + 1) else (wt_cl (gX11_calledBy s1 l4) fun v4 s3 => gX11_reachedBy_18 K8 n s3 (l2 ||| v4) l3 (l4 + 1)))))
theorem sX11_reachedBy_18 {L d : Nat}  {K8 : wt_S → Int32 → Int32 → Option (Int32 × wt_S)}  (hK8 : ∀ {s : wt_S} {l2 : Int32} {l3 : Int32} {x1 x4 : Option (mj_v Int32)}, wt_sd (wt_H L) wt_iv (d + 4) kX11_reachedBy (mj_drop 6 kX11_reachedBy) [some (.inr (some 110)), x1, some (.inl l2), some (.inl l3), x4] [] s (K8 s l2 l3)) : ∀ (n : Nat) {s : wt_S} {l2 : Int32} {l3 : Int32} {l4 : Int32} {x1 : Option (mj_v Int32)}, wt_sd (wt_H L) wt_iv (d + 4) kX11_reachedBy (mj_drop 13 kX11_reachedBy) [some (.inr (some 110)), x1, some (.inl l2), some (.inl l3), some (.inl l4)] [] s (gX11_reachedBy_18 K8 n s l2 l3 l4) := by
  intro n
  induction n with
  | zero =>
    intro s l2 l3 l4 x1
    exact fun R h => wt_tn h
  | succ n ih =>
    intro s l2 l3 l4 x1
    unfold gX11_reachedBy_18
    exact wt_go1 [8, 18] 35 fun R h => wt_tb h (fun h => ⟨trivial, hK8  _ h⟩) (fun h => ⟨_, _, rfl, jX11_has, wt_tc h (sX11_has) fun v2 s1 h => wt_tb h (fun h => ⟨trivial, ih  _ h⟩) (fun h => ⟨_, wt_s110, _, _, rfl, jX11_calledBy, wt_tc h (sX11_calledBy) fun v4 s3 h => ⟨trivial, ih  _ h⟩⟩)⟩)
def gX11_reachedBy_8 : Nat → wt_S → Int32 → Int32 → Option (Int32 × wt_S)
  | 0, _, _, _ => none
  | n + 1, s, l2, l3 => (if l3 = l2 then some (l2, s) else gX11_reachedBy_18 (gX11_reachedBy_8 n) wt_N s l2 l2 0)
theorem sX11_reachedBy_8 {L d : Nat}    : ∀ (n : Nat) {s : wt_S} {l2 : Int32} {l3 : Int32} {x1 x4 : Option (mj_v Int32)}, wt_sd (wt_H L) wt_iv (d + 4) kX11_reachedBy (mj_drop 6 kX11_reachedBy) [some (.inr (some 110)), x1, some (.inl l2), some (.inl l3), x4] [] s (gX11_reachedBy_8 n s l2 l3) := by
  intro n
  induction n with
  | zero =>
    intro s l2 l3 x1 x4
    exact fun R h => wt_tn h
  | succ n ih =>
    intro s l2 l3 x1 x4
    unfold gX11_reachedBy_8
    exact wt_go1 [8, 18] 35 fun R h => wt_tb h (fun h => wt_tr (e := wt_iv) h) (fun h => ⟨trivial, sX11_reachedBy_18 ih wt_N _ h⟩)
def gX11_reachedBy (s : wt_S) (i1 : Int32) : Option (Int32 × wt_S) := (wt_cl (gX11_calledBy s i1) fun v2 s1 => gX11_reachedBy_8 wt_N s1 v2 0)
theorem sX11_reachedBy {L d : Nat}   {s : wt_S} {i1 : Int32} : wt_sd (wt_H L) wt_iv (d + 4) kX11_reachedBy kX11_reachedBy (mj_ent 5 [.inr (some 110), .inl i1]) [] s (gX11_reachedBy s i1) := by
  unfold gX11_reachedBy
  exact wt_go [8, 18] 35 fun R h => ⟨_, wt_s110, _, _, rfl, jX11_calledBy, wt_tc h (sX11_calledBy) fun v2 s1 h => ⟨trivial, sX11_reachedBy_8 wt_N _ h⟩⟩
def gX11_isEndlessOne_18 : Nat → wt_S → Int32 → Int32 → Option (Int32 × wt_S)
  | 0, _, _, _ => none
  | n + 1, s, l2, l3 => (if (10 : Int32).toInt ≤ l3.toInt then some (0, s) else (wt_cl (gX11_has s l2 l3) fun v2 s1 => (if v2 = (0 : Int32) then gX11_isEndlessOne_18 n s1 l2 (l3 + 1) else (wt_cl (gX11_reachedBy s1 l3) fun v4 s3 => (wt_cl (gX11_has s3 v4 l3) fun v6 s5 => (if v6 = (0 : Int32) then gX11_isEndlessOne_18 n s5 l2 (l3 + 1) else some (1, s5)))))))
theorem sX11_isEndlessOne_18 {L d : Nat}    : ∀ (n : Nat) {s : wt_S} {l2 : Int32} {l3 : Int32} {x1 : Option (mj_v Int32)}, wt_sd (wt_H L) wt_iv (d + 5) kX11_isEndlessOne (mj_drop 12 kX11_isEndlessOne) [some (.inr (some 110)), x1, some (.inl l2), some (.inl l3)] [] s (gX11_isEndlessOne_18 n s l2 l3) := by
  intro n
  induction n with
  | zero =>
    intro s l2 l3 x1
    exact fun R h => wt_tn h
  | succ n ih =>
    intro s l2 l3 x1
    unfold gX11_isEndlessOne_18
    exact wt_go1 [18] 35 fun R h => wt_tb h (fun h => ⟨Or.inl rfl, wt_tr (e := wt_iv) h⟩) (fun h => ⟨_, _, rfl, jX11_has, wt_tc h (sX11_has) fun v2 s1 h => wt_tb h (fun h => ⟨trivial, ih  _ h⟩) (fun h => ⟨_, wt_s110, _, _, rfl, jX11_reachedBy, wt_tc h (sX11_reachedBy) fun v4 s3 h => ⟨_, _, rfl, jX11_has, wt_tc h (sX11_has) fun v6 s5 h => wt_tb h (fun h => ⟨trivial, ih  _ h⟩) (fun h => ⟨Or.inr rfl, wt_tr (e := wt_iv) h⟩)⟩⟩)⟩)
def gX11_isEndlessOne (s : wt_S) (i1 : Int32) : Option (Int32 × wt_S) := (wt_cl (gX11_reachedBy s i1) fun v2 s1 => (wt_cl (gX11_has s1 v2 i1) fun v4 s3 => (if v4 = (0 : Int32) then gX11_isEndlessOne_18 wt_N s3 v2 0 else some (1, s3))))
theorem sX11_isEndlessOne {L d : Nat}   {s : wt_S} {i1 : Int32} : wt_sd (wt_H L) wt_iv (d + 5) kX11_isEndlessOne kX11_isEndlessOne (mj_ent 4 [.inr (some 110), .inl i1]) [] s (gX11_isEndlessOne s i1) := by
  unfold gX11_isEndlessOne
  exact wt_go [18] 35 fun R h => ⟨_, wt_s110, _, _, rfl, jX11_reachedBy, wt_tc h (sX11_reachedBy) fun v2 s1 h => ⟨_, _, rfl, jX11_has, wt_tc h (sX11_has) fun v4 s3 h => wt_tb h (fun h => ⟨trivial, sX11_isEndlessOne_18 wt_N _ h⟩) (fun h => ⟨Or.inr rfl, wt_tr (e := wt_iv) h⟩)⟩⟩
def gX11_depth1_50 (D : wt_S → Int32 → Option (Int32 × wt_S)) (K11 : wt_S → Int32 → Int32 → Int32 → Int32 → Option (Int32 × wt_S)) (s : wt_S) (l1 : Int32) (l3 : Int32) (l4 : Int32) (z0 : Int32) : Option (Int32 × wt_S) := K11 s l1 z0 l3 (l4 + 1)
theorem sX11_depth1_50 {L d : Nat}  {K11 : wt_S → Int32 → Int32 → Int32 → Int32 → Option (Int32 × wt_S)} {D : wt_S → Int32 → Option (Int32 × wt_S)} (hD : ∀ {s : wt_S} {i : Int32}, wt_sd (wt_H L) wt_iv (d + 4) kX11_depth kX11_depth (mj_ent 6 [.inr (some 110), .inl i]) [] s (D s i)) (hK11 : ∀ {s : wt_S} {l1 : Int32} {l2 : Int32} {l3 : Int32} {l4 : Int32} {x5 : Option (mj_v Int32)}, wt_sd (wt_H L) wt_iv (d + 5) kX11_depth (mj_drop 8 kX11_depth) [some (.inr (some 110)), some (.inl l1), some (.inl l2), some (.inl l3), some (.inl l4), x5] [] s (K11 s l1 l2 l3 l4)) {s : wt_S} {l1 : Int32} {l3 : Int32} {l4 : Int32} {z0 : Int32} {x2 x5 : Option (mj_v Int32)} : wt_sd (wt_H L) wt_iv (d + 5) kX11_depth (mj_drop 26 kX11_depth) [some (.inr (some 110)), some (.inl l1), x2, some (.inl l3), some (.inl l4), x5] [.inl z0] s (gX11_depth1_50 D K11 s l1 l3 l4 z0) := by
  unfold gX11_depth1_50
  exact wt_go1 [11, 50] 39 fun R h => ⟨trivial, hK11  _ h⟩
def gX11_depth1_11 (D : wt_S → Int32 → Option (Int32 × wt_S)) : Nat → wt_S → Int32 → Int32 → Int32 → Int32 → Option (Int32 × wt_S)
  | 0, _, _, _, _, _ => none
  | n + 1, s, l1, l2, l3, l4 => (if (10 : Int32).toInt ≤ l4.toInt then (wt_cl (gX11_frameOf s l1) fun v2 s1 => some ((v2 + l2), s1)) else (wt_cl (gX11_has s l3 l4) fun v4 s3 => (if v4 ≠ (0 : Int32) then (wt_cl (D s3 l4) fun v6 s5 => (if v6.toInt ≤ l2.toInt then gX11_depth1_50 D (gX11_depth1_11 D n) s5 l1 l3 l4 l2 else gX11_depth1_50 D (gX11_depth1_11 D n) s5 l1 l3 l4 v6)) else gX11_depth1_11 D n s3 l1 l2 l3 (l4 + 1))))
theorem sX11_depth1_11 {L d : Nat}   {D : wt_S → Int32 → Option (Int32 × wt_S)} (hD : ∀ {s : wt_S} {i : Int32}, wt_sd (wt_H L) wt_iv (d + 4) kX11_depth kX11_depth (mj_ent 6 [.inr (some 110), .inl i]) [] s (D s i)) : ∀ (n : Nat) {s : wt_S} {l1 : Int32} {l2 : Int32} {l3 : Int32} {l4 : Int32} {x5 : Option (mj_v Int32)}, wt_sd (wt_H L) wt_iv (d + 5) kX11_depth (mj_drop 8 kX11_depth) [some (.inr (some 110)), some (.inl l1), some (.inl l2), some (.inl l3), some (.inl l4), x5] [] s (gX11_depth1_11 D n s l1 l2 l3 l4) := by
  intro n
  induction n with
  | zero =>
    intro s l1 l2 l3 l4 x5
    exact fun R h => wt_tn h
  | succ n ih =>
    intro s l1 l2 l3 l4 x5
    unfold gX11_depth1_11
    exact wt_go1 [11, 50] 39 fun R h => wt_tb h (fun h => ⟨_, wt_s110, _, _, rfl, jX11_frameOf, wt_tc h (sX11_frameOf) fun v2 s1 h => wt_tr (e := wt_iv) h⟩) (fun h => ⟨_, _, rfl, jX11_has, wt_tc h (sX11_has) fun v4 s3 h => wt_tb h (fun h => ⟨_, wt_s110, _, _, rfl, jX11_depth, wt_tc h (hD) fun v6 s5 h => wt_tb h (fun h => ⟨trivial, sX11_depth1_50 hD ih _ h⟩) (fun h => ⟨trivial, sX11_depth1_50 hD ih _ h⟩)⟩) (fun h => ⟨trivial, ih  _ h⟩)⟩)
def gX11_depth1 (D : wt_S → Int32 → Option (Int32 × wt_S)) (s : wt_S) (i1 : Int32) : Option (Int32 × wt_S) := (wt_cl (gX11_calledBy s i1) fun v2 s1 => gX11_depth1_11 D wt_N s1 i1 0 v2 0)
theorem sX11_depth1 {L d : Nat}  {D : wt_S → Int32 → Option (Int32 × wt_S)} (hD : ∀ {s : wt_S} {i : Int32}, wt_sd (wt_H L) wt_iv (d + 4) kX11_depth kX11_depth (mj_ent 6 [.inr (some 110), .inl i]) [] s (D s i)) {s : wt_S} {i1 : Int32} : wt_sd (wt_H L) wt_iv (d + 5) kX11_depth kX11_depth (mj_ent 6 [.inr (some 110), .inl i1]) [] s (gX11_depth1 D s i1) := by
  unfold gX11_depth1
  exact wt_go [11, 50] 39 fun R h => ⟨_, wt_s110, _, _, rfl, jX11_calledBy, wt_tc h (sX11_calledBy) fun v2 s1 h => ⟨trivial, sX11_depth1_11 hD wt_N _ h⟩⟩
def gX11_depth : Nat → wt_S → Int32 → Option (Int32 × wt_S)
  | 0, _, _ => none
  | m + 1, s, i => gX11_depth1 (gX11_depth m) s i
theorem sX11_depth {L d : Nat} : ∀ (m : Nat) {s : wt_S} {i : Int32}, wt_sd (wt_H L) wt_iv (d + m + 4) kX11_depth kX11_depth (mj_ent 6 [.inr (some 110), .inl i]) [] s (gX11_depth m s i) := by
  intro m
  induction m with
  | zero =>
    intro s i
    exact fun R h => wt_tn h
  | succ m ih =>
    intro s i
    exact sX11_depth1 (d := d + m) ih
def gX11_deepOf (s : wt_S) (i1 : Int32) : Option (Int32 × wt_S) := (wt_cl (gX11_isEndlessOne s i1) fun v2 s1 => (if v2 = (0 : Int32) then (wt_cl (gX11_depth 11 s1 i1) fun v4 s3 => some (v4, s3)) else some ((-2), s1)))
theorem sX11_deepOf {L d : Nat}   {s : wt_S} {i1 : Int32} : wt_sd (wt_H L) wt_iv (d + 16) kX11_deepOf kX11_deepOf (mj_ent 2 [.inr (some 110), .inl i1]) [] s (gX11_deepOf s i1) := by
  unfold gX11_deepOf
  exact wt_go [] 14 fun R h => ⟨_, wt_s110, _, _, rfl, jX11_isEndlessOne, wt_tc h (sX11_isEndlessOne) fun v2 s1 h => wt_tb h (fun h => ⟨_, wt_s110, _, _, rfl, jX11_depth, wt_tc h (sX11_depth 11) fun v4 s3 h => wt_tr (e := wt_iv) h⟩) (fun h => wt_tr (e := wt_iv) h)⟩
def gX11_isMerged (s : wt_S) (i1 : Int32) : Option (Int32 × wt_S) := (if (s 111 2050) ≠ (0 : Int32) then (wt_cl (gX11_deepOf s i1) fun v2 s1 => (if v2 = ((-2) : Int32) then some (0, s1) else (if (s1 111 2051).toInt < v2.toInt then some (0, s1) else some (1, s1)))) else some (0, s))
theorem sX11_isMerged {L d : Nat}   {s : wt_S} {i1 : Int32} : wt_sd (wt_H L) wt_iv (d + 17) kX11_isMerged kX11_isMerged (mj_ent 3 [.inr (some 110), .inl i1]) [] s (gX11_isMerged s i1) := by
  unfold gX11_isMerged
  exact wt_go [] 28 fun R h => ⟨_, wt_s110, ⟨_, wt_m111.1, 2050, ⟨rfl, by decide⟩, wt_tb h (fun h => ⟨_, wt_s110, _, _, rfl, jX11_deepOf, wt_tc h (sX11_deepOf) fun v2 s1 h => wt_tb h (fun h => ⟨Or.inl rfl, wt_tr (e := wt_iv) h⟩) (fun h => ⟨_, wt_s110, ⟨_, wt_m111.1, 2051, ⟨rfl, by decide⟩, wt_tb h (fun h => ⟨Or.inl rfl, wt_tr (e := wt_iv) h⟩) (fun h => ⟨Or.inr rfl, wt_tr (e := wt_iv) h⟩)⟩⟩)⟩) (fun h => ⟨Or.inl rfl, wt_tr (e := wt_iv) h⟩)⟩⟩
def gX11_needOf (s : wt_S) (i1 : Int32) : Option (Int32 × wt_S) := (wt_cl (gX11_isMerged s i1) fun v2 s1 => (if v2 = (0 : Int32) then (wt_cl (gX11_frameOf s1 i1) fun v4 s3 => some (v4, s3)) else (wt_cl (gX11_deepOf s1 i1) fun v6 s5 => some (v6, s5))))
theorem sX11_needOf {L d : Nat}   {s : wt_S} {i1 : Int32} : wt_sd (wt_H L) wt_iv (d + 18) kX11_needOf kX11_needOf (mj_ent 2 [.inr (some 110), .inl i1]) [] s (gX11_needOf s i1) := by
  unfold gX11_needOf
  exact wt_go [] 16 fun R h => ⟨_, wt_s110, _, _, rfl, jX11_isMerged, wt_tc h (sX11_isMerged) fun v2 s1 h => wt_tb h (fun h => ⟨_, wt_s110, _, _, rfl, jX11_frameOf, wt_tc h (sX11_frameOf) fun v4 s3 h => wt_tr (e := wt_iv) h⟩) (fun h => ⟨_, wt_s110, _, _, rfl, jX11_deepOf, wt_tc h (sX11_deepOf) fun v6 s5 h => wt_tr (e := wt_iv) h⟩)⟩
def gX11_gapFor_4 : Nat → wt_S → Int32 → Int32 → Int32 → Option (Int32 × wt_S)
  | 0, _, _, _, _ => none
  | n + 1, s, l1, l2, l3 => (if (s 111 2898).toInt ≤ l3.toInt then (if (2048 - l2).toInt < l1.toInt then some ((-1), s) else some (l2, s)) else (wt_ix (2899 + l3) 4073 fun k1 => (if ((s 111 k1) - l2).toInt < l1.toInt then (wt_ix (2899 + l3) 4073 fun k2 => (wt_ix (3155 + l3) 4073 fun k3 => gX11_gapFor_4 n s l1 ((s 111 k2) + (s 111 k3)) (l3 + 1))) else some (l2, s))))
theorem sX11_gapFor_4 {L d : Nat}    : ∀ (n : Nat) {s : wt_S} {l1 : Int32} {l2 : Int32} {l3 : Int32}, wt_sd (wt_H L) wt_iv d kX11_gapFor (mj_drop 4 kX11_gapFor) [some (.inr (some 110)), some (.inl l1), some (.inl l2), some (.inl l3)] [] s (gX11_gapFor_4 n s l1 l2 l3) := by
  intro n
  induction n with
  | zero =>
    intro s l1 l2 l3
    exact fun R h => wt_tn h
  | succ n ih =>
    intro s l1 l2 l3
    unfold gX11_gapFor_4
    exact wt_go1 [4] 51 fun R h => ⟨_, wt_s110, ⟨_, wt_m111.1, 2898, ⟨rfl, by decide⟩, wt_tb h (fun h => wt_tb h (fun h => wt_tr (e := wt_iv) h) (fun h => wt_tr (e := wt_iv) h)) (fun h => ⟨_, wt_s110, ⟨_, wt_m111.1, wt_tx h fun k1 h => wt_tb h (fun h => ⟨_, wt_s110, ⟨_, wt_m111.1, wt_tx h fun k2 h => ⟨_, wt_s110, ⟨_, wt_m111.1, wt_tx h fun k3 h => ⟨trivial, ih  _ h⟩⟩⟩⟩⟩) (fun h => wt_tr (e := wt_iv) h)⟩⟩)⟩⟩
def gX11_gapFor (s : wt_S) (i1 : Int32) : Option (Int32 × wt_S) := gX11_gapFor_4 wt_N s i1 0 0
theorem sX11_gapFor {L d : Nat}   {s : wt_S} {i1 : Int32} : wt_sd (wt_H L) wt_iv d kX11_gapFor kX11_gapFor (mj_ent 4 [.inr (some 110), .inl i1]) [] s (gX11_gapFor s i1) := by
  unfold gX11_gapFor
  exact wt_go [4] 51 fun R h => ⟨trivial, sX11_gapFor_4 wt_N _ h⟩
def gX11_part (s : wt_S) (i1 i2 i3 : Int32) : Option (Unit × wt_S) := (wt_ix (s 110 9) 256 fun k2 => wt_wr s 115 k2 i1 fun s1 => (wt_ix (s1 110 9) 256 fun k4 => wt_wr s1 116 k4 i2 fun s3 => (wt_ix (s3 110 9) 256 fun k6 => wt_wr s3 117 k6 i3 fun s5 => (wt_wr s5 110 9 ((s5 110 9) + 1) fun s7 => some ((), s7)))))
theorem sX11_part {L d : Nat}   {s : wt_S} {i1 i2 i3 : Int32} : wt_sd (wt_H L) wt_uv d kX11_part kX11_part (mj_ent 4 [.inr (some 110), .inl i1, .inl i2, .inl i3]) [] s (gX11_part s i1 i2 i3) := by
  unfold gX11_part
  exact wt_go [] 29 fun R h => ⟨_, wt_s110, ⟨_, wt_s110, ⟨_, wt_m115, wt_tx h fun k2 h => have h := wt_tw h; ⟨_, wt_s110, ⟨_, wt_s110, ⟨_, wt_m116, wt_tx h fun k4 h => have h := wt_tw h; ⟨_, wt_s110, ⟨_, wt_s110, ⟨_, wt_m117, wt_tx h fun k6 h => have h := wt_tw h; ⟨_, wt_s110, ⟨_, wt_s110, have h := wt_tw h; wt_tr (e := wt_uv) h⟩⟩⟩⟩⟩⟩⟩⟩⟩⟩⟩
def gX11_carries_12 (K2 : wt_S → Int32 → Option (Unit × wt_S)) : Nat → wt_S → Int32 → Int32 → Option (Unit × wt_S)
  | 0, _, _, _ => none
  | n + 1, s, l1, l2 => (wt_ix l1 256 fun k1 => (if (s 116 k1).toInt ≤ l2.toInt then K2 s (l1 + 1) else (wt_ix l1 256 fun k2 => (wt_ix l1 256 fun k3 => (wt_ix ((s 115 k3) + l2) 4073 fun k4 => (wt_ix ((s 117 k2) + l2) 4073 fun k6 => wt_wr s 111 k6 (s 111 k4) fun s5 => gX11_carries_12 K2 n s5 l1 (l2 + 1)))))))
theorem sX11_carries_12 {L d : Nat}  {K2 : wt_S → Int32 → Option (Unit × wt_S)}  (hK2 : ∀ {s : wt_S} {l1 : Int32} {x2 : Option (mj_v Int32)}, wt_sd (wt_H L) wt_uv d kX11_carries (mj_drop 2 kX11_carries) [some (.inr (some 110)), some (.inl l1), x2] [] s (K2 s l1)) : ∀ (n : Nat) {s : wt_S} {l1 : Int32} {l2 : Int32}, wt_sd (wt_H L) wt_uv d kX11_carries (mj_drop 8 kX11_carries) [some (.inr (some 110)), some (.inl l1), some (.inl l2)] [] s (gX11_carries_12 K2 n s l1 l2) := by
  intro n
  induction n with
  | zero =>
    intro s l1 l2
    exact fun R h => wt_tn h
  | succ n ih =>
    intro s l1 l2
    unfold gX11_carries_12
    exact wt_go1 [2, 12] 41 fun R h => ⟨_, wt_s110, ⟨_, wt_m116.1, wt_tx h fun k1 h => wt_tb h (fun h => ⟨trivial, hK2  _ h⟩) (fun h => ⟨_, wt_s110, ⟨_, wt_s110, ⟨_, wt_m117.1, wt_tx h fun k2 h => ⟨_, wt_s110, ⟨_, wt_s110, ⟨_, wt_m115.1, wt_tx h fun k3 h => ⟨_, wt_m111.1, wt_tx h fun k4 h => ⟨_, wt_m111, wt_tx h fun k6 h => have h := wt_tw h; ⟨trivial, ih  _ h⟩⟩⟩⟩⟩⟩⟩⟩⟩)⟩⟩
def gX11_carries_2 : Nat → wt_S → Int32 → Option (Unit × wt_S)
  | 0, _, _ => none
  | n + 1, s, l1 => (if (s 110 9).toInt ≤ l1.toInt then some ((), s) else gX11_carries_12 (gX11_carries_2 n) wt_N s l1 0)
theorem sX11_carries_2 {L d : Nat}    : ∀ (n : Nat) {s : wt_S} {l1 : Int32} {x2 : Option (mj_v Int32)}, wt_sd (wt_H L) wt_uv d kX11_carries (mj_drop 2 kX11_carries) [some (.inr (some 110)), some (.inl l1), x2] [] s (gX11_carries_2 n s l1) := by
  intro n
  induction n with
  | zero =>
    intro s l1 x2
    exact fun R h => wt_tn h
  | succ n ih =>
    intro s l1 x2
    unfold gX11_carries_2
    exact wt_go1 [2, 12] 41 fun R h => ⟨_, wt_s110, wt_tb h (fun h => wt_tr (e := wt_uv) h) (fun h => ⟨trivial, sX11_carries_12 ih wt_N _ h⟩)⟩
def gX11_carries (s : wt_S) : Option (Unit × wt_S) := gX11_carries_2 wt_N s 0
theorem sX11_carries {L d : Nat}   {s : wt_S}  : wt_sd (wt_H L) wt_uv d kX11_carries kX11_carries (mj_ent 3 [.inr (some 110)]) [] s (gX11_carries s) := by
  unfold gX11_carries
  exact wt_go [2, 12] 41 fun R h => ⟨trivial, sX11_carries_2 wt_N _ h⟩
def gX11_goalOf_2 : Nat → wt_S → Int32 → Int32 → Option (Int32 × wt_S)
  | 0, _, _, _ => none
  | n + 1, s, l1, l2 => (if (s 110 9).toInt ≤ l2.toInt then some (l1, s) else (wt_ix l2 256 fun k1 => (wt_ix l2 256 fun k2 => (wt_ix l2 256 fun k3 => (wt_cl (gX11_isIn s l1 (s 115 k1) (((s 115 k2) + (s 116 k3)) - 1)) fun v5 s4 => (if v5 = (0 : Int32) then gX11_goalOf_2 n s4 l1 (l2 + 1) else (wt_ix l2 256 fun k6 => (wt_ix l2 256 fun k7 => some ((((s4 117 k6) + l1) - (s4 115 k7)), s4)))))))))
theorem sX11_goalOf_2 {L d : Nat}    : ∀ (n : Nat) {s : wt_S} {l1 : Int32} {l2 : Int32}, wt_sd (wt_H L) wt_iv (d + 1) kX11_goalOf (mj_drop 2 kX11_goalOf) [some (.inr (some 110)), some (.inl l1), some (.inl l2)] [] s (gX11_goalOf_2 n s l1 l2) := by
  intro n
  induction n with
  | zero =>
    intro s l1 l2
    exact fun R h => wt_tn h
  | succ n ih =>
    intro s l1 l2
    unfold gX11_goalOf_2
    exact wt_go1 [2] 44 fun R h => ⟨_, wt_s110, wt_tb h (fun h => wt_tr (e := wt_iv) h) (fun h => ⟨_, wt_s110, ⟨_, wt_m115.1, wt_tx h fun k1 h => ⟨_, wt_s110, ⟨_, wt_m115.1, wt_tx h fun k2 h => ⟨_, wt_s110, ⟨_, wt_m116.1, wt_tx h fun k3 h => ⟨_, _, rfl, jX11_isIn, wt_tc h (sX11_isIn) fun v5 s4 h => wt_tb h (fun h => ⟨trivial, ih  _ h⟩) (fun h => ⟨_, wt_s110, ⟨_, wt_m117.1, wt_tx h fun k6 h => ⟨_, wt_s110, ⟨_, wt_m115.1, wt_tx h fun k7 h => wt_tr (e := wt_iv) h⟩⟩⟩⟩)⟩⟩⟩⟩⟩⟩⟩)⟩
def gX11_goalOf (s : wt_S) (i1 : Int32) : Option (Int32 × wt_S) := gX11_goalOf_2 wt_N s i1 0
theorem sX11_goalOf {L d : Nat}   {s : wt_S} {i1 : Int32} : wt_sd (wt_H L) wt_iv (d + 1) kX11_goalOf kX11_goalOf (mj_ent 3 [.inr (some 110), .inl i1]) [] s (gX11_goalOf s i1) := by
  unfold gX11_goalOf
  exact wt_go [2] 44 fun R h => ⟨trivial, sX11_goalOf_2 wt_N _ h⟩
def gX11_turns_67 (K49 : wt_S → Int32 → Int32 → Int32 → Int32 → Option (Unit × wt_S)) : Nat → wt_S → Int32 → Int32 → Int32 → Int32 → Int32 → Option (Unit × wt_S)
  | 0, _, _, _, _, _, _ => none
  | n + 1, s, l1, l2, l3, l4, l5 => (wt_ix (2228 + l3) 4073 fun k1 => (if (s 111 k1).toInt ≤ l5.toInt then (wt_ix l2 4073 fun k2 => (if (s 111 k2) ≠ ((-1) : Int32) then (wt_cl (gX11_goalOf s (s 111 k2)) fun v4 s3 => (wt_ix l2 4073 fun k6 => wt_wr s3 111 k6 v4 fun s5 => (wt_ix (l2 + 1) 4073 fun k7 => (wt_ix l2 4073 fun k8 => K49 s5 l1 (s5 111 k8) (((s5 111 k7) &&& 1023) / 32) (l4 + 1))))) else some ((), s))) else (wt_ix (2238 + l3) 4073 fun k9 => (wt_cl (gX11_has s (s 111 k9) l5) fun v11 s10 => (if v11 = (0 : Int32) then gX11_turns_67 K49 n s10 l1 l2 l3 l4 (l5 + 1) else (wt_ix ((l2 + 2) + l5) 4073 fun k12 => (if (s10 111 k12) = ((-1) : Int32) then gX11_turns_67 K49 n s10 l1 l2 l3 l4 (l5 + 1) else (wt_ix ((l2 + 2) + l5) 4073 fun k13 => (wt_cl (gX11_goalOf s10 (s10 111 k13)) fun v15 s14 => (wt_ix ((l2 + 2) + l5) 4073 fun k17 => wt_wr s14 111 k17 v15 fun s16 => gX11_turns_67 K49 n s16 l1 l2 l3 l4 (l5 + 1)))))))))))
theorem sX11_turns_67 {L d : Nat}  {K49 : wt_S → Int32 → Int32 → Int32 → Int32 → Option (Unit × wt_S)}  (hK49 : ∀ {s : wt_S} {l1 : Int32} {l2 : Int32} {l3 : Int32} {l4 : Int32} {x5 : Option (mj_v Int32)}, wt_sd (wt_H L) wt_uv (d + 2) kX11_turns (mj_drop 30 kX11_turns) [some (.inr (some 110)), some (.inl l1), some (.inl l2), some (.inl l3), some (.inl l4), x5] [] s (K49 s l1 l2 l3 l4)) : ∀ (n : Nat) {s : wt_S} {l1 : Int32} {l2 : Int32} {l3 : Int32} {l4 : Int32} {l5 : Int32}, wt_sd (wt_H L) wt_uv (d + 2) kX11_turns (mj_drop 40 kX11_turns) [some (.inr (some 110)), some (.inl l1), some (.inl l2), some (.inl l3), some (.inl l4), some (.inl l5)] [] s (gX11_turns_67 K49 n s l1 l2 l3 l4 l5) := by
  intro n
  induction n with
  | zero =>
    intro s l1 l2 l3 l4 l5
    exact fun R h => wt_tn h
  | succ n ih =>
    intro s l1 l2 l3 l4 l5
    unfold gX11_turns_67
    exact wt_go1 [49, 67] 126 fun R h => ⟨_, wt_s110, ⟨_, wt_m111.1, wt_tx h fun k1 h => wt_tb h (fun h => ⟨_, wt_s110, ⟨_, wt_m111.1, wt_tx h fun k2 h => wt_tb h (fun h => ⟨_, wt_s110, ⟨_, wt_s110, _, _, rfl, jX11_goalOf, wt_tc h (sX11_goalOf) fun v4 s3 h => ⟨_, wt_m111, wt_tx h fun k6 h => have h := wt_tw h; ⟨_, wt_s110, ⟨_, wt_m111.1, wt_tx h fun k7 h => ⟨(by decide : (32 : Int32) ≠ 0), ⟨_, wt_s110, ⟨_, wt_m111.1, wt_tx h fun k8 h => ⟨trivial, hK49  _ h⟩⟩⟩⟩⟩⟩⟩⟩⟩) (fun h => wt_tr (e := wt_uv) h)⟩⟩) (fun h => ⟨_, wt_s110, ⟨_, wt_m111.1, wt_tx h fun k9 h => ⟨_, _, rfl, jX11_has, wt_tc h (sX11_has) fun v11 s10 h => wt_tb h (fun h => ⟨trivial, ih  _ h⟩) (fun h => ⟨_, wt_s110, ⟨_, wt_m111.1, wt_tx h fun k12 h => wt_tb h (fun h => ⟨trivial, ih  _ h⟩) (fun h => ⟨_, wt_s110, ⟨_, wt_s110, ⟨_, wt_m111.1, wt_tx h fun k13 h => ⟨_, wt_s110, _, _, rfl, jX11_goalOf, wt_tc h (sX11_goalOf) fun v15 s14 h => ⟨_, wt_m111, wt_tx h fun k17 h => have h := wt_tw h; ⟨trivial, ih  _ h⟩⟩⟩⟩⟩⟩)⟩⟩)⟩⟩⟩)⟩⟩
def gX11_turns_49 : Nat → wt_S → Int32 → Int32 → Int32 → Int32 → Option (Unit × wt_S)
  | 0, _, _, _, _, _ => none
  | n + 1, s, l1, l2, l3, l4 => (wt_ix (3954 + l1) 4073 fun k1 => (if (s 111 k1).toInt ≤ l4.toInt then some ((), s) else gX11_turns_67 (gX11_turns_49 n) wt_N s l1 l2 l3 l4 0))
theorem sX11_turns_49 {L d : Nat}    : ∀ (n : Nat) {s : wt_S} {l1 : Int32} {l2 : Int32} {l3 : Int32} {l4 : Int32} {x5 : Option (mj_v Int32)}, wt_sd (wt_H L) wt_uv (d + 2) kX11_turns (mj_drop 30 kX11_turns) [some (.inr (some 110)), some (.inl l1), some (.inl l2), some (.inl l3), some (.inl l4), x5] [] s (gX11_turns_49 n s l1 l2 l3 l4) := by
  intro n
  induction n with
  | zero =>
    intro s l1 l2 l3 l4 x5
    exact fun R h => wt_tn h
  | succ n ih =>
    intro s l1 l2 l3 l4 x5
    unfold gX11_turns_49
    exact wt_go1 [49, 67] 126 fun R h => ⟨_, wt_s110, ⟨_, wt_m111.1, wt_tx h fun k1 h => wt_tb h (fun h => wt_tr (e := wt_uv) h) (fun h => ⟨trivial, sX11_turns_67 ih wt_N _ h⟩)⟩⟩
def gX11_turns (s : wt_S) (i1 : Int32) : Option (Unit × wt_S) := (wt_ix (3982 + i1) 4073 fun k1 => (wt_cl (gX11_goalOf s (s 111 k1)) fun v3 s2 => (wt_ix (3982 + i1) 4073 fun k5 => wt_wr s2 111 k5 v3 fun s4 => (wt_ix (3982 + i1) 4073 fun k6 => (wt_ix (3975 + i1) 4073 fun k7 => gX11_turns_49 wt_N s4 i1 (s4 111 k6) (s4 111 k7) 0)))))
theorem sX11_turns {L d : Nat}   {s : wt_S} {i1 : Int32} : wt_sd (wt_H L) wt_uv (d + 2) kX11_turns kX11_turns (mj_ent 6 [.inr (some 110), .inl i1]) [] s (gX11_turns s i1) := by
  unfold gX11_turns
  exact wt_go [49, 67] 126 fun R h => ⟨_, wt_s110, ⟨_, wt_s110, ⟨_, wt_m111.1, wt_tx h fun k1 h => ⟨_, wt_s110, _, _, rfl, jX11_goalOf, wt_tc h (sX11_goalOf) fun v3 s2 h => ⟨_, wt_m111, wt_tx h fun k5 h => have h := wt_tw h; ⟨_, wt_s110, ⟨_, wt_m111.1, wt_tx h fun k6 h => ⟨_, wt_s110, ⟨_, wt_m111.1, wt_tx h fun k7 h => ⟨trivial, sX11_turns_49 wt_N _ h⟩⟩⟩⟩⟩⟩⟩⟩⟩⟩
def gX11_shifts (s : wt_S) (i1 i2 : Int32) : Option (Unit × wt_S) := (wt_ix (2899 + i2) 4073 fun k1 => (wt_ix (2899 + i1) 4073 fun k3 => wt_wr s 111 k3 (s 111 k1) fun s2 => (wt_ix (3155 + i2) 4073 fun k4 => (wt_ix (3155 + i1) 4073 fun k6 => wt_wr s2 111 k6 (s2 111 k4) fun s5 => (wt_ix (3411 + i2) 4073 fun k7 => (wt_ix (3411 + i1) 4073 fun k9 => wt_wr s5 111 k9 (s5 111 k7) fun s8 => (wt_ix (3667 + i2) 4073 fun k10 => (wt_ix (3667 + i1) 4073 fun k12 => wt_wr s8 111 k12 (s8 111 k10) fun s11 => some ((), s11)))))))))
theorem sX11_shifts {L d : Nat}   {s : wt_S} {i1 i2 : Int32} : wt_sd (wt_H L) wt_uv d kX11_shifts kX11_shifts (mj_ent 3 [.inr (some 110), .inl i1, .inl i2]) [] s (gX11_shifts s i1 i2) := by
  unfold gX11_shifts
  exact wt_go [] 53 fun R h => ⟨_, wt_s110, ⟨_, wt_s110, ⟨_, wt_m111.1, wt_tx h fun k1 h => ⟨_, wt_m111, wt_tx h fun k3 h => have h := wt_tw h; ⟨_, wt_s110, ⟨_, wt_s110, ⟨_, wt_m111.1, wt_tx h fun k4 h => ⟨_, wt_m111, wt_tx h fun k6 h => have h := wt_tw h; ⟨_, wt_s110, ⟨_, wt_s110, ⟨_, wt_m111.1, wt_tx h fun k7 h => ⟨_, wt_m111, wt_tx h fun k9 h => have h := wt_tw h; ⟨_, wt_s110, ⟨_, wt_s110, ⟨_, wt_m111.1, wt_tx h fun k10 h => ⟨_, wt_m111, wt_tx h fun k12 h => have h := wt_tw h; wt_tr (e := wt_uv) h⟩⟩⟩⟩⟩⟩⟩⟩⟩⟩⟩⟩⟩⟩⟩⟩
