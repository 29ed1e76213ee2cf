section
/-! ===== the class: what makes a step leaves the reach of task 0 in thought alone, but for roomFor (written by wip/p2/gen_fx.py) ===== -/
section
variable {s : wt_S} {x1 x2 : Int32}
theorem xcX10_isFunction {i1 : Int32} (h : FX 57 14 14 x1 x2 s)  : FZ 57 14 14 x1 x2 (gX10_isFunction s i1) := by
  unfold gX10_isFunction
  exact fz_if (fz_some h) (fz_if (fz_some h) (fz_some h))
theorem xcX6_part {i1 : Int32} {i2 : Int32} {i3 : Int32} (h : FX 57 14 14 x1 x2 s)  : FZ 57 14 14 x1 x2 (gX6_part 5 s i1 i2 i3) := by
  unfold gX6_part
  exact fz_if (fz_some h) (fz_if (fz_some h) (fz_if (fz_some h) (fz_ix (fun _ => fz_if (fz_if (fz_some h) (fz_if (fz_some h) (fz_ix (fun _ => fz_some h)))) (fz_some h)))))
theorem xcX6_deepOf {i1 : Int32} (h : FX 57 14 14 x1 x2 s)  : FZ 57 14 14 x1 x2 (gX6_deepOf 5 s i1) := by
  unfold gX6_deepOf
  exact fz_cl (xcX10_isFunction h) (fun _ _ h1 => fz_if (fz_some h1) (fz_ix (fun _ => fz_some h1)))
theorem xcJ9_max_7cf53 {i1 : Int32} {i2 : Int32} (h : FX 57 14 14 x1 x2 s)  : FZ 57 14 14 x1 x2 (gJ9_max_7cf53 s i1 i2) := by
  unfold gJ9_max_7cf53
  exact fz_if (fz_some h) (fz_some h)
theorem xcX6_sizeOf {i1 : Int32} (h : FX 57 14 14 x1 x2 s)  : FZ 57 14 14 x1 x2 (gX6_sizeOf 5 s i1) := by
  unfold gX6_sizeOf
  exact fz_if (fz_some h) (fz_if (fz_some h) (fz_ix (fun _ => fz_some h)))
theorem xcX6_frameWords {i1 : Int32} (h : FX 57 14 14 x1 x2 s)  : FZ 57 14 14 x1 x2 (gX6_frameWords 5 s i1) := by
  unfold gX6_frameWords
  exact fz_cl (xcX6_sizeOf h) (fun _ _ h1 => fz_some h1)
theorem xcX6_told {i1 : Int32} (h : FX 57 14 14 x1 x2 s)  : FZ 57 14 14 x1 x2 (gX6_told 5 s i1) := by
  unfold gX6_told
  exact fz_cl (xcX6_sizeOf h) (fun _ _ h1 => fz_if (fz_some h1) (fz_some h1))
theorem xcX6_isPointer {i1 : Int32} {i2 : Int32} (h : FX 57 14 14 x1 x2 s)  : FZ 57 14 14 x1 x2 (gX6_isPointer 5 s i1 i2) := by
  unfold gX6_isPointer
  exact fz_if (fz_some h) (fz_if (fz_some h) (fz_ix (fun _ => fz_if (fz_some h) (fz_some h))))
theorem xcX5_idAt {i1 : Int32} (h : FX 57 14 14 x1 x2 s)  : FZ 57 14 14 x1 x2 (gX5_idAt 40 s i1) := by
  unfold gX5_idAt
  exact fz_if (fz_some h) (fz_if (fz_some h) (fz_if (fz_some h) (fz_ix (fun _ => fz_some h))))
theorem xcX5_endOf {i1 : Int32} (h : FX 57 14 14 x1 x2 s)  : FZ 57 14 14 x1 x2 (gX5_endOf 40 s i1) := by
  unfold gX5_endOf
  exact fz_if (fz_some h) (fz_if (fz_some h) (fz_ix (fun _ => fz_ix (fun _ => fz_some h))))
theorem xcX5_gapFrom {i1 : Int32} (h : FX 57 14 14 x1 x2 s)  : FZ 57 14 14 x1 x2 (gX5_gapFrom 40 s i1) := by
  unfold gX5_gapFrom
  exact fz_cl (xcX5_idAt h) (fun _ _ h1 => fz_cl (xcX5_endOf h1) (fun _ _ h2 => fz_some h2))
theorem xcX5_placeOf {i1 : Int32} (h : FX 57 14 14 x1 x2 s)  : FZ 57 14 14 x1 x2 (gX5_placeOf 40 s i1) := by
  unfold gX5_placeOf
  exact fz_if (fz_some h) (fz_if (fz_some h) (fz_ix (fun _ => fz_some h)))
theorem xcX5_gapTo {i1 : Int32} (h : FX 57 14 14 x1 x2 s)  : FZ 57 14 14 x1 x2 (gX5_gapTo 40 s i1) := by
  unfold gX5_gapTo
  exact fz_if (fz_some h) (fz_cl (xcX5_idAt h) (fun _ _ h1 => fz_cl (xcX5_placeOf h1) (fun _ _ h2 => fz_some h2)))
theorem xcX5_insert {i1 : Int32} (h : FX 57 14 14 x1 x2 s)  : FZ 57 14 14 x1 x2 (gX5_insert 40 s i1) := by
  unfold gX5_insert
  exact fz_if (fz_some h) (fz_if (fz_some h) (fz_if (fz_ix (fun _ => fz_ac h (by decide) (fun _ h1 => fz_ix (fun _ => fz_wr h1 (Or.inl (by decide)) (fun _ h2 => fz_wr h2 (Or.inl (by decide)) (fun _ h3 => fz_some h3)))))) (fz_some h)))
theorem xcX5_take_3_n   : ∀ (n : Nat) {s : wt_S} {y0 : Int32} {y1 : Int32} {y2 : Int32} {y3 : Int32}, FX 57 14 14 x1 x2 s → FZ 57 14 14 x1 x2 (gX5_take_3 40 n s y0 y1 y2 y3) := by
  intro n
  induction n with
  | zero => exact fun _ => fz_none
  | succ n ih =>
    intro s y0 y1 y2 y3 h
    unfold gX5_take_3
    exact fz_if (fz_some h) (fz_cl (xcX5_gapFrom h) (fun _ _ h1 => fz_cl (xcX5_gapTo h1) (fun _ _ h2 => fz_if (ih h2) (fz_cl (xcX5_insert h2) (fun _ _ h3 => fz_if (fz_some h3) (fz_if (fz_some h3) (fz_ix (fun _ => fz_wr h3 (Or.inl (by decide)) (fun _ h4 => fz_ix (fun _ => fz_wr h4 (Or.inl (by decide)) (fun _ h5 => fz_ix (fun _ => fz_wr h5 (Or.inl (by decide)) (fun _ h6 => fz_ix (fun _ => fz_wr h6 (Or.inl (by decide)) (fun _ h7 => fz_ix (fun _ => fz_wr h7 (Or.inl (by decide)) (fun _ h8 => fz_wr h8 (Or.inl (by decide)) (fun _ h9 => fz_some h9))))))))))))))))))
theorem xcX5_take_3  {n : Nat} {s : wt_S} {y0 : Int32} {y1 : Int32} {y2 : Int32} {y3 : Int32} (h : FX 57 14 14 x1 x2 s)  : FZ 57 14 14 x1 x2 (gX5_take_3 40 n s y0 y1 y2 y3) := xcX5_take_3_n  n h
theorem xcX5_take {i1 : Int32} {i2 : Int32} {i3 : Int32} (h : FX 57 14 14 x1 x2 s)  : FZ 57 14 14 x1 x2 (gX5_take 40 s i1 i2 i3) := by
  unfold gX5_take
  exact xcX5_take_3 h
theorem xcX7_dropStack  (h : FX 57 14 14 x1 x2 s)  : FZ 57 14 14 x1 x2 (gX7_dropStack 57 s) := by
  unfold gX7_dropStack
  exact fz_wr h (Or.inr (by decide)) (fun _ h1 => fz_wr h1 (Or.inr (by decide)) (fun _ h2 => fz_wr h2 (Or.inr (by decide)) (fun _ h3 => fz_wr h3 (Or.inr (by decide)) (fun _ h4 => fz_wr h4 (Or.inr (by decide)) (fun _ h5 => fz_wr h5 (Or.inr (by decide)) (fun _ h6 => fz_wr h6 (Or.inr (by decide)) (fun _ h7 => fz_wr h7 (Or.inr (by decide)) (fun _ h8 => fz_wr h8 (Or.inr (by decide)) (fun _ h9 => fz_some h9)))))))))
theorem xcX3_word {i1 : Int32} (h : FX 57 14 14 x1 x2 s)  : FZ 57 14 14 x1 x2 (gX3_word 40 s i1) := by
  unfold gX3_word
  exact fz_if (fz_some h) (fz_if (fz_some h) (fz_ix (fun _ => fz_some h)))
theorem xcX9_lastCovered  (h : FX 57 14 14 x1 x2 s)  : FZ 57 14 14 x1 x2 (gX9_lastCovered 40 57 s) := by
  unfold gX9_lastCovered
  exact fz_if (fz_some h) (fz_cl (xcX3_word h) (fun _ _ h1 => fz_if (fz_some h1) (fz_some h1)))
theorem xcX9_add {i1 : Int32} {i2 : Int32} (h : FX 57 14 14 x1 x2 s)  : FZ 57 14 14 x1 x2 (gX9_add 40 57 s i1 i2) := by
  unfold gX9_add
  exact fz_if (fz_some h) (fz_if (fz_some h) (fz_ix (fun _ => fz_ix (fun _ => fz_wr h (Or.inl (by decide)) (fun _ h1 => fz_ix (fun _ => fz_ix (fun _ => fz_wr h1 (Or.inl (by decide)) (fun _ h2 => fz_some h2))))))))
theorem xcX9_covers {i1 : Int32} (h : FX 57 14 14 x1 x2 s)  : FZ 57 14 14 x1 x2 (gX9_covers 40 s i1) := by
  unfold gX9_covers
  exact fz_cl (xcX6_deepOf h) (fun _ _ h1 => fz_if (fz_some h1) (fz_if (fz_some h1) (fz_if (fz_some h1) (fz_some h1))))
theorem xcX9_needOf {i1 : Int32} (h : FX 57 14 14 x1 x2 s)  : FZ 57 14 14 x1 x2 (gX9_needOf 40 s i1) := by
  unfold gX9_needOf
  exact fz_cl (xcX9_covers h) (fun _ _ h1 => fz_if (fz_cl (xcX6_frameWords h1) (fun _ _ h2 => fz_some h2)) (fz_cl (xcX6_deepOf h1) (fun _ _ h2 => fz_some h2)))
theorem xcX5_wordsOf {i1 : Int32} (h : FX 57 14 14 x1 x2 s)  : FZ 57 14 14 x1 x2 (gX5_wordsOf 40 s i1) := by
  unfold gX5_wordsOf
  exact fz_if (fz_some h) (fz_if (fz_some h) (fz_ix (fun _ => fz_some h)))
theorem xcX5_usedOf {i1 : Int32} (h : FX 57 14 14 x1 x2 s)  : FZ 57 14 14 x1 x2 (gX5_usedOf 40 s i1) := by
  unfold gX5_usedOf
  exact fz_if (fz_some h) (fz_if (fz_some h) (fz_ix (fun _ => fz_some h)))
theorem xcX5_putOver {i1 : Int32} {i2 : Int32} (h : FX 57 14 14 x1 x2 s)  : FZ 57 14 14 x1 x2 (gX5_putOver 40 s i1 i2) := by
  unfold gX5_putOver
  exact fz_if (fz_some h) (fz_if (fz_some h) (fz_ix (fun _ => fz_wr h (Or.inl (by decide)) (fun _ h1 => fz_some h1))))
theorem xcX5_ownerOf {i1 : Int32} (h : FX 57 14 14 x1 x2 s)  : FZ 57 14 14 x1 x2 (gX5_ownerOf 40 s i1) := by
  unfold gX5_ownerOf
  exact fz_if (fz_some h) (fz_if (fz_some h) (fz_ix (fun _ => fz_some h)))
theorem xcX1_write {i1 : Int32} {i2 : Int32} {i3 : Int32} {i4 : Int32} (h : FX 57 14 14 x1 x2 s)  : FZ 57 14 14 x1 x2 (gX1_write 40 s i1 i2 i3 i4) := by
  unfold gX1_write
  exact fz_if (fz_some h) (fz_if (fz_some h) (fz_ix (fun _ => fz_wr h (Or.inl (by decide)) (fun _ h1 => fz_ix (fun _ => fz_wr h1 (Or.inl (by decide)) (fun _ h2 => fz_ix (fun _ => fz_wr h2 (Or.inl (by decide)) (fun _ h3 => fz_ix (fun _ => fz_wr h3 (Or.inl (by decide)) (fun _ h4 => fz_wr h4 (Or.inl (by decide)) (fun _ h5 => fz_some h5)))))))))))
theorem xcX9_writeLog {i1 : Int32} {i2 : Int32} (h : FX 57 14 14 x1 x2 s)  : FZ 57 14 14 x1 x2 (gX9_writeLog 40 s i1 i2) := by
  unfold gX9_writeLog
  exact fz_cl (xcX5_ownerOf h) (fun _ _ h1 => fz_cl (xcX5_placeOf h1) (fun _ _ h2 => fz_cl (xcX5_wordsOf h2) (fun _ _ h3 => fz_cl (xcX1_write h3) (fun _ _ h4 => fz_some h4))))
theorem xcX5_rankOf_80 {K12 : wt_S → Int32 → Int32 → Int32 → Int32 → Option (Int32 × wt_S)} {l1 : Int32} {l2 : Int32} {l4 : Int32} {l5 : Int32} (h : FX 57 14 14 x1 x2 s) (hK12 : ∀ s1 a0 a1 a2 a3, FX 57 14 14 x1 x2 s1 → FZ 57 14 14 x1 x2 (K12 s1 a0 a1 a2 a3)) : FZ 57 14 14 x1 x2 (gX5_rankOf_80 40 K12 s l1 l2 l4 l5) := by
  unfold gX5_rankOf_80
  exact hK12 _ _ _ _ _ h
theorem xcX5_rankOf_12_n   : ∀ (n : Nat) {s : wt_S} {y0 : Int32} {y1 : Int32} {y2 : Int32} {y3 : Int32}, FX 57 14 14 x1 x2 s → FZ 57 14 14 x1 x2 (gX5_rankOf_12 40 n s y0 y1 y2 y3) := by
  intro n
  induction n with
  | zero => exact fun _ => fz_none
  | succ n ih =>
    intro s y0 y1 y2 y3 h
    unfold gX5_rankOf_12
    exact fz_if (fz_some h) (fz_if (fz_some h) (fz_if (fz_some h) (fz_ix (fun _ => fz_if (xcX5_rankOf_80 h (fun _ _ _ _ _ h9 => ih h9)) (fz_if (xcX5_rankOf_80 h (fun _ _ _ _ _ h9 => ih h9)) (fz_ix (fun _ => fz_if (xcX5_rankOf_80 h (fun _ _ _ _ _ h9 => ih h9)) (ih h))))))))
theorem xcX5_rankOf_12  {n : Nat} {s : wt_S} {y0 : Int32} {y1 : Int32} {y2 : Int32} {y3 : Int32} (h : FX 57 14 14 x1 x2 s)  : FZ 57 14 14 x1 x2 (gX5_rankOf_12 40 n s y0 y1 y2 y3) := xcX5_rankOf_12_n  n h
theorem xcX5_rankOf {i1 : Int32} (h : FX 57 14 14 x1 x2 s)  : FZ 57 14 14 x1 x2 (gX5_rankOf 40 s i1) := by
  unfold gX5_rankOf
  exact xcX5_rankOf_12 h
theorem xcX5_giveBack {i1 : Int32} (h : FX 57 14 14 x1 x2 s)  : FZ 57 14 14 x1 x2 (gX5_giveBack 40 s i1) := by
  unfold gX5_giveBack
  exact fz_cl (xcX5_placeOf h) (fun _ _ h1 => fz_cl (xcX5_rankOf h1) (fun _ _ h2 => fz_if (fz_some h2) (fz_if (fz_some h2) (fz_if (fz_some h2) (fz_cl (xcX5_idAt h2) (fun _ _ h3 => fz_if (fz_wr h3 (Or.inl (by decide)) (fun _ h4 => fz_ac h4 (by decide) (fun _ h5 => fz_ix (fun _ => fz_wr h5 (Or.inl (by decide)) (fun _ h6 => fz_cl (xcX5_wordsOf h6) (fun _ _ h7 => fz_wr h7 (Or.inl (by decide)) (fun _ h8 => fz_some h8))))))) (fz_some h3)))))))
theorem xcX4_dropSpare  (h : FX 57 14 14 x1 x2 s)  : FZ 57 14 14 x1 x2 (gX4_dropSpare 40 57 s) := by
  unfold gX4_dropSpare
  exact fz_if (fz_wr h (Or.inr (by decide)) (fun _ h1 => fz_cl (xcX9_writeLog h1) (fun _ _ h2 => fz_cl (xcX5_giveBack h2) (fun _ _ h3 => fz_some h3)))) (fz_some h)
theorem xcX4_linkPiece_66 {l2 : Int32} (h : FX 57 14 14 x1 x2 s)  : FZ 57 14 14 x1 x2 (gX4_linkPiece_66 40 57 s l2) := by
  unfold gX4_linkPiece_66
  exact fz_cl (xcX4_dropSpare h) (fun _ _ h1 => fz_cl (xcJ9_max_7cf53 h1) (fun _ _ h2 => fz_cl (xcX5_take h2) (fun _ _ h3 => fz_if (fz_wr h3 (Or.inr (by decide)) (fun _ h4 => fz_cl (xcX9_add h4) (fun _ _ h5 => fz_cl (xcX9_writeLog h5) (fun _ _ h6 => fz_some h6)))) (fz_some h3))))
theorem xcX4_linkPiece {i1 : Int32} (h : FX 57 14 14 x1 x2 s)  : FZ 57 14 14 x1 x2 (gX4_linkPiece 40 57 s i1) := by
  unfold gX4_linkPiece
  exact fz_if (xcX4_linkPiece_66 h) (fz_cl (xcX5_wordsOf h) (fun _ _ h1 => fz_if (xcX4_linkPiece_66 h1) (fz_wr h1 (Or.inr (by decide)) (fun _ h2 => fz_cl (xcX5_putOver h2) (fun _ _ h3 => fz_wr h3 (Or.inr (by decide)) (fun _ h4 => fz_cl (xcX9_add h4) (fun _ _ h5 => fz_cl (xcX9_writeLog h5) (fun _ _ h6 => fz_some h6))))))))
theorem xcX4_doubled_4_n   : ∀ (n : Nat) {s : wt_S} {y0 : Int32} {y1 : Int32} {y2 : Int32}, FX 57 14 14 x1 x2 s → FZ 57 14 14 x1 x2 (gX4_doubled_4  n s y0 y1 y2) := by
  intro n
  induction n with
  | zero => exact fun _ => fz_none
  | succ n ih =>
    intro s y0 y1 y2 h
    unfold gX4_doubled_4
    exact fz_if (fz_some h) (fz_if (fz_some h) (ih h))
theorem xcX4_doubled_4  {n : Nat} {s : wt_S} {y0 : Int32} {y1 : Int32} {y2 : Int32} (h : FX 57 14 14 x1 x2 s)  : FZ 57 14 14 x1 x2 (gX4_doubled_4  n s y0 y1 y2) := xcX4_doubled_4_n  n h
theorem xcX4_doubled {i1 : Int32} {i2 : Int32} (h : FX 57 14 14 x1 x2 s)  : FZ 57 14 14 x1 x2 (gX4_doubled s i1 i2) := by
  unfold gX4_doubled
  exact xcX4_doubled_4 h
theorem xcX5_aimAt {i1 : Int32} {i2 : Int32} (h : FX 57 14 14 x1 x2 s)  : FZ 57 14 14 x1 x2 (gX5_aimAt 40 s i1 i2) := by
  unfold gX5_aimAt
  exact fz_if (fz_some h) (fz_if (fz_some h) (fz_ix (fun _ => fz_ix (fun _ => fz_wr h (Or.inl (by decide)) (fun _ h1 => fz_some h1)))))
theorem xcX8_toLast  (h : FX 57 14 14 x1 x2 s)  : FZ 57 14 14 x1 x2 (gX8_toLast 40 57 s) := by
  unfold gX8_toLast
  exact fz_wr h (Or.inl (by decide)) (fun _ h1 => fz_wr h1 (Or.inl (by decide)) (fun _ h2 => fz_wr h2 (Or.inl (by decide)) (fun _ h3 => fz_some h3)))
theorem xcX8_toCaller  (h : FX 57 14 14 x1 x2 s)  : FZ 57 14 14 x1 x2 (gX8_toCaller 40 s) := by
  unfold gX8_toCaller
  exact fz_cl (xcX3_word h) (fun _ _ h1 => fz_cl (xcX3_word h1) (fun _ _ h2 => fz_wr h2 (Or.inl (by decide)) (fun _ h3 => fz_wr h3 (Or.inl (by decide)) (fun _ h4 => fz_wr h4 (Or.inl (by decide)) (fun _ h5 => fz_some h5)))))
theorem xcX5_shiftOf {i1 : Int32} (h : FX 57 14 14 x1 x2 s)  : FZ 57 14 14 x1 x2 (gX5_shiftOf 40 s i1) := by
  unfold gX5_shiftOf
  exact fz_if (fz_some h) (fz_if (fz_some h) (fz_ix (fun _ => fz_some h)))
theorem xcX5_turned {i1 : Int32} (h : FX 57 14 14 x1 x2 s)  : FZ 57 14 14 x1 x2 (gX5_turned 40 s i1) := by
  unfold gX5_turned
  exact fz_if (fz_cl (xcX5_rankOf h) (fun _ _ h1 => fz_cl (xcX5_idAt h1) (fun _ _ h2 => fz_cl (xcX5_shiftOf h2) (fun _ _ h3 => fz_some h3)))) (fz_some h)
theorem xcX3_put {i1 : Int32} {i2 : Int32} (h : FX 57 14 14 x1 x2 s)  : FZ 57 14 14 x1 x2 (gX3_put 40 s i1 i2) := by
  unfold gX3_put
  exact fz_if (fz_some h) (fz_if (fz_some h) (fz_ix (fun _ => fz_wr h (Or.inl (by decide)) (fun _ h1 => fz_some h1))))
theorem xcX4_turnPlaces_84_n {K27 : wt_S → Int32 → Option (Unit × wt_S)} (hK27 : ∀ s1 a0, FX 57 14 14 x1 x2 s1 → FZ 57 14 14 x1 x2 (K27 s1 a0)) : ∀ (n : Nat) {s : wt_S} {y0 : Int32} {y1 : Int32} {y2 : Int32} {y3 : Int32} {y4 : Int32}, FX 57 14 14 x1 x2 s → FZ 57 14 14 x1 x2 (gX4_turnPlaces_84 40 57 K27 n s y0 y1 y2 y3 y4) := by
  intro n
  induction n with
  | zero => exact fun _ => fz_none
  | succ n ih =>
    intro s y0 y1 y2 y3 y4 h
    unfold gX4_turnPlaces_84
    exact fz_if (hK27 _ _ h) (fz_cl (xcX6_isPointer h) (fun _ _ h1 => fz_if (ih h1) (fz_cl (xcX3_word h1) (fun _ _ h2 => fz_cl (xcX5_turned h2) (fun _ _ h3 => fz_cl (xcX3_put h3) (fun _ _ h4 => ih h4))))))
theorem xcX4_turnPlaces_84 {K27 : wt_S → Int32 → Option (Unit × wt_S)} {n : Nat} {s : wt_S} {y0 : Int32} {y1 : Int32} {y2 : Int32} {y3 : Int32} {y4 : Int32} (h : FX 57 14 14 x1 x2 s) (hK27 : ∀ s1 a0, FX 57 14 14 x1 x2 s1 → FZ 57 14 14 x1 x2 (K27 s1 a0)) : FZ 57 14 14 x1 x2 (gX4_turnPlaces_84 40 57 K27 n s y0 y1 y2 y3 y4) := xcX4_turnPlaces_84_n hK27 n h
theorem xcX4_turnPlaces_27_n   : ∀ (n : Nat) {s : wt_S} {y0 : Int32}, FX 57 14 14 x1 x2 s → FZ 57 14 14 x1 x2 (gX4_turnPlaces_27 40 57 n s y0) := by
  intro n
  induction n with
  | zero => exact fun _ => fz_none
  | succ n ih =>
    intro s y0 h
    unfold gX4_turnPlaces_27
    exact fz_if (fz_cl (xcX5_turned h) (fun _ _ h1 => fz_wr h1 (Or.inr (by decide)) (fun _ h2 => fz_some h2))) (fz_cl (xcX8_toCaller h) (fun _ _ h1 => fz_cl (xcX6_sizeOf h1) (fun _ _ h2 => fz_cl (xcX3_word h2) (fun _ _ h3 => fz_cl (xcX5_turned h3) (fun _ _ h4 => fz_cl (xcX3_put h4) (fun _ _ h5 => xcX4_turnPlaces_84 h5 (fun _ _ h9 => ih h9)))))))
theorem xcX4_turnPlaces_27  {n : Nat} {s : wt_S} {y0 : Int32} (h : FX 57 14 14 x1 x2 s)  : FZ 57 14 14 x1 x2 (gX4_turnPlaces_27 40 57 n s y0) := xcX4_turnPlaces_27_n  n h
theorem xcX4_turnPlaces  (h : FX 57 14 14 x1 x2 s)  : FZ 57 14 14 x1 x2 (gX4_turnPlaces 40 57 s) := by
  unfold gX4_turnPlaces
  exact fz_cl (xcX8_toLast h) (fun _ _ h1 => xcX4_turnPlaces_27 h1)
theorem xcX3_bring {i1 : Int32} {i2 : Int32} {i3 : Int32} (h : FX 57 14 14 x1 x2 s)  : FZ 57 14 14 x1 x2 (gX3_bring 40 s i1 i2 i3) := by
  unfold gX3_bring
  exact fz_if (fz_some h) (fz_if (fz_some h) (fz_if (fz_some h) (fz_if (fz_some h) (fz_if (fz_some h) (fz_ac h (by decide) (fun _ h1 => fz_some h1))))))
theorem xcX4_bringOver {i1 : Int32} (h : FX 57 14 14 x1 x2 s)  : FZ 57 14 14 x1 x2 (gX4_bringOver 40 s i1) := by
  unfold gX4_bringOver
  exact fz_cl (xcX5_placeOf h) (fun _ _ h1 => fz_cl (xcX5_shiftOf h1) (fun _ _ h2 => fz_cl (xcX5_usedOf h2) (fun _ _ h3 => fz_cl (xcX3_bring h3) (fun _ _ h4 => fz_some h4))))
theorem xcX5_use {i1 : Int32} {i2 : Int32} (h : FX 57 14 14 x1 x2 s)  : FZ 57 14 14 x1 x2 (gX5_use 40 s i1 i2) := by
  unfold gX5_use
  exact fz_if (fz_some h) (fz_if (fz_some h) (fz_ix (fun _ => fz_ix (fun _ => fz_wr h (Or.inl (by decide)) (fun _ h1 => fz_some h1)))))
theorem xcX4_moveInto_114 {l3 : Int32} {l5 : Int32} {z2 : Int32} (h : FX 57 14 14 x1 x2 s)  : FZ 57 14 14 x1 x2 (gX4_moveInto_114 40 57 s l3 l5 z2) := by
  unfold gX4_moveInto_114
  exact fz_cl (xcX9_add h) (fun _ _ h1 => fz_cl (xcX9_writeLog h1) (fun _ _ h2 => fz_some h2))
theorem xcX4_moveInto {i1 : Int32} {i2 : Int32} (h : FX 57 14 14 x1 x2 s)  : FZ 57 14 14 x1 x2 (gX4_moveInto 40 57 s i1 i2) := by
  unfold gX4_moveInto
  exact fz_cl (xcX5_take h) (fun _ _ h1 => fz_if (fz_cl (xcX5_placeOf h1) (fun _ _ h2 => fz_cl (xcX5_aimAt h2) (fun _ _ h3 => fz_cl (xcX4_turnPlaces h3) (fun _ _ h4 => fz_cl (xcX4_bringOver h4) (fun _ _ h5 => fz_cl (xcX5_use h5) (fun _ _ h6 => fz_cl (xcX5_giveBack h6) (fun _ _ h7 => fz_wr h7 (Or.inr (by decide)) (fun _ h8 => fz_cl (xcX9_add h8) (fun _ _ h9 => fz_if (xcX4_moveInto_114 h9) (xcX4_moveInto_114 h9)))))))))) (fz_some h1))
theorem xcX5_belowOf {i1 : Int32} (h : FX 57 14 14 x1 x2 s)  : FZ 57 14 14 x1 x2 (gX5_belowOf 40 s i1) := by
  unfold gX5_belowOf
  exact fz_if (fz_some h) (fz_if (fz_some h) (fz_ix (fun _ => fz_some h)))
theorem xcX9_releasePieces_42  (h : FX 57 14 14 x1 x2 s)  : FZ 57 14 14 x1 x2 (gX9_releasePieces_42 40 57 s) := by
  unfold gX9_releasePieces_42
  exact fz_cl (xcX5_giveBack h) (fun _ _ h1 => fz_wr h1 (Or.inr (by decide)) (fun _ h2 => fz_some h2))
theorem xcX9_releasePieces_7_n   : ∀ (n : Nat) {s : wt_S} {y0 : Int32} {y1 : Int32}, FX 57 14 14 x1 x2 s → FZ 57 14 14 x1 x2 (gX9_releasePieces_7 40 57 n s y0 y1) := by
  intro n
  induction n with
  | zero => exact fun _ => fz_none
  | succ n ih =>
    intro s y0 y1 h
    unfold gX9_releasePieces_7
    exact fz_if (xcX9_releasePieces_42 h) (fz_if (xcX9_releasePieces_42 h) (fz_cl (xcX5_giveBack h) (fun _ _ h1 => fz_cl (xcX5_belowOf h1) (fun _ _ h2 => ih h2))))
theorem xcX9_releasePieces_7  {n : Nat} {s : wt_S} {y0 : Int32} {y1 : Int32} (h : FX 57 14 14 x1 x2 s)  : FZ 57 14 14 x1 x2 (gX9_releasePieces_7 40 57 n s y0 y1) := xcX9_releasePieces_7_n  n h
theorem xcX9_releasePieces  (h : FX 57 14 14 x1 x2 s)  : FZ 57 14 14 x1 x2 (gX9_releasePieces 40 57 s) := by
  unfold gX9_releasePieces
  exact xcX9_releasePieces_7 h
theorem xcX2_end_55 {z1 : Int32} (h : FX 57 14 14 x1 x2 s)  : FZ 57 14 14 x1 x2 (gX2_end_55 40 57 s z1) := by
  unfold gX2_end_55
  exact fz_cl (xcX1_write h) (fun _ _ h1 => fz_some h1)
theorem xcX2_end_32 {l2 : Int32} {z2 : Int32} (h : FX 57 14 14 x1 x2 s)  : FZ 57 14 14 x1 x2 (gX2_end_32 40 57 s l2 z2) := by
  unfold gX2_end_32
  exact fz_cl (xcX9_add h) (fun _ _ h1 => fz_if (xcX2_end_55 h1) (xcX2_end_55 h1))
theorem xcX2_end {i1 : Int32} (h : FX 57 14 14 x1 x2 s)  : FZ 57 14 14 x1 x2 (gX2_end 40 57 s i1) := by
  unfold gX2_end
  exact fz_cl (xcX9_releasePieces h) (fun _ _ h1 => fz_cl (xcX7_dropStack h1) (fun _ _ h2 => fz_wr h2 (Or.inr (by decide)) (fun _ h3 => fz_if (xcX2_end_32 h3) (xcX2_end_32 h3))))
theorem xcX2_roomFor_150 {l2 : Int32} (h : FX 57 14 14 x1 x2 s)  : FZ 57 14 14 x1 x2 (gX2_roomFor_150 40 57 s l2) := by
  unfold gX2_roomFor_150
  exact fz_cl (xcX9_covers h) (fun _ _ h1 => fz_if (fz_some h1) (fz_some h1))
theorem xcX2_roomFor_135 {l2 : Int32} {z0 : Int32} (h : FX 57 14 14 x1 x2 s)  : FZ 57 14 14 x1 x2 (gX2_roomFor_135 40 57 s l2 z0) := by
  unfold gX2_roomFor_135
  exact fz_if (xcX2_roomFor_150 h) (fz_cl (xcX2_end h) (fun _ _ h1 => fz_some h1))
theorem xcX5_topOf {i1 : Int32} (h : FX 57 14 14 x1 x2 s)  : FZ 57 14 14 x1 x2 (gX5_topOf 40 s i1) := by
  unfold gX5_topOf
  exact fz_if (fz_some h) (fz_if (fz_some h) (fz_ix (fun _ => fz_ix (fun _ => fz_some h))))
theorem xcX2_pushFrame_87 {K51 : wt_S → Int32 → Int32 → Int32 → Int32 → Option (Unit × wt_S)} {l2 : Int32} {l4 : Int32} {l5 : Int32} {l6 : Int32} {z1 : Int32} {z2 : Int32} (h : FX 57 14 14 x1 x2 s) (hK51 : ∀ s1 a0 a1 a2 a3, FX 57 14 14 x1 x2 s1 → FZ 57 14 14 x1 x2 (K51 s1 a0 a1 a2 a3)) : FZ 57 14 14 x1 x2 (gX2_pushFrame_87 40 57 K51 s l2 l4 l5 l6 z1 z2) := by
  unfold gX2_pushFrame_87
  exact fz_cl (xcX3_put h) (fun _ _ h1 => hK51 _ _ _ _ _ h1)
theorem xcX2_pushFrame_51_n   : ∀ (n : Nat) {s : wt_S} {y0 : Int32} {y1 : Int32} {y2 : Int32} {y3 : Int32}, FX 57 14 14 x1 x2 s → FZ 57 14 14 x1 x2 (gX2_pushFrame_51 40 57 n s y0 y1 y2 y3) := by
  intro n
  induction n with
  | zero => exact fun _ => fz_none
  | succ n ih =>
    intro s y0 y1 y2 y3 h
    unfold gX2_pushFrame_51
    exact fz_if (fz_cl (xcX5_use h) (fun _ _ h1 => fz_wr h1 (Or.inr (by decide)) (fun _ h2 => fz_cl (xcJ9_max_7cf53 h2) (fun _ _ h3 => fz_wr h3 (Or.inr (by decide)) (fun _ h4 => fz_wr h4 (Or.inr (by decide)) (fun _ h5 => fz_wr h5 (Or.inr (by decide)) (fun _ h6 => fz_wr h6 (Or.inr (by decide)) (fun _ h7 => fz_wr h7 (Or.inr (by decide)) (fun _ h8 => fz_some h8))))))))) (fz_cl (xcX6_isPointer h) (fun _ _ h1 => fz_if (xcX2_pushFrame_87 h1 (fun _ _ _ _ _ h9 => ih h9)) (xcX2_pushFrame_87 h1 (fun _ _ _ _ _ h9 => ih h9))))
theorem xcX2_pushFrame_51  {n : Nat} {s : wt_S} {y0 : Int32} {y1 : Int32} {y2 : Int32} {y3 : Int32} (h : FX 57 14 14 x1 x2 s)  : FZ 57 14 14 x1 x2 (gX2_pushFrame_51 40 57 n s y0 y1 y2 y3) := xcX2_pushFrame_51_n  n h
theorem xcX2_pushFrame {i1 : Int32} {i2 : Int32} (h : FX 57 14 14 x1 x2 s)  : FZ 57 14 14 x1 x2 (gX2_pushFrame 40 57 s i1 i2) := by
  unfold gX2_pushFrame
  exact fz_cl (xcX5_topOf h) (fun _ _ h1 => fz_cl (xcX3_put h1) (fun _ _ h2 => fz_cl (xcX3_put h2) (fun _ _ h3 => fz_cl (xcX6_sizeOf h3) (fun _ _ h4 => xcX2_pushFrame_51 h4))))
theorem xcX4_leavePiece  (h : FX 57 14 14 x1 x2 s)  : FZ 57 14 14 x1 x2 (gX4_leavePiece 40 57 s) := by
  unfold gX4_leavePiece
  exact fz_cl (xcX5_belowOf h) (fun _ _ h1 => fz_wr h1 (Or.inr (by decide)) (fun _ h2 => fz_if (fz_cl (xcX9_writeLog h2) (fun _ _ h3 => fz_cl (xcX5_giveBack h3) (fun _ _ h4 => fz_some h4))) (fz_cl (xcX4_dropSpare h2) (fun _ _ h3 => fz_wr h3 (Or.inr (by decide)) (fun _ h4 => fz_cl (xcX9_writeLog h4) (fun _ _ h5 => fz_some h5))))))
theorem xcX2_endForeign_22  (h : FX 57 14 14 x1 x2 s)  : FZ 57 14 14 x1 x2 (gX2_endForeign_22 40 57 s) := by
  unfold gX2_endForeign_22
  exact fz_cl (xcX9_add h) (fun _ _ h1 => fz_some h1)
theorem xcX2_endForeign {i1 : Int32} (h : FX 57 14 14 x1 x2 s)  : FZ 57 14 14 x1 x2 (gX2_endForeign 40 57 s i1) := by
  unfold gX2_endForeign
  exact fz_wr h (Or.inr (by decide)) (fun _ h1 => fz_if (xcX2_endForeign_22 h1) (fz_wr h1 (Or.inr (by decide)) (fun _ h2 => xcX2_endForeign_22 h2)))
theorem xcX2_leaveFrame_112 {l2 : Int32} {l3 : Int32} {l4 : Int32} (h : FX 57 14 14 x1 x2 s)  : FZ 57 14 14 x1 x2 (gX2_leaveFrame_112 40 57 s l2 l3 l4) := by
  unfold gX2_leaveFrame_112
  exact fz_if (fz_wr h (Or.inr (by decide)) (fun _ h1 => fz_wr h1 (Or.inr (by decide)) (fun _ h2 => fz_wr h2 (Or.inr (by decide)) (fun _ h3 => fz_cl (xcX6_part h3) (fun _ _ h4 => fz_cl (xcX3_put h4) (fun _ _ h5 => fz_if (fz_some h5) (fz_cl (xcX6_part h5) (fun _ _ h6 => fz_cl (xcX2_endForeign h6) (fun _ _ h7 => fz_some h7))))))))) (fz_wr h (Or.inr (by decide)) (fun _ h1 => fz_cl (xcX2_end h1) (fun _ _ h2 => fz_some h2)))
theorem xcX2_leaveFrame {i1 : Int32} (h : FX 57 14 14 x1 x2 s)  : FZ 57 14 14 x1 x2 (gX2_leaveFrame 40 57 s i1) := by
  unfold gX2_leaveFrame
  exact fz_cl (xcX3_word h) (fun _ _ h1 => fz_cl (xcX3_word h1) (fun _ _ h2 => fz_cl (xcX6_frameWords h2) (fun _ _ h3 => fz_cl (xcX5_use h3) (fun _ _ h4 => fz_wr h4 (Or.inr (by decide)) (fun _ h5 => fz_wr h5 (Or.inr (by decide)) (fun _ h6 => fz_cl (xcX5_usedOf h6) (fun _ _ h7 => fz_if (xcX2_leaveFrame_112 h7) (fz_cl (xcX5_belowOf h7) (fun _ _ h8 => fz_if (xcX2_leaveFrame_112 h8) (fz_cl (xcX4_leavePiece h8) (fun _ _ h9 => xcX2_leaveFrame_112 h9)))))))))))
theorem xcX2_callFunction {i1 : Int32} (h : FX 57 14 14 x1 x2 s)  : FZ 57 14 14 x1 x2 (gX2_callFunction 40 57 s i1) := by
  unfold gX2_callFunction
  exact fz_cl (xcX6_part h) (fun _ _ h1 => fz_cl (xcX6_told h1) (fun _ _ h2 => fz_if (fz_cl (xcX6_part h2) (fun _ _ h3 => fz_cl (xcX3_put h3) (fun _ _ h4 => fz_some h4))) (fz_some h2)))
theorem xcX9_freeSide_57 {K26 : wt_S → Int32 → Int32 → Int32 → Int32 → Option (Int32 × wt_S)} {l1 : Int32} {l4 : Int32} {l5 : Int32} {z0 : Int32} (h : FX 57 14 14 x1 x2 s) (hK26 : ∀ s1 a0 a1 a2 a3, FX 57 14 14 x1 x2 s1 → FZ 57 14 14 x1 x2 (K26 s1 a0 a1 a2 a3)) : FZ 57 14 14 x1 x2 (gX9_freeSide_57 40 K26 s l1 l4 l5 z0) := by
  unfold gX9_freeSide_57
  exact hK26 _ _ _ _ _ h
theorem xcX9_freeSide_56 {K26 : wt_S → Int32 → Int32 → Int32 → Int32 → Option (Int32 × wt_S)} {l1 : Int32} {l4 : Int32} {l5 : Int32} (h : FX 57 14 14 x1 x2 s) (hK26 : ∀ s1 a0 a1 a2 a3, FX 57 14 14 x1 x2 s1 → FZ 57 14 14 x1 x2 (K26 s1 a0 a1 a2 a3)) : FZ 57 14 14 x1 x2 (gX9_freeSide_56 40 K26 s l1 l4 l5) := by
  unfold gX9_freeSide_56
  exact xcX9_freeSide_57 h hK26
theorem xcX9_freeSide_26_n {K2 : wt_S → Int32 → Option (Int32 × wt_S)} (hK2 : ∀ s1 a0, FX 57 14 14 x1 x2 s1 → FZ 57 14 14 x1 x2 (K2 s1 a0)) : ∀ (n : Nat) {s : wt_S} {y0 : Int32} {y1 : Int32} {y2 : Int32} {y3 : Int32}, FX 57 14 14 x1 x2 s → FZ 57 14 14 x1 x2 (gX9_freeSide_26 40 K2 n s y0 y1 y2 y3) := by
  intro n
  induction n with
  | zero => exact fun _ => fz_none
  | succ n ih =>
    intro s y0 y1 y2 y3 h
    unfold gX9_freeSide_26
    exact fz_if (fz_if (hK2 _ _ h) (fz_some h)) (fz_ix (fun _ => fz_if (xcX9_freeSide_56 h (fun _ _ _ _ _ h9 => ih h9)) (fz_if (xcX9_freeSide_56 h (fun _ _ _ _ _ h9 => ih h9)) (xcX9_freeSide_57 h (fun _ _ _ _ _ h9 => ih h9)))))
theorem xcX9_freeSide_26 {K2 : wt_S → Int32 → Option (Int32 × wt_S)} {n : Nat} {s : wt_S} {y0 : Int32} {y1 : Int32} {y2 : Int32} {y3 : Int32} (h : FX 57 14 14 x1 x2 s) (hK2 : ∀ s1 a0, FX 57 14 14 x1 x2 s1 → FZ 57 14 14 x1 x2 (K2 s1 a0)) : FZ 57 14 14 x1 x2 (gX9_freeSide_26 40 K2 n s y0 y1 y2 y3) := xcX9_freeSide_26_n hK2 n h
theorem xcX9_freeSide_2_n   : ∀ (n : Nat) {s : wt_S} {y0 : Int32}, FX 57 14 14 x1 x2 s → FZ 57 14 14 x1 x2 (gX9_freeSide_2 40 n s y0) := by
  intro n
  induction n with
  | zero => exact fun _ => fz_none
  | succ n ih =>
    intro s y0 h
    unfold gX9_freeSide_2
    exact fz_if (fz_some h) (xcX9_freeSide_26 h (fun _ _ h9 => ih h9))
theorem xcX9_freeSide_2  {n : Nat} {s : wt_S} {y0 : Int32} (h : FX 57 14 14 x1 x2 s)  : FZ 57 14 14 x1 x2 (gX9_freeSide_2 40 n s y0) := xcX9_freeSide_2_n  n h
theorem xcX9_freeSide  (h : FX 57 14 14 x1 x2 s)  : FZ 57 14 14 x1 x2 (gX9_freeSide 40 s) := by
  unfold gX9_freeSide
  exact xcX9_freeSide_2 h
theorem xcX2_callForeign_19 {l2 : Int32} (h : FX 57 14 14 x1 x2 s)  : FZ 57 14 14 x1 x2 (gX2_callForeign_19 40 57 s l2) := by
  unfold gX2_callForeign_19
  exact fz_if (fz_wr h (Or.inr (by decide)) (fun _ h1 => fz_cl (xcX6_part h1) (fun _ _ h2 => fz_if (fz_wr h2 (Or.inr (by decide)) (fun _ h3 => fz_cl (xcX6_part h3) (fun _ _ h4 => fz_cl (xcX6_told h4) (fun _ _ h5 => fz_if (fz_cl (xcX6_part h5) (fun _ _ h6 => fz_cl (xcX3_word h6) (fun _ _ h7 => fz_cl (xcX3_put h7) (fun _ _ h8 => fz_cl (xcX2_endForeign h8) (fun _ _ h9 => fz_some h9))))) (fz_some h5))))) (fz_cl (xcX2_end h2) (fun _ _ h3 => fz_some h3))))) (fz_wr h (Or.inr (by decide)) (fun _ h1 => fz_wr h1 (Or.inr (by decide)) (fun _ h2 => fz_some h2)))
theorem xcX2_callForeign {i1 : Int32} (h : FX 57 14 14 x1 x2 s)  : FZ 57 14 14 x1 x2 (gX2_callForeign 40 57 s i1) := by
  unfold gX2_callForeign
  exact fz_if (xcX2_callForeign_19 h) (fz_cl (xcX9_freeSide h) (fun _ _ h1 => fz_wr h1 (Or.inr (by decide)) (fun _ h2 => xcX2_callForeign_19 h2)))
theorem xcX4_keptWords_28 {z0 : Int32} {z1 : Int32} (h : FX 57 14 14 x1 x2 s)  : FZ 57 14 14 x1 x2 (gX4_keptWords_28 40 57 s z0 z1) := by
  unfold gX4_keptWords_28
  exact fz_some h
theorem xcX4_keptWords  (h : FX 57 14 14 x1 x2 s)  : FZ 57 14 14 x1 x2 (gX4_keptWords 40 57 s) := by
  unfold gX4_keptWords
  exact fz_cl (xcX9_lastCovered h) (fun _ _ h1 => fz_if (xcX4_keptWords_28 h1) (xcX4_keptWords_28 h1))
theorem xcX4_makeSmaller  (h : FX 57 14 14 x1 x2 s)  : FZ 57 14 14 x1 x2 (gX4_makeSmaller 40 57 s) := by
  unfold gX4_makeSmaller
  exact fz_if (fz_cl (xcX5_wordsOf h) (fun _ _ h1 => fz_cl (xcX4_keptWords h1) (fun _ _ h2 => fz_if (fz_some h2) (fz_if (fz_cl (xcX4_moveInto h2) (fun _ _ h3 => fz_rz (fz_some h3))) (fz_some h2))))) (fz_cl (xcX4_dropSpare h) (fun _ _ h1 => fz_rz (fz_some h1)))
theorem xcX2_reckon_198 {z1 : Int32} {z2 : Int32} (h : FX 57 14 14 x1 x2 s)  : FZ 57 14 14 x1 x2 (gX2_reckon_198 40 57 s z1 z2) := by
  unfold gX2_reckon_198
  exact fz_cl (xcX3_put h) (fun _ _ h1 => fz_some h1)
theorem xcX2_reckon_266 {z1 : Int32} {z2 : Int32} (h : FX 57 14 14 x1 x2 s)  : FZ 57 14 14 x1 x2 (gX2_reckon_266 40 57 s z1 z2) := by
  unfold gX2_reckon_266
  exact fz_cl (xcX3_put h) (fun _ _ h1 => fz_some h1)
theorem xcX2_reckon {i1 : Int32} {i2 : Int32} (h : FX 57 14 14 x1 x2 s)  : FZ 57 14 14 x1 x2 (gX2_reckon 40 57 s i1 i2) := by
  unfold gX2_reckon
  exact fz_cl (xcX6_part h) (fun _ _ h1 => fz_cl (xcX6_part h1) (fun _ _ h2 => fz_cl (xcX6_part h2) (fun _ _ h3 => fz_if (fz_some h3) (fz_if (fz_cl (xcX3_put h3) (fun _ _ h4 => fz_some h4)) (fz_if (fz_cl (xcX3_word h3) (fun _ _ h4 => fz_cl (xcX3_word h4) (fun _ _ h5 => fz_cl (xcX3_put h5) (fun _ _ h6 => fz_some h6)))) (fz_if (fz_cl (xcX3_word h3) (fun _ _ h4 => fz_cl (xcX3_word h4) (fun _ _ h5 => fz_if (xcX2_reckon_198 h5) (xcX2_reckon_198 h5)))) (fz_if (fz_cl (xcX3_put h3) (fun _ _ h4 => fz_some h4)) (fz_if (fz_cl (xcX3_word h3) (fun _ _ h4 => fz_if (fz_cl (xcX3_word h4) (fun _ _ h5 => xcX2_reckon_266 h5)) (xcX2_reckon_266 h4))) (fz_if (fz_cl (xcX3_word h3) (fun _ _ h4 => fz_cl (xcX3_word h4) (fun _ _ h5 => fz_cl (xcX3_put h5) (fun _ _ h6 => fz_some h6)))) (fz_if (fz_some h3) (fz_if (fz_cl (xcX3_word h3) (fun _ _ h4 => fz_if (fz_some h4) (fz_wr h4 (Or.inr (by decide)) (fun _ h5 => fz_some h5)))) (fz_none))))))))))))
theorem xcX2_enter_106 {l2 : Int32} {l4 : Int32} {l6 : Int32} {l7 : Int32} {z2 : Int32} {z3 : Int32} {z4 : Int32} (h : FX 57 14 14 x1 x2 s)  : FZ 57 14 14 x1 x2 (gX2_enter_106 40 57 s l2 l4 l6 l7 z2 z3 z4) := by
  unfold gX2_enter_106
  exact fz_cl (xcX2_pushFrame h) (fun _ _ h1 => fz_cl (xcX6_isPointer h1) (fun _ _ h2 => fz_cl (xcX6_isPointer h2) (fun _ _ h3 => fz_if (fz_some h3) (fz_cl (xcX3_put h3) (fun _ _ h4 => fz_some h4)))))
theorem xcX2_enter_56 {l2 : Int32} {l3 : Int32} {l4 : Int32} {l5 : Int32} {z1 : Int32} {z2 : Int32} {z3 : Int32} (h : FX 57 14 14 x1 x2 s)  : FZ 57 14 14 x1 x2 (gX2_enter_56 40 57 s l2 l3 l4 l5 z1 z2 z3) := by
  unfold gX2_enter_56
  exact fz_cl (xcX6_part h) (fun _ _ h1 => fz_cl (xcX3_word h1) (fun _ _ h2 => fz_if (xcX2_enter_106 h2) (xcX2_enter_106 h2)))
theorem xcX2_enter_32 {l2 : Int32} {l3 : Int32} {l4 : Int32} {z0 : Int32} (h : FX 57 14 14 x1 x2 s)  : FZ 57 14 14 x1 x2 (gX2_enter_32 40 57 s l2 l3 l4 z0) := by
  unfold gX2_enter_32
  exact fz_if (xcX2_enter_56 h) (xcX2_enter_56 h)
theorem xcX2_enter {i1 : Int32} {i2 : Int32} (h : FX 57 14 14 x1 x2 s)  : FZ 57 14 14 x1 x2 (gX2_enter 40 57 s i1 i2) := by
  unfold gX2_enter
  exact fz_cl (xcX6_part h) (fun _ _ h1 => fz_if (xcX2_enter_32 h1) (xcX2_enter_32 h1))
end
end
