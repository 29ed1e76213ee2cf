section
/-! ===== the reference: what makes a step leaves two fields alone, but for roomFor (written by wip/p2/gen_fx.py) ===== -/
section
variable {s : wt_S} {x1 x2 : Int32}
theorem xrX11_clears_4_n   : ∀ (n : Nat) {s : wt_S} {y0 : Int32} {y1 : Int32}, FX 110 10 5 x1 x2 s → FZ 110 10 5 x1 x2 (gX11_clears_4  n s y0 y1) := by
  intro n
  induction n with
  | zero => exact fun _ => fz_none
  | succ n ih =>
    intro s y0 y1 h
    unfold gX11_clears_4
    exact fz_if (fz_ix (fun _ => fz_wr h (Or.inl (by decide)) (fun _ h1 => fz_ix (fun _ => fz_wr h1 (Or.inl (by decide)) (fun _ h2 => fz_some h2))))) (fz_ix (fun _ => fz_wr h (Or.inl (by decide)) (fun _ h1 => ih h1)))
theorem xrX11_clears_4  {n : Nat} {s : wt_S} {y0 : Int32} {y1 : Int32} (h : FX 110 10 5 x1 x2 s)  : FZ 110 10 5 x1 x2 (gX11_clears_4  n s y0 y1) := xrX11_clears_4_n  n h
theorem xrX11_clears {i1 : Int32} (h : FX 110 10 5 x1 x2 s)  : FZ 110 10 5 x1 x2 (gX11_clears s i1) := by
  unfold gX11_clears
  exact xrX11_clears_4 h
theorem xrX11_word {i1 : Int32} (h : FX 110 10 5 x1 x2 s)  : FZ 110 10 5 x1 x2 (gX11_word s i1) := by
  unfold gX11_word
  exact fz_if (fz_ix (fun _ => fz_some h)) (fz_ix (fun _ => fz_some h))
theorem xrX11_isCovered {i1 : Int32} (h : FX 110 10 5 x1 x2 s)  : FZ 110 10 5 x1 x2 (gX11_isCovered s i1) := by
  unfold gX11_isCovered
  exact fz_ix (fun _ => fz_if (fz_some h) (fz_ix (fun _ => fz_cl (xrX11_word h) (fun _ _ h1 => fz_if (fz_some h1) (fz_some h1)))))
theorem xrX11_frameOf {i1 : Int32} (h : FX 110 10 5 x1 x2 s)  : FZ 110 10 5 x1 x2 (gX11_frameOf s i1) := by
  unfold gX11_frameOf
  exact fz_ix (fun _ => fz_some h)
theorem xrX11_pieceOf_2_n   : ∀ (n : Nat) {s : wt_S} {y0 : Int32} {y1 : Int32} {y2 : Int32}, FX 110 10 5 x1 x2 s → FZ 110 10 5 x1 x2 (gX11_pieceOf_2  n s y0 y1 y2) := by
  intro n
  induction n with
  | zero => exact fun _ => fz_none
  | succ n ih =>
    intro s y0 y1 y2 h
    unfold gX11_pieceOf_2
    exact fz_if (fz_some h) (fz_ix (fun _ => fz_if (ih h) (fz_ix (fun _ => fz_if (ih h) (fz_some h)))))
theorem xrX11_pieceOf_2  {n : Nat} {s : wt_S} {y0 : Int32} {y1 : Int32} {y2 : Int32} (h : FX 110 10 5 x1 x2 s)  : FZ 110 10 5 x1 x2 (gX11_pieceOf_2  n s y0 y1 y2) := xrX11_pieceOf_2_n  n h
theorem xrX11_pieceOf {i1 : Int32} {i2 : Int32} (h : FX 110 10 5 x1 x2 s)  : FZ 110 10 5 x1 x2 (gX11_pieceOf s i1 i2) := by
  unfold gX11_pieceOf
  exact xrX11_pieceOf_2 h
theorem xrX11_topOf {i1 : Int32} (h : FX 110 10 5 x1 x2 s)  : FZ 110 10 5 x1 x2 (gX11_topOf s i1) := by
  unfold gX11_topOf
  exact fz_ix (fun _ => fz_if (fz_if (fz_cl (xrX11_pieceOf h) (fun _ _ h1 => fz_ix (fun _ => fz_some h1))) (fz_some h)) (fz_ix (fun _ => fz_ix (fun _ => fz_cl (xrX11_frameOf h) (fun _ _ h1 => fz_some h1)))))
theorem xrX11_counts {i1 : Int32} {i2 : Int32} (h : FX 110 10 5 x1 x2 s)  : FZ 110 10 5 x1 x2 (gX11_counts s i1 i2) := by
  unfold gX11_counts
  exact fz_if (fz_some h) (fz_ix (fun _ => fz_ix (fun _ => fz_wr h (Or.inl (by decide)) (fun _ h1 => fz_some h1))))
theorem xrX11_lastPiece {i1 : Int32} (h : FX 110 10 5 x1 x2 s)  : FZ 110 10 5 x1 x2 (gX11_lastPiece s i1) := by
  unfold gX11_lastPiece
  exact fz_ix (fun _ => fz_cl (xrX11_pieceOf h) (fun _ _ h1 => fz_some h1))
theorem xrX11_codeAt {i1 : Int32} {i2 : Int32} (h : FX 110 10 5 x1 x2 s)  : FZ 110 10 5 x1 x2 (gX11_codeAt s i1 i2) := by
  unfold gX11_codeAt
  exact fz_some h
theorem xrX11_isIn {i1 : Int32} {i2 : Int32} {i3 : Int32} (h : FX 110 10 5 x1 x2 s)  : FZ 110 10 5 x1 x2 (gX11_isIn s i1 i2 i3) := by
  unfold gX11_isIn
  exact fz_if (fz_some h) (fz_if (fz_some h) (fz_some h))
theorem xrX11_isFunction {i1 : Int32} (h : FX 110 10 5 x1 x2 s)  : FZ 110 10 5 x1 x2 (gX11_isFunction s i1) := by
  unfold gX11_isFunction
  exact fz_cl (xrX11_isIn h) (fun _ _ h1 => fz_rz (fz_some h1))
theorem xrX11_isTold {i1 : Int32} (h : FX 110 10 5 x1 x2 s)  : FZ 110 10 5 x1 x2 (gX11_isTold s i1) := by
  unfold gX11_isTold
  exact fz_cl (xrX11_isFunction h) (fun _ _ h1 => fz_if (fz_some h1) (fz_ix (fun _ => fz_if (fz_some h1) (fz_some h1))))
theorem xrX11_calledBy_75 {K4 : wt_S → Int32 → Int32 → Int32 → Option (Int32 × wt_S)} {l1 : Int32} {l2 : Int32} {l3 : Int32} {z0 : Int32} (h : FX 110 10 5 x1 x2 s) (hK4 : ∀ s1 a0 a1 a2, FX 110 10 5 x1 x2 s1 → FZ 110 10 5 x1 x2 (K4 s1 a0 a1 a2)) : FZ 110 10 5 x1 x2 (gX11_calledBy_75 K4 s l1 l2 l3 z0) := by
  unfold gX11_calledBy_75
  exact fz_cl (xrX11_isTold h) (fun _ _ h1 => fz_if (hK4 _ _ _ _ h1) (hK4 _ _ _ _ h1))
theorem xrX11_calledBy_4_n   : ∀ (n : Nat) {s : wt_S} {y0 : Int32} {y1 : Int32} {y2 : Int32}, FX 110 10 5 x1 x2 s → FZ 110 10 5 x1 x2 (gX11_calledBy_4  n s y0 y1 y2) := by
  intro n
  induction n with
  | zero => exact fun _ => fz_none
  | succ n ih =>
    intro s y0 y1 y2 h
    unfold gX11_calledBy_4
    exact fz_ix (fun _ => fz_if (fz_some h) (fz_cl (xrX11_codeAt h) (fun _ _ h1 => fz_ix (fun _ => fz_if (fz_ix (fun _ => fz_if (xrX11_calledBy_75 h1 (fun _ _ _ _ h9 => ih h9)) (fz_ix (fun _ => xrX11_calledBy_75 h1 (fun _ _ _ _ h9 => ih h9))))) (fz_ix (fun _ => xrX11_calledBy_75 h1 (fun _ _ _ _ h9 => ih h9)))))))
theorem xrX11_calledBy_4  {n : Nat} {s : wt_S} {y0 : Int32} {y1 : Int32} {y2 : Int32} (h : FX 110 10 5 x1 x2 s)  : FZ 110 10 5 x1 x2 (gX11_calledBy_4  n s y0 y1 y2) := xrX11_calledBy_4_n  n h
theorem xrX11_calledBy {i1 : Int32} (h : FX 110 10 5 x1 x2 s)  : FZ 110 10 5 x1 x2 (gX11_calledBy s i1) := by
  unfold gX11_calledBy
  exact xrX11_calledBy_4 h
theorem xrX11_has {i1 : Int32} {i2 : Int32} (h : FX 110 10 5 x1 x2 s)  : FZ 110 10 5 x1 x2 (gX11_has s i1 i2) := by
  unfold gX11_has
  exact fz_if (fz_some h) (fz_some h)
theorem xrX11_reachedBy_18_n {K8 : wt_S → Int32 → Int32 → Option (Int32 × wt_S)} (hK8 : ∀ s1 a0 a1, FX 110 10 5 x1 x2 s1 → FZ 110 10 5 x1 x2 (K8 s1 a0 a1)) : ∀ (n : Nat) {s : wt_S} {y0 : Int32} {y1 : Int32} {y2 : Int32}, FX 110 10 5 x1 x2 s → FZ 110 10 5 x1 x2 (gX11_reachedBy_18 K8 n s y0 y1 y2) := by
  intro n
  induction n with
  | zero => exact fun _ => fz_none
  | succ n ih =>
    intro s y0 y1 y2 h
    unfold gX11_reachedBy_18
    exact fz_if (hK8 _ _ _ h) (fz_cl (xrX11_has h) (fun _ _ h1 => fz_if (ih h1) (fz_cl (xrX11_calledBy h1) (fun _ _ h2 => ih h2))))
theorem xrX11_reachedBy_18 {K8 : wt_S → Int32 → Int32 → Option (Int32 × wt_S)} {n : Nat} {s : wt_S} {y0 : Int32} {y1 : Int32} {y2 : Int32} (h : FX 110 10 5 x1 x2 s) (hK8 : ∀ s1 a0 a1, FX 110 10 5 x1 x2 s1 → FZ 110 10 5 x1 x2 (K8 s1 a0 a1)) : FZ 110 10 5 x1 x2 (gX11_reachedBy_18 K8 n s y0 y1 y2) := xrX11_reachedBy_18_n hK8 n h
theorem xrX11_reachedBy_8_n   : ∀ (n : Nat) {s : wt_S} {y0 : Int32} {y1 : Int32}, FX 110 10 5 x1 x2 s → FZ 110 10 5 x1 x2 (gX11_reachedBy_8  n s y0 y1) := by
  intro n
  induction n with
  | zero => exact fun _ => fz_none
  | succ n ih =>
    intro s y0 y1 h
    unfold gX11_reachedBy_8
    exact fz_if (fz_some h) (xrX11_reachedBy_18 h (fun _ _ _ h9 => ih h9))
theorem xrX11_reachedBy_8  {n : Nat} {s : wt_S} {y0 : Int32} {y1 : Int32} (h : FX 110 10 5 x1 x2 s)  : FZ 110 10 5 x1 x2 (gX11_reachedBy_8  n s y0 y1) := xrX11_reachedBy_8_n  n h
theorem xrX11_reachedBy {i1 : Int32} (h : FX 110 10 5 x1 x2 s)  : FZ 110 10 5 x1 x2 (gX11_reachedBy s i1) := by
  unfold gX11_reachedBy
  exact fz_cl (xrX11_calledBy h) (fun _ _ h1 => xrX11_reachedBy_8 h1)
theorem xrX11_isEndlessOne_18_n   : ∀ (n : Nat) {s : wt_S} {y0 : Int32} {y1 : Int32}, FX 110 10 5 x1 x2 s → FZ 110 10 5 x1 x2 (gX11_isEndlessOne_18  n s y0 y1) := by
  intro n
  induction n with
  | zero => exact fun _ => fz_none
  | succ n ih =>
    intro s y0 y1 h
    unfold gX11_isEndlessOne_18
    exact fz_if (fz_some h) (fz_cl (xrX11_has h) (fun _ _ h1 => fz_if (ih h1) (fz_cl (xrX11_reachedBy h1) (fun _ _ h2 => fz_cl (xrX11_has h2) (fun _ _ h3 => fz_if (ih h3) (fz_some h3))))))
theorem xrX11_isEndlessOne_18  {n : Nat} {s : wt_S} {y0 : Int32} {y1 : Int32} (h : FX 110 10 5 x1 x2 s)  : FZ 110 10 5 x1 x2 (gX11_isEndlessOne_18  n s y0 y1) := xrX11_isEndlessOne_18_n  n h
theorem xrX11_isEndlessOne {i1 : Int32} (h : FX 110 10 5 x1 x2 s)  : FZ 110 10 5 x1 x2 (gX11_isEndlessOne s i1) := by
  unfold gX11_isEndlessOne
  exact fz_cl (xrX11_reachedBy h) (fun _ _ h1 => fz_cl (xrX11_has h1) (fun _ _ h2 => fz_if (xrX11_isEndlessOne_18 h2) (fz_some h2)))
theorem xrX11_depth1_50 {D : wt_S → Int32 → Option (Int32 × wt_S)} {K11 : wt_S → Int32 → Int32 → Int32 → Int32 → Option (Int32 × wt_S)} {l1 : Int32} {l3 : Int32} {l4 : Int32} {z0 : Int32} (h : FX 110 10 5 x1 x2 s) (hD : ∀ s1 a0, FX 110 10 5 x1 x2 s1 → FZ 110 10 5 x1 x2 (D s1 a0)) (hK11 : ∀ s1 a0 a1 a2 a3, FX 110 10 5 x1 x2 s1 → FZ 110 10 5 x1 x2 (K11 s1 a0 a1 a2 a3)) : FZ 110 10 5 x1 x2 (gX11_depth1_50 D K11 s l1 l3 l4 z0) := by
  unfold gX11_depth1_50
  exact hK11 _ _ _ _ _ h
theorem xrX11_depth1_11_n {D : wt_S → Int32 → Option (Int32 × wt_S)} (hD : ∀ s1 a0, FX 110 10 5 x1 x2 s1 → FZ 110 10 5 x1 x2 (D s1 a0)) : ∀ (n : Nat) {s : wt_S} {y0 : Int32} {y1 : Int32} {y2 : Int32} {y3 : Int32}, FX 110 10 5 x1 x2 s → FZ 110 10 5 x1 x2 (gX11_depth1_11 D n s y0 y1 y2 y3) := by
  intro n
  induction n with
  | zero => exact fun _ => fz_none
  | succ n ih =>
    intro s y0 y1 y2 y3 h
    unfold gX11_depth1_11
    exact fz_if (fz_cl (xrX11_frameOf h) (fun _ _ h1 => fz_some h1)) (fz_cl (xrX11_has h) (fun _ _ h1 => fz_if (fz_cl (hD _ _ h1) (fun _ _ h2 => fz_if (xrX11_depth1_50 h2 hD (fun _ _ _ _ _ h9 => ih h9)) (xrX11_depth1_50 h2 hD (fun _ _ _ _ _ h9 => ih h9)))) (ih h1)))
theorem xrX11_depth1_11 {D : wt_S → Int32 → Option (Int32 × wt_S)} {n : Nat} {s : wt_S} {y0 : Int32} {y1 : Int32} {y2 : Int32} {y3 : Int32} (h : FX 110 10 5 x1 x2 s) (hD : ∀ s1 a0, FX 110 10 5 x1 x2 s1 → FZ 110 10 5 x1 x2 (D s1 a0)) : FZ 110 10 5 x1 x2 (gX11_depth1_11 D n s y0 y1 y2 y3) := xrX11_depth1_11_n hD n h
theorem xrX11_depth1 {D : wt_S → Int32 → Option (Int32 × wt_S)} {i1 : Int32} (h : FX 110 10 5 x1 x2 s) (hD : ∀ s1 a0, FX 110 10 5 x1 x2 s1 → FZ 110 10 5 x1 x2 (D s1 a0)) : FZ 110 10 5 x1 x2 (gX11_depth1 D s i1) := by
  unfold gX11_depth1
  exact fz_cl (xrX11_calledBy h) (fun _ _ h1 => xrX11_depth1_11 h1 hD)
theorem xrX11_depth : ∀ {n : Nat} {s : wt_S} {i1 : Int32}, FX 110 10 5 x1 x2 s → FZ 110 10 5 x1 x2 (gX11_depth n s i1) := by
  intro n
  induction n with
  | zero => exact fun _ => fz_none
  | succ n ih =>
    intro s i1 h
    unfold gX11_depth
    exact xrX11_depth1 h (fun _ _ h9 => ih h9)
theorem xrX11_deepOf {i1 : Int32} (h : FX 110 10 5 x1 x2 s)  : FZ 110 10 5 x1 x2 (gX11_deepOf s i1) := by
  unfold gX11_deepOf
  exact fz_cl (xrX11_isEndlessOne h) (fun _ _ h1 => fz_if (fz_cl (xrX11_depth h1) (fun _ _ h2 => fz_some h2)) (fz_some h1))
theorem xrX11_isMerged {i1 : Int32} (h : FX 110 10 5 x1 x2 s)  : FZ 110 10 5 x1 x2 (gX11_isMerged s i1) := by
  unfold gX11_isMerged
  exact fz_if (fz_cl (xrX11_deepOf h) (fun _ _ h1 => fz_if (fz_some h1) (fz_if (fz_some h1) (fz_some h1)))) (fz_some h)
theorem xrX11_needOf {i1 : Int32} (h : FX 110 10 5 x1 x2 s)  : FZ 110 10 5 x1 x2 (gX11_needOf s i1) := by
  unfold gX11_needOf
  exact fz_cl (xrX11_isMerged h) (fun _ _ h1 => fz_if (fz_cl (xrX11_frameOf h1) (fun _ _ h2 => fz_some h2)) (fz_cl (xrX11_deepOf h1) (fun _ _ h2 => fz_some h2)))
theorem xrX11_gapFor_4_n   : ∀ (n : Nat) {s : wt_S} {y0 : Int32} {y1 : Int32} {y2 : Int32}, FX 110 10 5 x1 x2 s → FZ 110 10 5 x1 x2 (gX11_gapFor_4  n s y0 y1 y2) := by
  intro n
  induction n with
  | zero => exact fun _ => fz_none
  | succ n ih =>
    intro s y0 y1 y2 h
    unfold gX11_gapFor_4
    exact fz_if (fz_if (fz_some h) (fz_some h)) (fz_ix (fun _ => fz_if (fz_ix (fun _ => fz_ix (fun _ => ih h))) (fz_some h)))
theorem xrX11_gapFor_4  {n : Nat} {s : wt_S} {y0 : Int32} {y1 : Int32} {y2 : Int32} (h : FX 110 10 5 x1 x2 s)  : FZ 110 10 5 x1 x2 (gX11_gapFor_4  n s y0 y1 y2) := xrX11_gapFor_4_n  n h
theorem xrX11_gapFor {i1 : Int32} (h : FX 110 10 5 x1 x2 s)  : FZ 110 10 5 x1 x2 (gX11_gapFor s i1) := by
  unfold gX11_gapFor
  exact xrX11_gapFor_4 h
theorem xrX11_part {i1 : Int32} {i2 : Int32} {i3 : Int32} (h : FX 110 10 5 x1 x2 s)  : FZ 110 10 5 x1 x2 (gX11_part s i1 i2 i3) := by
  unfold gX11_part
  exact fz_ix (fun _ => fz_wr h (Or.inl (by decide)) (fun _ h1 => fz_ix (fun _ => fz_wr h1 (Or.inl (by decide)) (fun _ h2 => fz_ix (fun _ => fz_wr h2 (Or.inl (by decide)) (fun _ h3 => fz_wr h3 (Or.inr (by decide)) (fun _ h4 => fz_some h4)))))))
theorem xrX11_carries_12_n {K2 : wt_S → Int32 → Option (Unit × wt_S)} (hK2 : ∀ s1 a0, FX 110 10 5 x1 x2 s1 → FZ 110 10 5 x1 x2 (K2 s1 a0)) : ∀ (n : Nat) {s : wt_S} {y0 : Int32} {y1 : Int32}, FX 110 10 5 x1 x2 s → FZ 110 10 5 x1 x2 (gX11_carries_12 K2 n s y0 y1) := by
  intro n
  induction n with
  | zero => exact fun _ => fz_none
  | succ n ih =>
    intro s y0 y1 h
    unfold gX11_carries_12
    exact fz_ix (fun _ => fz_if (hK2 _ _ h) (fz_ix (fun _ => fz_ix (fun _ => fz_ix (fun _ => fz_ix (fun _ => fz_wr h (Or.inl (by decide)) (fun _ h1 => ih h1)))))))
theorem xrX11_carries_12 {K2 : wt_S → Int32 → Option (Unit × wt_S)} {n : Nat} {s : wt_S} {y0 : Int32} {y1 : Int32} (h : FX 110 10 5 x1 x2 s) (hK2 : ∀ s1 a0, FX 110 10 5 x1 x2 s1 → FZ 110 10 5 x1 x2 (K2 s1 a0)) : FZ 110 10 5 x1 x2 (gX11_carries_12 K2 n s y0 y1) := xrX11_carries_12_n hK2 n h
theorem xrX11_carries_2_n   : ∀ (n : Nat) {s : wt_S} {y0 : Int32}, FX 110 10 5 x1 x2 s → FZ 110 10 5 x1 x2 (gX11_carries_2  n s y0) := by
  intro n
  induction n with
  | zero => exact fun _ => fz_none
  | succ n ih =>
    intro s y0 h
    unfold gX11_carries_2
    exact fz_if (fz_some h) (xrX11_carries_12 h (fun _ _ h9 => ih h9))
theorem xrX11_carries_2  {n : Nat} {s : wt_S} {y0 : Int32} (h : FX 110 10 5 x1 x2 s)  : FZ 110 10 5 x1 x2 (gX11_carries_2  n s y0) := xrX11_carries_2_n  n h
theorem xrX11_carries  (h : FX 110 10 5 x1 x2 s)  : FZ 110 10 5 x1 x2 (gX11_carries s) := by
  unfold gX11_carries
  exact xrX11_carries_2 h
theorem xrX11_goalOf_2_n   : ∀ (n : Nat) {s : wt_S} {y0 : Int32} {y1 : Int32}, FX 110 10 5 x1 x2 s → FZ 110 10 5 x1 x2 (gX11_goalOf_2  n s y0 y1) := by
  intro n
  induction n with
  | zero => exact fun _ => fz_none
  | succ n ih =>
    intro s y0 y1 h
    unfold gX11_goalOf_2
    exact fz_if (fz_some h) (fz_ix (fun _ => fz_ix (fun _ => fz_ix (fun _ => fz_cl (xrX11_isIn h) (fun _ _ h1 => fz_if (ih h1) (fz_ix (fun _ => fz_ix (fun _ => fz_some h1))))))))
theorem xrX11_goalOf_2  {n : Nat} {s : wt_S} {y0 : Int32} {y1 : Int32} (h : FX 110 10 5 x1 x2 s)  : FZ 110 10 5 x1 x2 (gX11_goalOf_2  n s y0 y1) := xrX11_goalOf_2_n  n h
theorem xrX11_goalOf {i1 : Int32} (h : FX 110 10 5 x1 x2 s)  : FZ 110 10 5 x1 x2 (gX11_goalOf s i1) := by
  unfold gX11_goalOf
  exact xrX11_goalOf_2 h
theorem xrX11_turns_67_n {K49 : wt_S → Int32 → Int32 → Int32 → Int32 → Option (Unit × wt_S)} (hK49 : ∀ s1 a0 a1 a2 a3, FX 110 10 5 x1 x2 s1 → FZ 110 10 5 x1 x2 (K49 s1 a0 a1 a2 a3)) : ∀ (n : Nat) {s : wt_S} {y0 : Int32} {y1 : Int32} {y2 : Int32} {y3 : Int32} {y4 : Int32}, FX 110 10 5 x1 x2 s → FZ 110 10 5 x1 x2 (gX11_turns_67 K49 n s y0 y1 y2 y3 y4) := by
  intro n
  induction n with
  | zero => exact fun _ => fz_none
  | succ n ih =>
    intro s y0 y1 y2 y3 y4 h
    unfold gX11_turns_67
    exact fz_ix (fun _ => fz_if (fz_ix (fun _ => fz_if (fz_cl (xrX11_goalOf h) (fun _ _ h1 => fz_ix (fun _ => fz_wr h1 (Or.inl (by decide)) (fun _ h2 => fz_ix (fun _ => fz_ix (fun _ => hK49 _ _ _ _ _ h2)))))) (fz_some h))) (fz_ix (fun _ => fz_cl (xrX11_has h) (fun _ _ h1 => fz_if (ih h1) (fz_ix (fun _ => fz_if (ih h1) (fz_ix (fun _ => fz_cl (xrX11_goalOf h1) (fun _ _ h2 => fz_ix (fun _ => fz_wr h2 (Or.inl (by decide)) (fun _ h3 => ih h3)))))))))))
theorem xrX11_turns_67 {K49 : wt_S → Int32 → Int32 → Int32 → Int32 → Option (Unit × wt_S)} {n : Nat} {s : wt_S} {y0 : Int32} {y1 : Int32} {y2 : Int32} {y3 : Int32} {y4 : Int32} (h : FX 110 10 5 x1 x2 s) (hK49 : ∀ s1 a0 a1 a2 a3, FX 110 10 5 x1 x2 s1 → FZ 110 10 5 x1 x2 (K49 s1 a0 a1 a2 a3)) : FZ 110 10 5 x1 x2 (gX11_turns_67 K49 n s y0 y1 y2 y3 y4) := xrX11_turns_67_n hK49 n h
theorem xrX11_turns_49_n   : ∀ (n : Nat) {s : wt_S} {y0 : Int32} {y1 : Int32} {y2 : Int32} {y3 : Int32}, FX 110 10 5 x1 x2 s → FZ 110 10 5 x1 x2 (gX11_turns_49  n s y0 y1 y2 y3) := by
  intro n
  induction n with
  | zero => exact fun _ => fz_none
  | succ n ih =>
    intro s y0 y1 y2 y3 h
    unfold gX11_turns_49
    exact fz_ix (fun _ => fz_if (fz_some h) (xrX11_turns_67 h (fun _ _ _ _ _ h9 => ih h9)))
theorem xrX11_turns_49  {n : Nat} {s : wt_S} {y0 : Int32} {y1 : Int32} {y2 : Int32} {y3 : Int32} (h : FX 110 10 5 x1 x2 s)  : FZ 110 10 5 x1 x2 (gX11_turns_49  n s y0 y1 y2 y3) := xrX11_turns_49_n  n h
theorem xrX11_turns {i1 : Int32} (h : FX 110 10 5 x1 x2 s)  : FZ 110 10 5 x1 x2 (gX11_turns s i1) := by
  unfold gX11_turns
  exact fz_ix (fun _ => fz_cl (xrX11_goalOf h) (fun _ _ h1 => fz_ix (fun _ => fz_wr h1 (Or.inl (by decide)) (fun _ h2 => fz_ix (fun _ => fz_ix (fun _ => xrX11_turns_49 h2))))))
theorem xrX11_shifts {i1 : Int32} {i2 : Int32} (h : FX 110 10 5 x1 x2 s)  : FZ 110 10 5 x1 x2 (gX11_shifts s i1 i2) := by
  unfold gX11_shifts
  exact fz_ix (fun _ => fz_ix (fun _ => fz_wr h (Or.inl (by decide)) (fun _ h1 => fz_ix (fun _ => fz_ix (fun _ => fz_wr h1 (Or.inl (by decide)) (fun _ h2 => fz_ix (fun _ => fz_ix (fun _ => fz_wr h2 (Or.inl (by decide)) (fun _ h3 => fz_ix (fun _ => fz_ix (fun _ => fz_wr h3 (Or.inl (by decide)) (fun _ h4 => fz_some h4))))))))))))
theorem xrX11_gives_14_n   : ∀ (n : Nat) {s : wt_S} {y0 : Int32}, FX 110 10 5 x1 x2 s → FZ 110 10 5 x1 x2 (gX11_gives_14  n s y0) := by
  intro n
  induction n with
  | zero => exact fun _ => fz_none
  | succ n ih =>
    intro s y0 h
    unfold gX11_gives_14
    exact fz_if (fz_some h) (fz_cl (xrX11_shifts h) (fun _ _ h1 => ih h1))
theorem xrX11_gives_14  {n : Nat} {s : wt_S} {y0 : Int32} (h : FX 110 10 5 x1 x2 s)  : FZ 110 10 5 x1 x2 (gX11_gives_14  n s y0) := xrX11_gives_14_n  n h
theorem xrX11_gives {i1 : Int32} (h : FX 110 10 5 x1 x2 s)  : FZ 110 10 5 x1 x2 (gX11_gives s i1) := by
  unfold gX11_gives
  exact fz_wr h (Or.inl (by decide)) (fun _ h1 => xrX11_gives_14 h1)
theorem xrX11_takes_60 {l1 : Int32} {l2 : Int32} {l3 : Int32} {l4 : Int32} {l5 : Int32} (h : FX 110 10 5 x1 x2 s)  : FZ 110 10 5 x1 x2 (gX11_takes_60 s l1 l2 l3 l4 l5) := by
  unfold gX11_takes_60
  exact fz_ix (fun _ => fz_wr h (Or.inl (by decide)) (fun _ h1 => fz_ix (fun _ => fz_wr h1 (Or.inl (by decide)) (fun _ h2 => fz_ix (fun _ => fz_wr h2 (Or.inl (by decide)) (fun _ h3 => fz_ix (fun _ => fz_wr h3 (Or.inl (by decide)) (fun _ h4 => fz_some h4))))))))
theorem xrX11_takes_22_n   : ∀ (n : Nat) {s : wt_S} {y0 : Int32} {y1 : Int32} {y2 : Int32} {y3 : Int32} {y4 : Int32}, FX 110 10 5 x1 x2 s → FZ 110 10 5 x1 x2 (gX11_takes_22  n s y0 y1 y2 y3 y4) := by
  intro n
  induction n with
  | zero => exact fun _ => fz_none
  | succ n ih =>
    intro s y0 y1 y2 y3 y4 h
    unfold gX11_takes_22
    exact fz_if (xrX11_takes_60 h) (fz_ix (fun _ => fz_if (xrX11_takes_60 h) (fz_cl (xrX11_shifts h) (fun _ _ h1 => ih h1))))
theorem xrX11_takes_22  {n : Nat} {s : wt_S} {y0 : Int32} {y1 : Int32} {y2 : Int32} {y3 : Int32} {y4 : Int32} (h : FX 110 10 5 x1 x2 s)  : FZ 110 10 5 x1 x2 (gX11_takes_22  n s y0 y1 y2 y3 y4) := xrX11_takes_22_n  n h
theorem xrX11_takes {i1 : Int32} {i2 : Int32} {i3 : Int32} {i4 : Int32} (h : FX 110 10 5 x1 x2 s)  : FZ 110 10 5 x1 x2 (gX11_takes s i1 i2 i3 i4) := by
  unfold gX11_takes
  exact fz_wr h (Or.inl (by decide)) (fun _ h1 => xrX11_takes_22 h1)
theorem xrX11_moves {i1 : Int32} {i2 : Int32} (h : FX 110 10 5 x1 x2 s)  : FZ 110 10 5 x1 x2 (gX11_moves s i1 i2) := by
  unfold gX11_moves
  exact fz_cl (xrX11_gapFor h) (fun _ _ h1 => fz_if (fz_cl (xrX11_pieceOf h1) (fun _ _ h2 => fz_wr h2 (Or.inr (by decide)) (fun _ h3 => fz_ix (fun _ => fz_ix (fun _ => fz_cl (xrX11_part h3) (fun _ _ h4 => fz_ix (fun _ => fz_wr h4 (Or.inl (by decide)) (fun _ h5 => fz_cl (xrX11_carries h5) (fun _ _ h6 => fz_cl (xrX11_turns h6) (fun _ _ h7 => fz_cl (xrX11_gives h7) (fun _ _ h8 => fz_cl (xrX11_takes h8) (fun _ _ h9 => fz_ix (fun _ => fz_ix (fun _ => fz_ix (fun _ => fz_wr h9 (Or.inl (by decide)) (fun _ h10 => fz_ix (fun _ => fz_cl (xrX11_counts h10) (fun _ _ h11 => fz_some h11)))))))))))))))))) (fz_some h1))
theorem xrX11_logs_84 {l1 : Int32} {l2 : Int32} {l3 : Int32} {l4 : Int32} {z0 : Int32} {z1 : Int32} {z2 : Int32} (h : FX 110 10 5 x1 x2 s)  : FZ 110 10 5 x1 x2 (gX11_logs_84 s l1 l2 l3 l4 z0 z1 z2) := by
  unfold gX11_logs_84
  exact fz_ix (fun _ => fz_wr h (Or.inl (by decide)) (fun _ h1 => fz_ix (fun _ => fz_wr h1 (Or.inl (by decide)) (fun _ h2 => fz_ix (fun _ => fz_wr h2 (Or.inl (by decide)) (fun _ h3 => fz_ix (fun _ => fz_wr h3 (Or.inl (by decide)) (fun _ h4 => fz_wr h4 (Or.inl (by decide)) (fun _ h5 => fz_some h5)))))))))
theorem xrX11_logs_54 {l1 : Int32} {l2 : Int32} {l3 : Int32} {l4 : Int32} (h : FX 110 10 5 x1 x2 s)  : FZ 110 10 5 x1 x2 (gX11_logs_54 s l1 l2 l3 l4) := by
  unfold gX11_logs_54
  exact fz_if (xrX11_logs_84 h) (xrX11_logs_84 h)
theorem xrX11_logs_16_n   : ∀ (n : Nat) {s : wt_S} {y0 : Int32} {y1 : Int32} {y2 : Int32} {y3 : Int32} {y4 : Int32}, FX 110 10 5 x1 x2 s → FZ 110 10 5 x1 x2 (gX11_logs_16  n s y0 y1 y2 y3 y4) := by
  intro n
  induction n with
  | zero => exact fun _ => fz_none
  | succ n ih =>
    intro s y0 y1 y2 y3 y4 h
    unfold gX11_logs_16
    exact fz_if (xrX11_logs_54 h) (fz_ix (fun _ => fz_ix (fun _ => fz_wr h (Or.inl (by decide)) (fun _ h1 => ih h1))))
theorem xrX11_logs_16  {n : Nat} {s : wt_S} {y0 : Int32} {y1 : Int32} {y2 : Int32} {y3 : Int32} {y4 : Int32} (h : FX 110 10 5 x1 x2 s)  : FZ 110 10 5 x1 x2 (gX11_logs_16  n s y0 y1 y2 y3 y4) := xrX11_logs_16_n  n h
theorem xrX11_logs {i1 : Int32} {i2 : Int32} {i3 : Int32} {i4 : Int32} (h : FX 110 10 5 x1 x2 s)  : FZ 110 10 5 x1 x2 (gX11_logs s i1 i2 i3 i4) := by
  unfold gX11_logs
  exact fz_if (xrX11_logs_54 h) (xrX11_logs_16 h)
theorem xrX11_givesSpare {i1 : Int32} (h : FX 110 10 5 x1 x2 s)  : FZ 110 10 5 x1 x2 (gX11_givesSpare s i1) := by
  unfold gX11_givesSpare
  exact fz_cl (xrX11_pieceOf h) (fun _ _ h1 => fz_if (fz_ix (fun _ => fz_ix (fun _ => fz_cl (xrX11_logs h1) (fun _ _ h2 => fz_cl (xrX11_gives h2) (fun _ _ h3 => fz_some h3))))) (fz_some h1))
theorem xrX11_grows_36_n   : ∀ (n : Nat) {s : wt_S} {y0 : Int32} {y1 : Int32} {y2 : Int32}, FX 110 10 5 x1 x2 s → FZ 110 10 5 x1 x2 (gX11_grows_36  n s y0 y1 y2) := by
  intro n
  induction n with
  | zero => exact fun _ => fz_none
  | succ n ih =>
    intro s y0 y1 y2 h
    unfold gX11_grows_36
    exact fz_ix (fun _ => fz_if (fz_cl (xrX11_moves h) (fun _ _ h1 => fz_if (fz_ix (fun _ => fz_ix (fun _ => fz_wr h1 (Or.inl (by decide)) (fun _ h2 => fz_cl (xrX11_counts h2) (fun _ _ h3 => fz_cl (xrX11_pieceOf h3) (fun _ _ h4 => fz_ix (fun _ => fz_cl (xrX11_logs h4) (fun _ _ h5 => fz_some h5)))))))) (fz_some h1))) (ih h))
theorem xrX11_grows_36  {n : Nat} {s : wt_S} {y0 : Int32} {y1 : Int32} {y2 : Int32} (h : FX 110 10 5 x1 x2 s)  : FZ 110 10 5 x1 x2 (gX11_grows_36  n s y0 y1 y2) := xrX11_grows_36_n  n h
theorem xrX11_grows_310 {l1 : Int32} (h : FX 110 10 5 x1 x2 s)  : FZ 110 10 5 x1 x2 (gX11_grows_310 s l1) := by
  unfold gX11_grows_310
  exact fz_ix (fun _ => fz_ix (fun _ => fz_wr h (Or.inl (by decide)) (fun _ h1 => fz_some h1)))
theorem xrX11_grows_242 {l1 : Int32} {z0 : Int32} (h : FX 110 10 5 x1 x2 s)  : FZ 110 10 5 x1 x2 (gX11_grows_242 s l1 z0) := by
  unfold gX11_grows_242
  exact fz_cl (xrX11_gapFor h) (fun _ _ h1 => fz_if (fz_ix (fun _ => fz_cl (xrX11_takes h1) (fun _ _ h2 => fz_ix (fun _ => fz_ix (fun _ => fz_wr h2 (Or.inl (by decide)) (fun _ h3 => fz_cl (xrX11_counts h3) (fun _ _ h4 => fz_cl (xrX11_logs h4) (fun _ _ h5 => xrX11_grows_310 h5)))))))) (fz_some h1))
theorem xrX11_grows_212 {l1 : Int32} {l2 : Int32} (h : FX 110 10 5 x1 x2 s)  : FZ 110 10 5 x1 x2 (gX11_grows_212 s l1 l2) := by
  unfold gX11_grows_212
  exact fz_cl (xrX11_givesSpare h) (fun _ _ h1 => fz_if (xrX11_grows_242 h1) (xrX11_grows_242 h1))
theorem xrX11_grows {i1 : Int32} {i2 : Int32} (h : s 110 5 = x2)  : FZ 110 10 5 1 x2 (gX11_grows s i1 i2) := by
  unfold gX11_grows
  exact fz_w0 h (fun _ h1 => fz_ix (fun _ => fz_if (fz_cl (xrX11_pieceOf h1) (fun _ _ h2 => fz_if (xrX11_grows_212 h2) (fz_ix (fun _ => fz_if (xrX11_grows_212 h2) (fz_ix (fun _ => fz_ix (fun _ => fz_wr h2 (Or.inl (by decide)) (fun _ h3 => fz_ix (fun _ => fz_ix (fun _ => fz_wr h3 (Or.inl (by decide)) (fun _ h4 => fz_cl (xrX11_counts h4) (fun _ _ h5 => fz_ix (fun _ => fz_ix (fun _ => fz_cl (xrX11_logs h5) (fun _ _ h6 => xrX11_grows_310 h6))))))))))))))) (fz_cl (xrX11_pieceOf h1) (fun _ _ h2 => fz_ix (fun _ => xrX11_grows_36 h2)))))
theorem xrX11_givesAll_74 {l1 : Int32} (h : FX 110 10 5 x1 x2 s)  : FZ 110 10 5 x1 x2 (gX11_givesAll_74 s l1) := by
  unfold gX11_givesAll_74
  exact fz_ix (fun _ => fz_wr h (Or.inl (by decide)) (fun _ h1 => fz_ix (fun _ => fz_wr h1 (Or.inl (by decide)) (fun _ h2 => fz_ix (fun _ => fz_wr h2 (Or.inl (by decide)) (fun _ h3 => fz_ix (fun _ => fz_wr h3 (Or.inl (by decide)) (fun _ h4 => fz_ix (fun _ => fz_wr h4 (Or.inl (by decide)) (fun _ h5 => fz_ix (fun _ => fz_wr h5 (Or.inl (by decide)) (fun _ h6 => fz_some h6))))))))))))
theorem xrX11_givesAll_11_n   : ∀ (n : Nat) {s : wt_S} {y0 : Int32} {y1 : Int32}, FX 110 10 5 x1 x2 s → FZ 110 10 5 x1 x2 (gX11_givesAll_11  n s y0 y1) := by
  intro n
  induction n with
  | zero => exact fun _ => fz_none
  | succ n ih =>
    intro s y0 y1 h
    unfold gX11_givesAll_11
    exact fz_if (fz_ix (fun _ => fz_if (xrX11_givesAll_74 h) (fz_ix (fun _ => fz_ix (fun _ => fz_wr h (Or.inl (by decide)) (fun _ h1 => xrX11_givesAll_74 h1)))))) (fz_ix (fun _ => fz_if (ih h) (fz_cl (xrX11_gives h) (fun _ _ h1 => ih h1))))
theorem xrX11_givesAll_11  {n : Nat} {s : wt_S} {y0 : Int32} {y1 : Int32} (h : FX 110 10 5 x1 x2 s)  : FZ 110 10 5 x1 x2 (gX11_givesAll_11  n s y0 y1) := xrX11_givesAll_11_n  n h
theorem xrX11_givesAll {i1 : Int32} (h : FX 110 10 5 x1 x2 s)  : FZ 110 10 5 x1 x2 (gX11_givesAll s i1) := by
  unfold gX11_givesAll
  exact xrX11_givesAll_11 h
theorem xrX11_isOut {i1 : Int32} (h : FX 110 10 5 x1 x2 s)  : FZ 110 10 5 x1 x2 (gX11_isOut s i1) := by
  unfold gX11_isOut
  exact fz_cl (xrX11_givesAll h) (fun _ _ h1 => fz_ix (fun _ => fz_wr h1 (Or.inl (by decide)) (fun _ h2 => fz_cl (xrX11_counts h2) (fun _ _ h3 => fz_cl (xrX11_logs h3) (fun _ _ h4 => fz_some h4)))))
theorem xrX11_lays {i1 : Int32} {i2 : Int32} (h : FX 110 10 5 x1 x2 s)  : FZ 110 10 5 x1 x2 (gX11_lays s i1 i2) := by
  unfold gX11_lays
  exact fz_if (fz_ix (fun _ => fz_wr h (Or.inl (by decide)) (fun _ h1 => fz_some h1))) (fz_ix (fun _ => fz_wr h (Or.inl (by decide)) (fun _ h1 => fz_some h1)))
theorem xrX11_calls_231 {K185 : wt_S → Int32 → Int32 → Int32 → Int32 → Int32 → Int32 → Option (Unit × wt_S)} {l1 : Int32} {l2 : Int32} {l7 : Int32} {l8 : Int32} {l9 : Int32} {l10 : Int32} {z1 : Int32} {z2 : Int32} (h : FX 110 10 5 x1 x2 s) (hK185 : ∀ s1 a0 a1 a2 a3 a4 a5, FX 110 10 5 x1 x2 s1 → FZ 110 10 5 x1 x2 (K185 s1 a0 a1 a2 a3 a4 a5)) : FZ 110 10 5 x1 x2 (gX11_calls_231 K185 s l1 l2 l7 l8 l9 l10 z1 z2) := by
  unfold gX11_calls_231
  exact fz_cl (xrX11_lays h) (fun _ _ h1 => hK185 _ _ _ _ _ _ _ h1)
theorem xrX11_calls_269 {l1 : Int32} {l2 : Int32} {l7 : Int32} (h : FX 110 10 5 x1 x2 s)  : FZ 110 10 5 x1 x2 (gX11_calls_269 s l1 l2 l7) := by
  unfold gX11_calls_269
  exact fz_ix (fun _ => fz_wr h (Or.inl (by decide)) (fun _ h1 => fz_ix (fun _ => fz_wr h1 (Or.inl (by decide)) (fun _ h2 => fz_ix (fun _ => fz_wr h2 (Or.inl (by decide)) (fun _ h3 => fz_ix (fun _ => fz_ix (fun _ => fz_wr h3 (Or.inl (by decide)) (fun _ h4 => fz_ix (fun _ => fz_cl (xrX11_frameOf h4) (fun _ _ h5 => fz_ix (fun _ => fz_wr h5 (Or.inl (by decide)) (fun _ h6 => fz_ix (fun _ => fz_ix (fun _ => fz_if (fz_some h6) (fz_ix (fun _ => fz_ix (fun _ => fz_wr h6 (Or.inl (by decide)) (fun _ h7 => fz_some h7)))))))))))))))))))
theorem xrX11_calls_185_n   : ∀ (n : Nat) {s : wt_S} {y0 : Int32} {y1 : Int32} {y2 : Int32} {y3 : Int32} {y4 : Int32} {y5 : Int32}, FX 110 10 5 x1 x2 s → FZ 110 10 5 x1 x2 (gX11_calls_185  n s y0 y1 y2 y3 y4 y5) := by
  intro n
  induction n with
  | zero => exact fun _ => fz_none
  | succ n ih =>
    intro s y0 y1 y2 y3 y4 y5 h
    unfold gX11_calls_185
    exact fz_ix (fun _ => fz_if (fz_ix (fun _ => fz_cl (xrX11_has h) (fun _ _ h1 => fz_if (xrX11_calls_269 h1) (fz_cl (xrX11_lays h1) (fun _ _ h2 => xrX11_calls_269 h2))))) (fz_ix (fun _ => fz_cl (xrX11_has h) (fun _ _ h1 => fz_if (xrX11_calls_231 h1 (fun _ _ _ _ _ _ _ h9 => ih h9)) (xrX11_calls_231 h1 (fun _ _ _ _ _ _ _ h9 => ih h9))))))
theorem xrX11_calls_185  {n : Nat} {s : wt_S} {y0 : Int32} {y1 : Int32} {y2 : Int32} {y3 : Int32} {y4 : Int32} {y5 : Int32} (h : FX 110 10 5 x1 x2 s)  : FZ 110 10 5 x1 x2 (gX11_calls_185  n s y0 y1 y2 y3 y4 y5) := xrX11_calls_185_n  n h
theorem xrX11_calls_178 {l1 : Int32} {l2 : Int32} {l7 : Int32} {l8 : Int32} {l9 : Int32} {z1 : Int32} {z2 : Int32} {z3 : Int32} (h : FX 110 10 5 x1 x2 s)  : FZ 110 10 5 x1 x2 (gX11_calls_178 s l1 l2 l7 l8 l9 z1 z2 z3) := by
  unfold gX11_calls_178
  exact fz_cl (xrX11_lays h) (fun _ _ h1 => xrX11_calls_185 h1)
theorem xrX11_calls_171 {l1 : Int32} {l2 : Int32} {l7 : Int32} {l8 : Int32} {l9 : Int32} {z1 : Int32} {z2 : Int32} (h : FX 110 10 5 x1 x2 s)  : FZ 110 10 5 x1 x2 (gX11_calls_171 s l1 l2 l7 l8 l9 z1 z2) := by
  unfold gX11_calls_171
  exact xrX11_calls_178 h
theorem xrX11_calls_149 {l1 : Int32} {l2 : Int32} {l3 : Int32} {l6 : Int32} {l7 : Int32} {l8 : Int32} {l9 : Int32} {z1 : Int32} {z2 : Int32} (h : FX 110 10 5 x1 x2 s)  : FZ 110 10 5 x1 x2 (gX11_calls_149 s l1 l2 l3 l6 l7 l8 l9 z1 z2) := by
  unfold gX11_calls_149
  exact fz_cl (xrX11_lays h) (fun _ _ h1 => fz_if (xrX11_calls_171 h1) (fz_cl (xrX11_isMerged h1) (fun _ _ h2 => fz_if (xrX11_calls_178 h2) (xrX11_calls_171 h2))))
theorem xrX11_calls_117 {l1 : Int32} {l2 : Int32} {l3 : Int32} {l6 : Int32} {l7 : Int32} {l8 : Int32} {z0 : Int32} (h : FX 110 10 5 x1 x2 s)  : FZ 110 10 5 x1 x2 (gX11_calls_117 s l1 l2 l3 l6 l7 l8 z0) := by
  unfold gX11_calls_117
  exact fz_ix (fun _ => fz_if (fz_ix (fun _ => xrX11_calls_149 h)) (xrX11_calls_149 h))
theorem xrX11_calls_85 {l1 : Int32} {l2 : Int32} {l3 : Int32} {l4 : Int32} {l5 : Int32} {l6 : Int32} {l7 : Int32} {z0 : Int32} (h : FX 110 10 5 x1 x2 s)  : FZ 110 10 5 x1 x2 (gX11_calls_85 s l1 l2 l3 l4 l5 l6 l7 z0) := by
  unfold gX11_calls_85
  exact fz_if (fz_ix (fun _ => fz_cl (xrX11_word h) (fun _ _ h1 => xrX11_calls_117 h1))) (xrX11_calls_117 h)
theorem xrX11_calls_84 {l1 : Int32} {l2 : Int32} {l3 : Int32} {l4 : Int32} {l5 : Int32} {l6 : Int32} {l7 : Int32} (h : FX 110 10 5 x1 x2 s)  : FZ 110 10 5 x1 x2 (gX11_calls_84 s l1 l2 l3 l4 l5 l6 l7) := by
  unfold gX11_calls_84
  exact xrX11_calls_85 h
theorem xrX11_calls_40 {l1 : Int32} {l2 : Int32} {l3 : Int32} {l4 : Int32} {l5 : Int32} {l6 : Int32} {l7 : Int32} (h : FX 110 10 5 x1 x2 s)  : FZ 110 10 5 x1 x2 (gX11_calls_40 s l1 l2 l3 l4 l5 l6 l7) := by
  unfold gX11_calls_40
  exact fz_if (fz_if (xrX11_calls_84 h) (fz_ix (fun _ => fz_ix (fun _ => fz_cl (xrX11_has h) (fun _ _ h1 => fz_if (xrX11_calls_84 h1) (xrX11_calls_85 h1)))))) (fz_some h)
theorem xrX11_calls_26 {l1 : Int32} {l2 : Int32} {l3 : Int32} {l4 : Int32} {l5 : Int32} {l6 : Int32} {z0 : Int32} (h : FX 110 10 5 x1 x2 s)  : FZ 110 10 5 x1 x2 (gX11_calls_26 s l1 l2 l3 l4 l5 l6 z0) := by
  unfold gX11_calls_26
  exact fz_if (xrX11_calls_40 h) (fz_cl (xrX11_counts h) (fun _ _ h1 => xrX11_calls_40 h1))
theorem xrX11_calls {i1 : Int32} {i2 : Int32} {i3 : Int32} {i4 : Int32} {i5 : Int32} (h : FX 110 10 5 x1 x2 s) (hR : ∀ {s1 : wt_S} {a0 a1 : Int32}, FX 110 10 5 x1 x2 s1 → FZ 110 10 5 x1 x2 (gX11_roomFor s1 a0 a1)) : FZ 110 10 5 x1 x2 (gX11_calls s i1 i2 i3 i4 i5) := by
  unfold gX11_calls
  exact fz_cl (xrX11_isCovered h) (fun _ _ h1 => fz_if (fz_cl (hR h1) (fun _ _ h2 => xrX11_calls_26 h2)) (fz_cl (xrX11_topOf h1) (fun _ _ h2 => xrX11_calls_26 h2)))
theorem xrX11_isBusy {i1 : Int32} (h : FX 110 10 5 x1 x2 s)  : FZ 110 10 5 x1 x2 (gX11_isBusy s i1) := by
  unfold gX11_isBusy
  exact fz_ix (fun _ => fz_if (fz_some h) (fz_ix (fun _ => fz_if (fz_some h) (fz_some h))))
theorem xrX11_isDone {D : wt_S → Int32 → Int32 → Option (Int32 × wt_S)} {i1 : Int32} {i2 : Int32} (h : FX 110 10 5 x1 x2 s) (hD : ∀ s1 a0 a1, FX 110 10 5 x1 x2 s1 → FZ 110 10 5 x1 x2 (D s1 a0 a1)) : FZ 110 10 5 x1 x2 (gX11_isDone D s i1 i2) := by
  unfold gX11_isDone
  exact fz_ix (fun _ => fz_wr h (Or.inl (by decide)) (fun _ h1 => fz_ix (fun _ => fz_wr h1 (Or.inl (by decide)) (fun _ h2 => fz_if (fz_cl (xrX11_givesAll h2) (fun _ _ h3 => fz_cl (xrX11_counts h3) (fun _ _ h4 => fz_cl (xrX11_logs h4) (fun _ _ h5 => fz_ix (fun _ => fz_ix (fun _ => fz_cl (hD _ _ _ h5) (fun _ _ h6 => fz_if (fz_some h6) (fz_if (fz_some h6) (fz_wr h6 (Or.inl (by decide)) (fun _ h7 => fz_some h7)))))))))) (fz_some h2)))))
theorem xrX11_pieceAt_2_n   : ∀ (n : Nat) {s : wt_S} {y0 : Int32} {y1 : Int32}, FX 110 10 5 x1 x2 s → FZ 110 10 5 x1 x2 (gX11_pieceAt_2  n s y0 y1) := by
  intro n
  induction n with
  | zero => exact fun _ => fz_none
  | succ n ih =>
    intro s y0 y1 h
    unfold gX11_pieceAt_2
    exact fz_if (fz_some h) (fz_ix (fun _ => fz_ix (fun _ => fz_ix (fun _ => fz_cl (xrX11_isIn h) (fun _ _ h1 => fz_if (ih h1) (fz_some h1))))))
theorem xrX11_pieceAt_2  {n : Nat} {s : wt_S} {y0 : Int32} {y1 : Int32} (h : FX 110 10 5 x1 x2 s)  : FZ 110 10 5 x1 x2 (gX11_pieceAt_2  n s y0 y1) := xrX11_pieceAt_2_n  n h
theorem xrX11_pieceAt {i1 : Int32} (h : FX 110 10 5 x1 x2 s)  : FZ 110 10 5 x1 x2 (gX11_pieceAt s i1) := by
  unfold gX11_pieceAt
  exact xrX11_pieceAt_2 h
theorem xrX11_leaves {i1 : Int32} {i2 : Int32} (h : FX 110 10 5 x1 x2 s)  : FZ 110 10 5 x1 x2 (gX11_leaves s i1 i2) := by
  unfold gX11_leaves
  exact fz_cl (xrX11_lastPiece h) (fun _ _ h1 => fz_ix (fun _ => fz_if (fz_some h1) (fz_ix (fun _ => fz_if (fz_ix (fun _ => fz_ix (fun _ => fz_wr h1 (Or.inl (by decide)) (fun _ h2 => fz_if (fz_ix (fun _ => fz_wr h2 (Or.inl (by decide)) (fun _ h3 => fz_cl (xrX11_givesSpare h3) (fun _ _ h4 => fz_cl (xrX11_pieceAt h4) (fun _ _ h5 => fz_ix (fun _ => fz_wr h5 (Or.inl (by decide)) (fun _ h6 => fz_ix (fun _ => fz_cl (xrX11_logs h6) (fun _ _ h7 => fz_some h7))))))))) (fz_ix (fun _ => fz_cl (xrX11_logs h2) (fun _ _ h3 => fz_cl (xrX11_gives h3) (fun _ _ h4 => fz_some h4)))))))) (fz_some h1)))))
theorem xrX11_foreignOver {i1 : Int32} {i2 : Int32} (h : FX 110 10 5 x1 x2 s)  : FZ 110 10 5 x1 x2 (gX11_foreignOver s i1 i2) := by
  unfold gX11_foreignOver
  exact fz_cl (xrX11_counts h) (fun _ _ h1 => fz_if (fz_ix (fun _ => fz_ix (fun _ => fz_wr h1 (Or.inl (by decide)) (fun _ h2 => fz_ix (fun _ => fz_if (fz_ix (fun _ => fz_ix (fun _ => fz_wr h2 (Or.inl (by decide)) (fun _ h3 => fz_ix (fun _ => fz_wr h3 (Or.inl (by decide)) (fun _ h4 => fz_some h4)))))) (fz_some h2)))))) (fz_some h1))
theorem xrX11_returns_108 {D : wt_S → Int32 → Int32 → Option (Int32 × wt_S)} {l1 : Int32} {l2 : Int32} {l4 : Int32} {l5 : Int32} (h : FX 110 10 5 x1 x2 s) (hD : ∀ s1 a0 a1, FX 110 10 5 x1 x2 s1 → FZ 110 10 5 x1 x2 (D s1 a0 a1)) : FZ 110 10 5 x1 x2 (gX11_returns_108 D s l1 l2 l4 l5) := by
  unfold gX11_returns_108
  exact fz_ix (fun _ => fz_wr h (Or.inl (by decide)) (fun _ h1 => fz_ix (fun _ => fz_wr h1 (Or.inl (by decide)) (fun _ h2 => fz_ix (fun _ => fz_wr h2 (Or.inl (by decide)) (fun _ h3 => fz_ix (fun _ => fz_ix (fun _ => fz_cl (xrX11_codeAt h3) (fun _ _ h4 => fz_ix (fun _ => fz_cl (xrX11_lays h4) (fun _ _ h5 => fz_if (fz_some h5) (fz_ix (fun _ => fz_cl (xrX11_foreignOver h5) (fun _ _ h6 => fz_some h6))))))))))))))
theorem xrX11_returns {D : wt_S → Int32 → Int32 → Option (Int32 × wt_S)} {i1 : Int32} {i2 : Int32} (h : FX 110 10 5 x1 x2 s) (hD : ∀ s1 a0 a1, FX 110 10 5 x1 x2 s1 → FZ 110 10 5 x1 x2 (D s1 a0 a1)) : FZ 110 10 5 x1 x2 (gX11_returns D s i1 i2) := by
  unfold gX11_returns
  exact fz_ix (fun _ => fz_cl (xrX11_word h) (fun _ _ h1 => fz_cl (xrX11_word h1) (fun _ _ h2 => fz_ix (fun _ => fz_ix (fun _ => fz_cl (xrX11_frameOf h2) (fun _ _ h3 => fz_ix (fun _ => fz_wr h3 (Or.inl (by decide)) (fun _ h4 => fz_ix (fun _ => fz_ix (fun _ => fz_wr h4 (Or.inl (by decide)) (fun _ h5 => fz_if (fz_if (xrX11_returns_108 h5 hD) (fz_ix (fun _ => fz_if (xrX11_returns_108 h5 hD) (fz_cl (xrX11_leaves h5) (fun _ _ h6 => xrX11_returns_108 h6 hD))))) (fz_cl (xrX11_isDone h5 hD) (fun _ _ h6 => fz_some h6)))))))))))))
theorem xrX11_freeSide_2_n   : ∀ (n : Nat) {s : wt_S} {y0 : Int32}, FX 110 10 5 x1 x2 s → FZ 110 10 5 x1 x2 (gX11_freeSide_2  n s y0) := by
  intro n
  induction n with
  | zero => exact fun _ => fz_none
  | succ n ih =>
    intro s y0 h
    unfold gX11_freeSide_2
    exact fz_if (fz_some h) (fz_ix (fun _ => fz_if (ih h) (fz_some h)))
theorem xrX11_freeSide_2  {n : Nat} {s : wt_S} {y0 : Int32} (h : FX 110 10 5 x1 x2 s)  : FZ 110 10 5 x1 x2 (gX11_freeSide_2  n s y0) := xrX11_freeSide_2_n  n h
theorem xrX11_freeSide  (h : FX 110 10 5 x1 x2 s)  : FZ 110 10 5 x1 x2 (gX11_freeSide s) := by
  unfold gX11_freeSide
  exact xrX11_freeSide_2 h
theorem xrX11_hasSide_89 {l1 : Int32} {l2 : Int32} (h : FX 110 10 5 x1 x2 s)  : FZ 110 10 5 x1 x2 (gX11_hasSide_89 s l1 l2) := by
  unfold gX11_hasSide_89
  exact fz_ix (fun _ => fz_wr h (Or.inl (by decide)) (fun _ h1 => fz_ix (fun _ => fz_if (fz_ix (fun _ => fz_ix (fun _ => fz_wr h1 (Or.inl (by decide)) (fun _ h2 => fz_some h2)))) (fz_cl (xrX11_isOut h1) (fun _ _ h2 => fz_some h2)))))
theorem xrX11_hasSide {i1 : Int32} {i2 : Int32} (h : FX 110 10 5 x1 x2 s)  : FZ 110 10 5 x1 x2 (gX11_hasSide s i1 i2) := by
  unfold gX11_hasSide
  exact fz_if (fz_ix (fun _ => fz_if (xrX11_hasSide_89 h) (fz_cl (xrX11_freeSide h) (fun _ _ h1 => fz_if (fz_ix (fun _ => fz_wr h1 (Or.inl (by decide)) (fun _ h2 => fz_ix (fun _ => fz_wr h2 (Or.inl (by decide)) (fun _ h3 => xrX11_hasSide_89 h3))))) (fz_ix (fun _ => fz_wr h1 (Or.inl (by decide)) (fun _ h2 => fz_ix (fun _ => fz_ix (fun _ => fz_wr h2 (Or.inl (by decide)) (fun _ h3 => fz_cl (xrX11_counts h3) (fun _ _ h4 => fz_some h4))))))))))) (fz_some h)
theorem xrX11_foreign {i1 : Int32} {i2 : Int32} {i3 : Int32} {i4 : Int32} (h : FX 110 10 5 x1 x2 s) (hR : ∀ {s1 : wt_S} {a0 a1 : Int32}, FX 110 10 5 x1 x2 s1 → FZ 110 10 5 x1 x2 (gX11_roomFor s1 a0 a1)) : FZ 110 10 5 x1 x2 (gX11_foreign s i1 i2 i3 i4) := by
  unfold gX11_foreign
  exact fz_cl (xrX11_hasSide h) (fun _ _ h1 => fz_if (fz_ix (fun _ => fz_cl (xrX11_isTold h1) (fun _ _ h2 => fz_if (fz_cl (xrX11_word h2) (fun _ _ h3 => fz_cl (xrX11_lays h3) (fun _ _ h4 => fz_cl (xrX11_foreignOver h4) (fun _ _ h5 => fz_some h5)))) (fz_ix (fun _ => fz_ix (fun _ => fz_cl (xrX11_calls h2 hR) (fun _ _ h3 => fz_some h3))))))) (fz_some h1))
theorem xrX11_keptOf_30 {z0 : Int32} {z1 : Int32} (h : FX 110 10 5 x1 x2 s)  : FZ 110 10 5 x1 x2 (gX11_keptOf_30 s z0 z1) := by
  unfold gX11_keptOf_30
  exact fz_some h
theorem xrX11_keptOf {i1 : Int32} (h : FX 110 10 5 x1 x2 s)  : FZ 110 10 5 x1 x2 (gX11_keptOf s i1) := by
  unfold gX11_keptOf
  exact fz_ix (fun _ => fz_cl (xrX11_isCovered h) (fun _ _ h1 => fz_if (xrX11_keptOf_30 h1) (xrX11_keptOf_30 h1)))
theorem xrX11_quiets {i1 : Int32} (h : FX 110 10 5 x1 x2 s)  : FZ 110 10 5 x1 x2 (gX11_quiets s i1) := by
  unfold gX11_quiets
  exact fz_if (fz_ix (fun _ => fz_if (fz_cl (xrX11_pieceOf h) (fun _ _ h1 => fz_ix (fun _ => fz_cl (xrX11_keptOf h1) (fun _ _ h2 => fz_if (fz_some h2) (fz_if (fz_some h2) (fz_cl (xrX11_moves h2) (fun _ _ h3 => fz_if (fz_ix (fun _ => fz_ix (fun _ => fz_wr h3 (Or.inl (by decide)) (fun _ h4 => fz_cl (xrX11_counts h4) (fun _ _ h5 => fz_cl (xrX11_pieceOf h5) (fun _ _ h6 => fz_ix (fun _ => fz_cl (xrX11_logs h6) (fun _ _ h7 => fz_some h7)))))))) (fz_some h3)))))))) (fz_cl (xrX11_givesSpare h) (fun _ _ h1 => fz_rz (fz_some h1))))) (fz_some h)
theorem xrX11_steps_269 {D : wt_S → Int32 → Int32 → Option (Int32 × wt_S)} {z1 : Int32} {z2 : Int32} (h : FX 110 10 5 x1 x2 s) (hD : ∀ s1 a0 a1, FX 110 10 5 x1 x2 s1 → FZ 110 10 5 x1 x2 (D s1 a0 a1)) : FZ 110 10 5 x1 x2 (gX11_steps_269 D s z1 z2) := by
  unfold gX11_steps_269
  exact fz_cl (xrX11_lays h) (fun _ _ h1 => fz_some h1)
theorem xrX11_steps_328 {D : wt_S → Int32 → Int32 → Option (Int32 × wt_S)} {z1 : Int32} {z2 : Int32} (h : FX 110 10 5 x1 x2 s) (hD : ∀ s1 a0 a1, FX 110 10 5 x1 x2 s1 → FZ 110 10 5 x1 x2 (D s1 a0 a1)) : FZ 110 10 5 x1 x2 (gX11_steps_328 D s z1 z2) := by
  unfold gX11_steps_328
  exact fz_cl (xrX11_lays h) (fun _ _ h1 => fz_some h1)
theorem xrX11_steps {D : wt_S → Int32 → Int32 → Option (Int32 × wt_S)} {i1 : Int32} (h : FX 110 10 5 x1 x2 s) (hD : ∀ s1 a0 a1, FX 110 10 5 x1 x2 s1 → FZ 110 10 5 x1 x2 (D s1 a0 a1)) (hR : ∀ {s1 : wt_S} {a0 a1 : Int32}, FX 110 10 5 x1 x2 s1 → FZ 110 10 5 x1 x2 (gX11_roomFor s1 a0 a1)) : FZ 110 10 5 x1 x2 (gX11_steps D s i1) := by
  unfold gX11_steps
  exact fz_ix (fun _ => fz_ix (fun _ => fz_ix (fun _ => fz_ix (fun _ => fz_wr h (Or.inl (by decide)) (fun _ h1 => fz_cl (xrX11_counts h1) (fun _ _ h2 => fz_ix (fun _ => fz_if (fz_cl (xrX11_codeAt h2) (fun _ _ h3 => fz_ix (fun _ => fz_ix (fun _ => fz_ix (fun _ => fz_ix (fun _ => fz_ix (fun _ => fz_ix (fun _ => fz_wr h3 (Or.inl (by decide)) (fun _ h4 => fz_ix (fun _ => fz_if (fz_cl (xrX11_quiets h4) (fun _ _ h5 => fz_some h5)) (fz_if (fz_cl (xrX11_lays h4) (fun _ _ h5 => fz_some h5)) (fz_if (fz_cl (xrX11_word h4) (fun _ _ h5 => fz_cl (xrX11_word h5) (fun _ _ h6 => fz_cl (xrX11_lays h6) (fun _ _ h7 => fz_some h7)))) (fz_if (fz_cl (xrX11_word h4) (fun _ _ h5 => fz_cl (xrX11_word h5) (fun _ _ h6 => fz_if (xrX11_steps_269 h6 hD) (xrX11_steps_269 h6 hD)))) (fz_if (fz_cl (xrX11_lays h4) (fun _ _ h5 => fz_some h5)) (fz_if (fz_cl (xrX11_word h4) (fun _ _ h5 => fz_if (fz_cl (xrX11_word h5) (fun _ _ h6 => fz_cl (xrX11_word h6) (fun _ _ h7 => xrX11_steps_328 h7 hD))) (xrX11_steps_328 h5 hD))) (fz_if (fz_cl (xrX11_word h4) (fun _ _ h5 => fz_if (fz_some h5) (fz_cl (xrX11_word h5) (fun _ _ h6 => fz_cl (xrX11_word h6) (fun _ _ h7 => fz_cl (xrX11_lays h7) (fun _ _ h8 => fz_some h8)))))) (fz_if (fz_cl (xrX11_isTold h4) (fun _ _ h5 => fz_if (fz_cl (xrX11_lays h5) (fun _ _ h6 => fz_some h6)) (fz_cl (xrX11_calls h5 hR) (fun _ _ h6 => fz_some h6)))) (fz_if (fz_cl (xrX11_word h4) (fun _ _ h5 => fz_if (fz_some h5) (fz_ix (fun _ => fz_wr h5 (Or.inl (by decide)) (fun _ h6 => fz_some h6))))) (fz_if (fz_cl (xrX11_word h4) (fun _ _ h5 => fz_cl (xrX11_returns h5 hD) (fun _ _ h6 => fz_some h6))) (fz_if (fz_cl (xrX11_foreign h4 hR) (fun _ _ h5 => fz_some h5)) (fz_none))))))))))))))))))))) (fz_cl (xrX11_returns h2 hD) (fun _ _ h3 => fz_some h3)))))))))
theorem xrX11_wordsOf_45 {K4 : wt_S → Int32 → Int32 → Int32 → Option (Int32 × wt_S)} {l1 : Int32} {l3 : Int32} {z0 : Int32} {z1 : Int32} (h : FX 110 10 5 x1 x2 s) (hK4 : ∀ s1 a0 a1 a2, FX 110 10 5 x1 x2 s1 → FZ 110 10 5 x1 x2 (K4 s1 a0 a1 a2)) : FZ 110 10 5 x1 x2 (gX11_wordsOf_45 K4 s l1 l3 z0 z1) := by
  unfold gX11_wordsOf_45
  exact hK4 _ _ _ _ h
theorem xrX11_wordsOf_4_n   : ∀ (n : Nat) {s : wt_S} {y0 : Int32} {y1 : Int32} {y2 : Int32}, FX 110 10 5 x1 x2 s → FZ 110 10 5 x1 x2 (gX11_wordsOf_4  n s y0 y1 y2) := by
  intro n
  induction n with
  | zero => exact fun _ => fz_none
  | succ n ih =>
    intro s y0 y1 y2 h
    unfold gX11_wordsOf_4
    exact fz_if (fz_some h) (fz_ix (fun _ => fz_if (xrX11_wordsOf_45 h (fun _ _ _ _ h9 => ih h9)) (fz_ix (fun _ => xrX11_wordsOf_45 h (fun _ _ _ _ h9 => ih h9)))))
theorem xrX11_wordsOf_4  {n : Nat} {s : wt_S} {y0 : Int32} {y1 : Int32} {y2 : Int32} (h : FX 110 10 5 x1 x2 s)  : FZ 110 10 5 x1 x2 (gX11_wordsOf_4  n s y0 y1 y2) := xrX11_wordsOf_4_n  n h
theorem xrX11_wordsOf {i1 : Int32} (h : FX 110 10 5 x1 x2 s)  : FZ 110 10 5 x1 x2 (gX11_wordsOf s i1) := by
  unfold gX11_wordsOf
  exact xrX11_wordsOf_4 h
end
end
section
/-! ===== the reference: whether a step makes it grow (parts made out of 52.room, 64.step2 by wip/p2/mk_g3.py) ===== -/
/-- what a call wants that is checked -/
def swc (V : vV) (f : Nat) : Nat := if vlc V 0 = true then 0 else vuse V 0 + vnd V.1 f
/-- where a line is done: the step is counted, the line goes on -/
def vs3 (V : vV) : vV := vs (vcn (vinc V (3947 + 0)) 2 1) (3968 + 0) ((vcn (vinc V (3947 + 0)) 2 1).1 (3968 + 0) + 1)
/-- what a step wants that is checked -/
def sw (V : vV) : Nat := if (V.1 (3968 + 0)).toInt.toNat < vli V.1 (vlf V 0).1 then
  (if V.1 (vco (vlf V 0).1 (V.1 (3968 + 0)).toInt.toNat) = 6 then (if tld V.1 (V.1 (vco (vlf V 0).1 (V.1 (3968 + 0)).toInt.toNat + 1)) then swc V (V.1 (vco (vlf V 0).1 (V.1 (3968 + 0)).toInt.toNat + 1)).toInt.toNat else 0)
  else if V.1 (vco (vlf V 0).1 (V.1 (3968 + 0)).toInt.toNat) = 9 then (if (vhs (vs3 V) 0 (V.1 (vco (vlf V 0).1 (V.1 (3968 + 0)).toInt.toNat + 1))).1 = true ∧ tld V.1 (V.1 (vco (vlf V 0).1 (V.1 (3968 + 0)).toInt.toNat + 2)) then swc V (V.1 (vco (vlf V 0).1 (V.1 (3968 + 0)).toInt.toNat + 2)).toInt.toNat else 0)
  else 0) else 0
theorem fz_ifn {α : Type} {c k1 k2 : Nat} {x1 x2 : Int32} {p : Prop} [Decidable p] {x y : Option (α × wt_S)} (hp : ¬ p) (h2 : FZ c k1 k2 x1 x2 y) : FZ c k1 k2 x1 x2 (if p then x else y) := by
  rw [if_neg hp]
  exact h2
section
variable {s : wt_S} {V : vV} {t np z k : Nat} {x1 : Int32}
/-- room, where it has grown before -/
theorem xr_roomM {a b : Int32} (h : FX 110 10 5 1 0 s) : FZ 110 10 5 1 0 (gX11_roomFor s a b) := by
  unfold gX11_roomFor
  exact fz_cl (xrX11_topOf h) (fun _ _ h1 => fz_ix (fun _ => fz_ix (fun _ => fz_wr h1 (Or.inl (by decide)) (fun _ h2 => fz_cl (xrX11_counts h2) (fun _ _ h3 => fz_if (fz_cl (xrX11_lastPiece h3) (fun _ _ h4 => fz_ix (fun _ => fz_ix (fun _ => fz_cl (xrX11_needOf h4) (fun _ _ h5 => fz_if (fz_cl (xrX11_needOf h5) (fun _ _ h6 => fz_cl (xrX11_grows h6.2) (fun _ _ h7 => fz_if (fz_ix (fun _ => fz_if (fz_cl (xrX11_lastPiece h7) (fun _ _ h8 => fz_ix (fun _ => fz_some h8))) (fz_cl (xrX11_topOf h7) (fun _ _ h8 => fz_some h8)))) (fz_cl (xrX11_isOut h7) (fun _ _ h8 => fz_some h8))))) (fz_some h5)))))) (fz_some h3))))))
/-- room, on the endless stack -/
theorem xr_roomE {a b : Int32} (h : FX 110 10 5 x1 1 s) : FZ 110 10 5 x1 1 (gX11_roomFor s a b) := by
  unfold gX11_roomFor
  exact fz_cl (xrX11_topOf h) (fun _ _ h1 => fz_ix (fun _ => fz_ix (fun _ => fz_wr h1 (Or.inl (by decide)) (fun _ h2 => fz_cl (xrX11_counts h2) (fun _ _ h3 => fz_ifn (by rw [h3.2]; decide) (fz_some h3))))))
theorem xr_38 : ∀ (n : Nat) {s : wt_S} {l4 : Int32}, FX 110 10 5 x1 1 s → FZ 110 10 5 x1 0 (gX11_runsEndless_38 n s 0 l4) := by
  have h67 : ∀ {s : wt_S}, FX 110 10 5 x1 1 s → FZ 110 10 5 x1 0 (gX11_runsEndless_67 s 0) := fun {s} h => by
    have h1 : FX 110 10 5 x1 0 (wt_u s 110 5 0) := ⟨by rw [wt_u_nk (by decide)]; exact h.1, wt_u_self⟩
    unfold gX11_runsEndless_67
    rw [wr_eq]
    exact fz_rz (fz_if (fz_some h1) (fz_some h1))
  intro n
  induction n with
  | zero => exact fun _ => fz_none
  | succ n ih =>
    intro s l4 h
    unfold gX11_runsEndless_38
    refine fz_if (h67 h) ?_
    intro r s' e
    cases e1 : gX11_isBusy s 6 with
    | none => rw [e1] at e; cases e
    | some p =>
      obtain ⟨v, s1⟩ := p
      have h1 : FX 110 10 5 x1 1 s1 := xrX11_isBusy h _ _ e1
      rw [e1, cl_some] at e
      by_cases c : v = 0
      · rw [if_pos c] at e
        exact h67 h1 _ _ e
      · rw [if_neg c] at e
        cases e2 : gX11_steps (fun _ _ _ => none) s1 6 with
        | none => rw [e2] at e; cases e
        | some p =>
          obtain ⟨v2, s2⟩ := p
          have h2 : FX 110 10 5 x1 1 s2 := xrX11_steps h1 (fun _ _ _ _ => fz_none) (fun h9 => xr_roomE h9) _ _ e2
          rw [e2, cl_some] at e
          exact ih h2 _ _ e
theorem xr_endless {a b : Int32} (h : FX 110 10 5 x1 0 s) : FZ 110 10 5 x1 0 (gX11_runsEndless s a b) := by
  intro r s' e
  unfold gX11_runsEndless at e
  rw [wr_eq, h.2] at e
  have h1 : FX 110 10 5 x1 1 (wt_u s 110 5 1) := ⟨by rw [wt_u_nk (by decide)]; exact h.1, wt_u_self⟩
  generalize wt_u s 110 5 1 = S1 at *
  cases e1 : gX11_clears S1 6 with
  | none => rw [e1] at e; cases e
  | some p =>
    obtain ⟨v, s1⟩ := p
    have h2 : FX 110 10 5 x1 1 s1 := xrX11_clears h1 _ _ e1
    rw [e1, cl_some, wr_eq] at e
    have h3 : FX 110 10 5 x1 1 (wt_u s1 111 3932 1) := fx_u h2 (Or.inl (by decide))
    generalize wt_u s1 111 3932 1 = S2 at *
    cases e2 : gX11_calls S2 6 a 0 (-1) b with
    | none => rw [e2] at e; cases e
    | some p =>
      obtain ⟨v2, s2⟩ := p
      have h4 : FX 110 10 5 x1 1 s2 := xrX11_calls h3 (fun h9 => xr_roomE h9) _ _ e2
      rw [e2, cl_some] at e
      exact xr_38 wt_N h4 _ _ e
/-- a step, where it has grown before -/
theorem xr_stepM {a : Int32} (h : FX 110 10 5 1 0 s) : FZ 110 10 5 1 0 (gX11_steps gX11_runsEndless s a) := xrX11_steps h (fun _ _ _ h9 => xr_endless h9) (fun h9 => xr_roomM h9)
/-- room: whether it grows -/
theorem xr_room {f z2 : Nat} (h : RS s V) (hP : Vpre 2048 V t np z) (hf : f < 10) (hr : V.1 2051 = nI z2) (hz2 : z2 ≤ 80) (hx : s 110 10 = x1) : FZ 110 10 5 (if vtop V t + vnd V.1 f ≤ vend V t then x1 else 1) 0 (gX11_roomFor s (nI t) (nI f)) := by
  obtain ⟨hj, hc, ht, hz, h8, hzl, hl, hl2, hq⟩ := hP
  have hnd := q_need h hj.1 hf hr hz2
  have hsz := hj.1.sz hf
  have a1 := q_inc (i := 4003 + t) h (vtt (by omega) ht) (Or.inr (by omega))
  obtain ⟨b1, b2⟩ := q_cnt (c := 3) (v := 1) a1 (by omega)
  have hP1 : Vpre 2048 (vcn (vinc V (4003 + t)) 3 1) t np z := Vpre.vs (V := vinc V (4003 + t)) (Vpre.vs ⟨hj, hc, ht, hz, h8, hzl, hl, hl2, hq⟩ (by omega) (by omega)) (by omega) (by omega)
  have hw1 : vpe V.1 (vcn (vinc V (4003 + t)) 3 1).1 := (vpe.upd (by omega)).trans (vpe.upd (by omega))
  obtain ⟨x, q, l1, l2, l3, l4, l5, l6⟩ := q_lastPiece' b2 hP1.1 hP1.2.1.n' ht
  have hqo := hj.2.1.2 q l6
  have hnp := vnp_of hc.2.1 hc.2.2.1.2
  obtain ⟨r1, r2, -, -⟩ := b2.2.2.1.2.2 x q l2
  have htop := hc.top
  have hud : vud V.1 (V.2.2.2 t) (np - 1) (V.2.2.1 t) ≤ q.2.1 := by
    by_cases c : V.2.2.1 t = 0
    · rw [c, vud]; omega
    · obtain ⟨g, p, -⟩ := hc.2.2.2.2.2.2.1 (by omega)
      have h1 := g.ud (V.2.2.1 t - 1) (by omega)
      have h2 := (g.1 (V.2.2.1 t - 1) (by omega)).2
      rw [p, show V.2.2.1 t - 1 + 1 = V.2.2.1 t by omega] at h1
      rw [p, show vln V.2.1 t (np - 1) = q.2.1 from l5] at h2
      omega
  have htv : vtop V t = q.1 + vud V.1 (V.2.2.2 t) (np - 1) (V.2.2.1 t) := by rw [htop, show vat V.2.1 t (np - 1) = q.1 from l4]
  have hnd1 := q_need b2 hP1.1.1 hf (z := z2) (by rw [vcn_ne (by omega), vinc_ne (by omega)]; exact hr) hz2
  rw [(hw1.mg hj.1 hf).2] at hnd1
  have hvend : vend V t = q.1 + q.2.1 := by unfold vend; rw [hnp, show vat V.2.1 t (np - 1) = q.1 from l4, show vln V.2.1 t (np - 1) = q.2.1 from l5]
  have hF1 : RF s (wt_u (wt_u s 111 (4003 + t) (s 111 (4003 + t) + 1)) 111 (2054 + 3) ((vinc V (4003 + t)).1 (2054 + 3) + 1)) := RF.trans (RF.uf (Or.inl rfl)) (RF.uf (Or.inl rfl))
  unfold gX11_roomFor
  rw [q_topOf h hj rfl hc ht, cl_some, li_add, ix_nI (by omega) (by omega), ix_nI (by omega) (by omega), wr_eq, show gX11_counts (wt_u s 111 (4003 + t) (s 111 (4003 + t) + 1)) 3 1 = _ from b1, cl_some, if_pos b2.1, l1, cl_some, li_add, ix_nI (by omega) (by omega), li_add, ix_nI (by omega) (by omega), hnd1.1, cl_some, r1, r2, nI_add, htv, nI_sub (by omega), nI_int (by omega), nI_int (by omega)]
  rw [hvend]
  have hX : FX 110 10 5 x1 0 (wt_u (wt_u s 111 (4003 + t) (s 111 (4003 + t) + 1)) 111 (2054 + 3) ((vinc V (4003 + t)).1 (2054 + 3) + 1)) := fx_u (fx_u ⟨hx, h.1⟩ (Or.inl (by decide))) (Or.inl (by decide))
  by_cases c : q.1 + vud V.1 (V.2.2.2 t) (np - 1) (V.2.2.1 t) + vnd V.1 f ≤ q.1 + q.2.1
  · rw [if_pos c, if_neg (by omega)]
    exact fz_some hX
  · rw [if_neg c, if_pos (by omega), hnd1.1, cl_some]
    exact fz_cl (xrX11_grows hX.2) (fun _ _ h7 => fz_if (fz_ix (fun _ => fz_if (fz_cl (xrX11_lastPiece h7) (fun _ _ h8 => fz_ix (fun _ => fz_some h8))) (fz_cl (xrX11_topOf h7) (fun _ _ h8 => fz_some h8)))) (fz_cl (xrX11_isOut h7) (fun _ _ h8 => fz_some h8)))
/-- a call: whether it grows -/
theorem xr_calls {f z2 : Nat} {bk sl nm : Int32} (h : RS s V) (hP : Vpre 2048 V t np z) (hf : f < 10) (hr : V.1 2051 = nI z2) (hz2 : z2 ≤ 80) (hx : s 110 10 = x1) : FZ 110 10 5 (if vlc V t = true ∨ vtop V t + vnd V.1 f ≤ vend V t then x1 else 1) 0 (gX11_calls s (nI t) (nI f) bk sl nm) := by
  have hP0 := hP
  obtain ⟨hj, hc, ht, -⟩ := hP
  unfold gX11_calls
  rw [q_isCovered h hj rfl hc ht, cl_some, if_rb]
  by_cases c : vlc V t = true
  · rw [if_pos c, if_pos (Or.inl c)]
    exact fz_cl (xrX11_topOf ⟨hx, h.1⟩) (fun _ _ h1 => xrX11_calls_26 h1)
  · have e : (if vlc V t = true ∨ vtop V t + vnd V.1 f ≤ vend V t then x1 else 1) = (if vtop V t + vnd V.1 f ≤ vend V t then x1 else 1) := by
      by_cases c2 : vtop V t + vnd V.1 f ≤ vend V t
      · rw [if_pos (Or.inr c2), if_pos c2]
      · rw [if_neg (fun q => q.elim c c2), if_neg c2]
    rw [if_neg c, e]
    exact fz_cl (xr_room h hP0 hf hr hz2 hx) (fun _ _ h1 => xrX11_calls_26 h1)
/-- a foreign call: whether it grows -/
theorem xr_foreign {z2 z3 : Nat} {words f sl : Int32} (h : RS s V) (hP : Vpre 2048 V t np z) (hr : V.1 2051 = nI z2) (hz2 : z2 ≤ 80) (h3 : V.1 2052 = nI z3) (hz3 : z3 ≤ 3) (hs : V.1 (3989 + t) = -1 ∨ ∃ k, k < 3 ∧ V.1 (3989 + t) = nI k) (hk : V.1 2067 = nI k) (hk2 : k < 2147483200) (hx : s 110 10 = x1) :
    FZ 110 10 5 (if (vhs V t words).1 = true ∧ tld V.1 f ∧ ¬ (vlc (vhs V t words).2 t = true ∨ vtop (vhs V t words).2 t + vnd (vhs V t words).2.1 f.toInt.toNat ≤ vend (vhs V t words).2 t) then 1 else x1) 0 (gX11_foreign s (nI t) words f sl) := by
  have ht := hP.2.2.1
  have hj := hP.1
  have hzz : (V.1 2052).toInt.toNat ≤ 3 := by rw [h3, nI_int (by omega)]; show (z3 : Int).toNat ≤ 3; omega
  obtain ⟨s1, a1, a2, a3⟩ := q_hasSide (words := words) h hj ht h3 hz3 hs hk hk2
  have hX1 : FX 110 10 5 x1 0 s1 := xrX11_hasSide ⟨hx, h.1⟩ _ _ a1
  unfold gX11_foreign
  rw [a1, cl_some, if_rbn]
  generalize hres : vhs V t words = res at *
  obtain ⟨b, V1⟩ := res
  cases b with
  | false =>
    rw [if_neg (by simp)]
    simp only [Bool.false_eq_true, false_and, if_false]
    exact fz_some hX1
  | true =>
    obtain ⟨b1, ⟨ks, ks1, ks2⟩, b3, b4⟩ := vhs_T hP hzz hs hres
    have a2 : RS s1 V1 := a2
    have hw1 : vpe V.1 V1.1 := fun i hi => b3 i (by omega) (by omega) (by omega) (by omega)
    rw [if_pos rfl]
    refine fz_ix (fun k3 => ?_)
    rw [q_isTold, cl_some, if_rb]
    by_cases ct : tld (s1 111) f
    · have ct1 : tld V1.1 f := a2.prog.tl.mp ct
      have ct0 : tld V.1 f := hw1.tl.mp ct1
      obtain ⟨f', f10, rfl, f3, f4⟩ := tld_nat ct0
      rw [if_pos ct]
      have e : (if (true, V1).1 = true ∧ tld V.1 (nI f') ∧ ¬ (vlc (true, V1).2 t = true ∨ vtop (true, V1).2 t + vnd (true, V1).2.1 (nI f').toInt.toNat ≤ vend (true, V1).2 t) then 1 else x1) = (if vlc V1 t = true ∨ vtop V1 t + vnd V1.1 f' ≤ vend V1 t then x1 else 1) := by
        have hc : ((true, V1).1 = true ∧ tld V.1 (nI f') ∧ ¬ (vlc (true, V1).2 t = true ∨ vtop (true, V1).2 t + vnd (true, V1).2.1 (nI f').toInt.toNat ≤ vend (true, V1).2 t)) ↔ ¬ (vlc V1 t = true ∨ vtop V1 t + vnd V1.1 f' ≤ vend V1 t) := by
          rw [f3]
          exact ⟨fun q => q.2.2, fun q => ⟨rfl, ct0, q⟩⟩
        by_cases c : vlc V1 t = true ∨ vtop V1 t + vnd V1.1 f' ≤ vend V1 t
        · rw [if_pos c, if_neg (fun q => (hc.mp q) c)]
        · rw [if_neg c, if_pos (hc.mpr c)]
      rw [e]
      exact fz_ix (fun _ => fz_ix (fun _ => fz_cl (xr_calls a2 b4 f10 (by rw [hw1 2051 (Or.inr (Or.inr rfl))]; exact hr) hz2 hX1.1) (fun _ _ h9 => fz_some h9)))
    · rw [if_neg ct, if_neg (fun q => ct (a2.prog.tl.mpr (hw1.tl.mpr q.2.1)))]
      exact fz_cl (xrX11_word hX1) (fun _ _ h4 => fz_cl (xrX11_lays h4) (fun _ _ h5 => fz_cl (xrX11_foreignOver h5) (fun _ _ h6 => fz_some h6)))
/-- a step: whether it grows, as long as it has one piece -/
theorem xr_steps0 {B : Nat} {D : wt_S → Int32 → Int32 → Option (Int32 × wt_S)} (h : RS s V) (hI : VI 2048 B V) (ht : t < 6) (hb : vbz V.1 t) (hB : B < 2147483200) (hx : s 110 10 = x1) (hD : ∀ s1 a0 a1, FX 110 10 5 x1 0 s1 → FZ 110 10 5 x1 0 (D s1 a0 a1)) (G : Int32)
    (g0 : ¬ (V.1 (3968 + t)).toInt.toNat < vli V.1 (vlf V t).1 → G = x1)
    (g6 : (V.1 (3968 + t)).toInt.toNat < vli V.1 (vlf V t).1 → V.1 (vco (vlf V t).1 (V.1 (3968 + t)).toInt.toNat) = 6 → (¬ tld V.1 (V.1 (vco (vlf V t).1 (V.1 (3968 + t)).toInt.toNat + 1)) → G = x1) ∧ ∀ f, f < 10 → V.1 (vco (vlf V t).1 (V.1 (3968 + t)).toInt.toNat + 1) = nI f → ∀ W : vV, W.2 = V.2 → (∀ i, i ≠ 3947 + t → i ≠ 2056 → i ≠ 3968 + t → W.1 i = V.1 i) → tld V.1 (nI f) → (if vlc W t = true ∨ vtop W t + vnd W.1 f ≤ vend W t then x1 else 1) = G)
    (g9 : (V.1 (3968 + t)).toInt.toNat < vli V.1 (vlf V t).1 → V.1 (vco (vlf V t).1 (V.1 (3968 + t)).toInt.toNat) = 9 → ∀ W : vV, W = vs (vcn (vinc V (3947 + t)) 2 1) (3968 + t) ((vcn (vinc V (3947 + t)) 2 1).1 (3968 + t) + 1) → (if (vhs W t (V.1 (vco (vlf V t).1 (V.1 (3968 + t)).toInt.toNat + 1))).1 = true ∧ tld W.1 (V.1 (vco (vlf V t).1 (V.1 (3968 + t)).toInt.toNat + 2)) ∧ ¬ (vlc (vhs W t (V.1 (vco (vlf V t).1 (V.1 (3968 + t)).toInt.toNat + 1))).2 t = true ∨ vtop (vhs W t (V.1 (vco (vlf V t).1 (V.1 (3968 + t)).toInt.toNat + 1))).2 t + vnd (vhs W t (V.1 (vco (vlf V t).1 (V.1 (3968 + t)).toInt.toNat + 1))).2.1 (V.1 (vco (vlf V t).1 (V.1 (3968 + t)).toInt.toNat + 2)).toInt.toNat ≤ vend (vhs W t (V.1 (vco (vlf V t).1 (V.1 (3968 + t)).toInt.toNat + 1))).2 t) then 1 else x1) = G)
    (gN : (V.1 (3968 + t)).toInt.toNat < vli V.1 (vlf V t).1 → V.1 (vco (vlf V t).1 (V.1 (3968 + t)).toInt.toNat) ≠ 6 → V.1 (vco (vlf V t).1 (V.1 (3968 + t)).toInt.toNat) ≠ 9 → G = x1) : FZ 110 10 5 G 0 (gX11_steps D s (nI t)) := by
  have hX0 : FX 110 10 5 x1 0 s := ⟨hx, h.1⟩
  obtain ⟨np, z, z2, z3, k, l, hP, h0, hhot, ⟨r1, r2, r3⟩, ⟨s1, s2, s3⟩, ⟨k1, k2⟩, ⟨l1, l2⟩, hs, hbg, hcb⟩ := hI.opn ht hb (by omega)
  have a1 := q_inc (i := 3947 + t) h (vtt (by omega) ht) (Or.inr (by omega))
  obtain ⟨b1, b2⟩ := q_cnt (c := 2) (v := 1) a1 (by omega)
  have hI1 : VI 2048 B (vinc V (3947 + t)) := hI.vs ht hb (vown_t (c := 3947) (by omega)) (by omega) (fun e => absurd e (by omega))
  have hb1 : vbz (vinc V (3947 + t)).1 t := by unfold vbz; rw [vinc_ne (by omega)]; exact hb
  have hI2 : VI 2048 B (vcn (vinc V (3947 + t)) 2 1) := hI1.vs ht hb1 (Or.inl (by omega)) (by omega) (fun e => absurd e (by omega))
  have hb2 : vbz (vcn (vinc V (3947 + t)) 2 1).1 t := by unfold vbz; rw [vcn_ne (by omega)]; exact hb1
  generalize hV1 : vcn (vinc V (3947 + t)) 2 1 = V1 at *
  have hat : ∀ i, i ≠ 3947 + t → i ≠ 2056 → V1.1 i = V.1 i := fun i g1 g2 => by rw [← hV1, vcn_ne (by omega), vinc_ne g1]
  have hV12 : V1.2 = V.2 := by rw [← hV1]; rfl
  have hw1 : vpe V.1 V1.1 := fun i hi => hat i (by omega) (by omega)
  have hlf1 : vlf V1 t = vlf V t := by unfold vlf; rw [hV12]
  obtain ⟨hj, hc, -, hz, h8, hzl, hlm, hl2, hq⟩ := hP
  obtain ⟨d1, d2, d3, d4, d5⟩ := hc.2.2.2.2.2.2.1 h0
  have hi0 : V.2.2.1 t - 1 < V.2.2.1 t := by omega
  have hft : (vlf V t).1 < 10 := (d3.1 _ hi0).1
  have d5 : V.1 (3975 + t) = nI (vlf V t).1 := d5
  have hli := hj.1.li hft
  have hF1 : RF s (wt_u (wt_u s 111 (3947 + t) (s 111 (3947 + t) + 1)) 111 (2054 + 2) ((vinc V (3947 + t)).1 (2054 + 2) + 1)) := RF.trans (RF.uf (Or.inl rfl)) (RF.uf (Or.inl rfl))
  have hln : (V.1 (3968 + t)).toInt.toNat = l := by rw [l1, nI_int (by omega)]; rfl
  have hvst : vst 2048 vZ V t = (if l < vli V.1 (vlf V t).1 then vln1 2048 vZ (vs V1 (3968 + t) (V1.1 (3968 + t) + 1)) t l (V.1 (vco (vlf V t).1 l)) (V.1 (vco (vlf V t).1 l + 1)) (V.1 (vco (vlf V t).1 l + 2)) (V.1 (vco (vlf V t).1 l + 3)) else vrt vZ V1 t 0) := by
    unfold vst
    dsimp only
    rw [hV1, hln]
  rw [hln] at g0 g6 g9 gN
  unfold gX11_steps
  rw [li_add, ix_nI (by omega) (by omega), li_add, ix_nI (by omega) (by omega), li_add, ix_nI (by omega) (by omega), ix_nI (by omega) (by omega), wr_eq, show gX11_counts (wt_u s 111 (3947 + t) (s 111 (3947 + t) + 1)) 2 1 = _ from b1, cl_some, h.tk (c := 3975) (by omega) ht, d5, li_add, ix_nI (by omega) (by omega), b2.pr (c := 2248 + (vlf V t).1) (by omega), hw1 _ (Or.inl (by omega)), hli.1, h.tk (c := 3968) (by omega) ht, l1, nI_int (by omega), nI_int (by omega)]
  by_cases cl : l < vli V.1 (vlf V t).1
  · rw [if_pos (by omega), q_codeAt, cl_some]
    -- the line comes next
    have c2 := b2.u (i := 3968 + t) (v := V1.1 (3968 + t) + 1) (vtt (by omega) ht) (Or.inr (by omega))
    have hL : V1.1 (3968 + t) + 1 = nI (l + 1) := by rw [hat _ (by omega) (by omega), l1, nI_1]
    have hI3 : VI 2048 B (vs V1 (3968 + t) (V1.1 (3968 + t) + 1)) := hI2.vs ht hb2 (vown_t (c := 3968) (by omega)) (by omega) (fun _ => ⟨l + 1, by omega, hL⟩)
    have hb3 : vbz (vs V1 (3968 + t) (V1.1 (3968 + t) + 1)).1 t := by unfold vbz; rw [vs_ne (by omega)]; exact hb2
    generalize hV2 : vs V1 (3968 + t) (V1.1 (3968 + t) + 1) = V2 at *
    have hat2 : ∀ i, i ≠ 3947 + t → i ≠ 2056 → i ≠ 3968 + t → V2.1 i = V.1 i := fun i g1 g2 g3 => by rw [← hV2, vs_ne g3]; exact hat i g1 g2
    have hV22 : V2.2 = V.2 := by rw [← hV2]; exact hV12
    have hw2 : vpe V.1 V2.1 := fun i hi => hat2 i (by omega) (by omega) (by omega)
    have hlf2 : vlf V2 t = vlf V t := by unfold vlf; rw [hV22]
    have hn2 : V2.2.2.1 t = V.2.2.1 t := by rw [hV22]
    have hfr2 : V2.2.2.2 = V.2.2.2 := by rw [hV22]
    obtain ⟨np', z', z2', z3', k', l', hP', h0', hhot', ⟨r1', r2', r3'⟩, ⟨s1', s2', s3'⟩, ⟨k1', k2'⟩, ⟨l1', l2'⟩, hs', hbg', hcb'⟩ := hI3.opn ht hb3 (by omega)
    have hPP := hP'
    obtain ⟨hj', hc', -, -, -, -, -, -, -⟩ := hP'
    obtain ⟨e1, e2, e3, e4, e5⟩ := hc'.2.2.2.2.2.2.1 h0'
    have hi2 : V2.2.2.1 t - 1 < V2.2.2.1 t := by omega
    have hlfe : V2.2.2.2 t (V2.2.2.1 t - 1) = vlf V t := by rw [← hlf2]; rfl
    have hfit := (hj'.fit ht hi2).2.2
    unfold vwd at hfit
    rw [hlfe] at hfit
    have hsz2 : vsz V2.1 (vlf V t).1 = vsz V.1 (vlf V t).1 := (hw2.sz hft).1
    have hbt2 : V2.1 (2238 + (vlf V t).1) = V.1 (2238 + (vlf V t).1) := (hw2.sz hft).2.2.2
    have hlin := (hj.1 _ hft).2.2 l cl
    unfold vlin at hlin
    have hco : ∀ j, j < 4 → (wt_u (wt_u s 111 (3947 + t) (s 111 (3947 + t) + 1)) 111 (2054 + 2) ((vinc V (3947 + t)).1 (2054 + 2) + 1)) 111 (2258 + 4 * (16 * (vlf V t).1 + l) + j) = V.1 (vco (vlf V t).1 l + j) := fun j hj4 => by
      rw [b2.pr (c := 2258 + 4 * (16 * (vlf V t).1 + l) + j) (by omega), hw1 _ (Or.inl (by omega))]
      rfl
    have hAT : (wt_u (wt_u s 111 (3947 + t) (s 111 (3947 + t) + 1)) 111 (2054 + 2) ((vinc V (3947 + t)).1 (2054 + 2) + 1)) 111 (3982 + t) = nI (vpl V2 t (V2.2.2.1 t - 1)) := by
      rw [b2.tk (c := 3982) (by omega) ht, ← e4, ← hV2, vs_ne (by omega)]
    have hLN : (wt_u (wt_u s 111 (3947 + t) (s 111 (3947 + t) + 1)) 111 (2054 + 2) ((vinc V (3947 + t)).1 (2054 + 2) + 1)) 111 (3968 + t) = V1.1 (3968 + t) := b2.tk (c := 3968) (by omega) ht
    have hF2 := RF.trans hF1 (RF.uf (s := (wt_u (wt_u s 111 (3947 + t) (s 111 (3947 + t) + 1)) 111 (2054 + 2) ((vinc V (3947 + t)).1 (2054 + 2) + 1))) (f := mj_upd ((wt_u (wt_u s 111 (3947 + t) (s 111 (3947 + t) + 1)) 111 (2054 + 2) ((vinc V (3947 + t)).1 (2054 + 2) + 1)) 111) (3968 + t) (V1.1 (3968 + t) + 1)) (Or.inl rfl))
    generalize hS1 : (wt_u (wt_u s 111 (3947 + t) (s 111 (3947 + t) + 1)) 111 (2054 + 2) ((vinc V (3947 + t)).1 (2054 + 2) + 1)) = S1 at *
    have hkd : (wt_u S1 111 (3968 + t) (V1.1 (3968 + t) + 1)) 111 (2258 + 4 * (16 * (vlf V t).1 + l)) = V.1 (vco (vlf V t).1 l) := by
      rw [wt_u_nk (by omega)]
      exact hco 0 (by omega)
    rw [li_add2, ix_nI (by omega) (by omega), li_add2, ix_nI (by omega) (by omega), li_add2, ix_nI (by omega) (by omega), li_add, ix_nI (by omega) (by omega), ix_nI (by omega) (by omega), ix_nI (by omega) (by omega), wr_eq, hLN, ix_nI (by omega) (by omega), hkd, hco 1 (by omega), hco 2 (by omega), hco 3 (by omega), hAT]
    have hF2 : RF s (wt_u S1 111 (3968 + t) (V1.1 (3968 + t) + 1)) := hF2
    generalize hS2 : wt_u S1 111 (3968 + t) (V1.1 (3968 + t) + 1) = S2 at *
    generalize hKK : V.1 (vco (vlf V t).1 l) = K at *
    generalize hAA : V.1 (vco (vlf V t).1 l + 1) = A at *
    generalize hBB : V.1 (vco (vlf V t).1 l + 2) = Bb at *
    generalize hCC : V.1 (vco (vlf V t).1 l + 3) = C at *
    have hK : K = 0 ∨ K = 1 ∨ K = 2 ∨ K = 3 ∨ K = 4 ∨ K = 5 ∨ K = 6 ∨ K = 7 ∨ K = 8 ∨ K = 9 ∨ K = 10 := by
      obtain ⟨kk, kk1, rfl⟩ := nI_ex hlin.1.1
      have := hlin.1.2
      rw [nI_int kk1] at this
      have : kk = 0 ∨ kk = 1 ∨ kk = 2 ∨ kk = 3 ∨ kk = 4 ∨ kk = 5 ∨ kk = 6 ∨ kk = 7 ∨ kk = 8 ∨ kk = 9 ∨ kk = 10 := by omega
      rcases this with rfl | rfl | rfl | rfl | rfl | rfl | rfl | rfl | rfl | rfl | rfl <;> decide
    have hX2 : FX 110 10 5 x1 0 S2 := by
      rw [← hS2, ← hS1]
      exact fx_u (fx_u (fx_u hX0 (Or.inl (by decide))) (Or.inl (by decide))) (Or.inl (by decide))
    have g6 := g6 cl
    have g9 := g9 cl
    have gN := gN cl
    by_cases k6 : K = 6
    · subst k6
      obtain ⟨q6, r6⟩ := g6 rfl
      rw [if_neg (show ¬ ((6 : Int32).toInt < 0 ∨ 9 < (6 : Int32).toInt) by decide), if_neg (show ¬ (6 : Int32).toInt = 0 by decide), if_neg (show ¬ (6 : Int32).toInt = 1 by decide), if_neg (show ¬ (6 : Int32).toInt = 2 by decide), if_neg (show ¬ (6 : Int32).toInt = 3 by decide), if_neg (show ¬ (6 : Int32).toInt = 4 by decide), if_neg (show ¬ (6 : Int32).toInt = 5 by decide), if_pos (show (6 : Int32).toInt = 6 by decide), q_isTold, cl_some, if_rb]
      have htl : tld (S2 111) A ↔ tld V.1 A := c2.prog.tl.trans hw2.tl
      by_cases ct : tld V.1 A
      · obtain ⟨f, f10, rfl, f3, f4⟩ := tld_nat ct
        rw [if_pos (htl.mpr ct), ← r6 f f10 rfl V2 hV22 hat2 ct]
        exact fz_cl (xr_calls c2 hPP f10 r1' r3' hX2.1) (fun _ _ h9 => fz_some h9)
      · rw [if_neg (fun q => ct (htl.mp q)), q6 ct]
        exact fz_cl (xrX11_lays hX2) (fun _ _ h9 => fz_some h9)
    by_cases k9 : K = 9
    · subst k9
      rw [if_neg (show ¬ ((9 : Int32).toInt < 0 ∨ 9 < (9 : Int32).toInt) by decide), if_neg (show ¬ (9 : Int32).toInt = 0 by decide), if_neg (show ¬ (9 : Int32).toInt = 1 by decide), if_neg (show ¬ (9 : Int32).toInt = 2 by decide), if_neg (show ¬ (9 : Int32).toInt = 3 by decide), if_neg (show ¬ (9 : Int32).toInt = 4 by decide), if_neg (show ¬ (9 : Int32).toInt = 5 by decide), if_neg (show ¬ (9 : Int32).toInt = 6 by decide), if_neg (show ¬ (9 : Int32).toInt = 7 by decide), if_neg (show ¬ (9 : Int32).toInt = 8 by decide), if_pos (show (9 : Int32).toInt = 9 by decide), ← g9 rfl V2 rfl]
      exact fz_cl (xr_foreign c2 hPP r1' r3' s1' s3' hs' k1' (by omega) hX2.1) (fun _ _ h9 => fz_some h9)
    rw [gN k6 k9]
    have n6 : ¬ K.toInt = 6 := fun e => k6 (Int32.toInt_inj.mp (e.trans (by decide)))
    have n9 : ¬ K.toInt = 9 := fun e => k9 (Int32.toInt_inj.mp (e.trans (by decide)))
    exact fz_if (fz_cl (xrX11_quiets hX2) (fun _ _ h5 => fz_some h5)) (fz_if (fz_cl (xrX11_lays hX2) (fun _ _ h5 => fz_some h5)) (fz_if (fz_cl (xrX11_word hX2) (fun _ _ h5 => fz_cl (xrX11_word h5) (fun _ _ h6 => fz_cl (xrX11_lays h6) (fun _ _ h7 => fz_some h7)))) (fz_if (fz_cl (xrX11_word hX2) (fun _ _ h5 => fz_cl (xrX11_word h5) (fun _ _ h6 => fz_if (xrX11_steps_269 h6 hD) (xrX11_steps_269 h6 hD)))) (fz_if (fz_cl (xrX11_lays hX2) (fun _ _ h5 => fz_some h5)) (fz_if (fz_cl (xrX11_word hX2) (fun _ _ h5 => fz_if (fz_cl (xrX11_word h5) (fun _ _ h6 => fz_cl (xrX11_word h6) (fun _ _ h7 => xrX11_steps_328 h7 hD))) (xrX11_steps_328 h5 hD))) (fz_if (fz_cl (xrX11_word hX2) (fun _ _ h5 => fz_if (fz_some h5) (fz_cl (xrX11_word h5) (fun _ _ h6 => fz_cl (xrX11_word h6) (fun _ _ h7 => fz_cl (xrX11_lays h7) (fun _ _ h8 => fz_some h8)))))) (fz_ifn n6 (fz_if (fz_cl (xrX11_word hX2) (fun _ _ h5 => fz_if (fz_some h5) (fz_ix (fun _ => fz_wr h5 (Or.inl (by decide)) (fun _ h6 => fz_some h6))))) (fz_if (fz_cl (xrX11_word hX2) (fun _ _ h5 => fz_cl (xrX11_returns h5 hD) (fun _ _ h6 => fz_some h6))) (fz_ifn n9 fz_none))))))))))
  · rw [if_neg (by omega), g0 cl]
    have hX1 : FX 110 10 5 x1 0 (wt_u (wt_u s 111 (3947 + t) (s 111 (3947 + t) + 1)) 111 (2054 + 2) ((vinc V (3947 + t)).1 (2054 + 2) + 1)) := fx_u (fx_u hX0 (Or.inl (by decide))) (Or.inl (by decide))
    exact fz_cl (xrX11_returns hX1 hD) (fun _ _ h9 => fz_some h9)
end
end
