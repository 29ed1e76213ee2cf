/-! ===== the class: questions change nothing but where it walks and what it marks (written by wip/p2/gen_fp.py) ===== -/
def KQ (c : Nat) : Prop := c = 27 ∨ c = 71 ∨ c = 72
def FR (s s' : wt_S) : Prop := ∀ c, ¬ KQ c → s' c = s c
def FP {α : Type} (s0 : wt_S) (x : Option (α × wt_S)) : Prop := ∀ r s', x = some (r, s') → FR s0 s'
theorem FR.refl {s : wt_S} : FR s s := fun _ _ => rfl
section
variable {α β : Type} {s0 s : wt_S}
theorem fp_none : FP s0 (none : Option (α × wt_S)) := fun _ _ e => by cases e
theorem fp_some {r : α} (h : FR s0 s) : FP s0 (some (r, s)) := fun _ _ e => by cases e; exact h
theorem fp_if {c : Prop} [Decidable c] {x y : Option (α × wt_S)} (h1 : FP s0 x) (h2 : FP s0 y) : FP s0 (if c then x else y) := by
  by_cases h : c
  · rw [if_pos h]; exact h1
  · rw [if_neg h]; exact h2
theorem fp_ix {i : Int32} {n : Nat} {F : Nat → Option (α × wt_S)} (h : ∀ k, FP s0 (F k)) : FP s0 (wt_ix i n F) := by
  unfold wt_ix
  exact fp_if (h _) fp_none
theorem fp_cl {x : Option (β × wt_S)} {F : β → wt_S → Option (α × wt_S)} (h : FP s0 x) (hF : ∀ r s1, FR s0 s1 → FP s0 (F r s1)) : FP s0 (wt_cl x F) := by
  cases x with
  | none => exact fp_none
  | some p => exact hF p.1 p.2 (h p.1 p.2 rfl)
theorem fp_wr {a k : Nat} {v : Int32} {F : wt_S → Option (α × wt_S)} (h : FR s0 s) (ha : KQ a) (hF : ∀ s1, FR s0 s1 → FP s0 (F s1)) : FP s0 (wt_wr s a k v F) := hF _ (fun c hc => by
  have hne : c ≠ a := fun e => by subst e; exact hc ha
  rw [wt_u_ne hne, h c hc])
theorem fp_rz {v : Int32} {x : Option (α × wt_S)} (h : FP s0 x) : FP s0 (wt_rz v x) := by
  unfold wt_rz
  exact fp_if h fp_none
end
section
variable {s0 s : wt_S}
theorem fX6_sizeOf {q : Nat} {i1 : Int32} (h : FR s0 s)  : FP s0 (gX6_sizeOf q s i1) := by
  unfold gX6_sizeOf
  exact fp_if (fp_some h) (fp_if (fp_some h) (fp_ix (fun _ => fp_some h)))
theorem fX6_frameWords {q : Nat} {i1 : Int32} (h : FR s0 s)  : FP s0 (gX6_frameWords q s i1) := by
  unfold gX6_frameWords
  exact fp_cl (fX6_sizeOf h) (fun _ _ h1 => fp_some h1)
theorem fX6_hasSlot {q : Nat} {i1 : Int32} {i2 : Int32} (h : FR s0 s)  : FP s0 (gX6_hasSlot q s i1 i2) := by
  unfold gX6_hasSlot
  exact fp_if (fp_some h) (fp_cl (fX6_sizeOf h) (fun _ _ h1 => fp_if (fp_some h1) (fp_some h1)))
theorem fX6_isPointer {q : Nat} {i1 : Int32} {i2 : Int32} (h : FR s0 s)  : FP s0 (gX6_isPointer q s i1 i2) := by
  unfold gX6_isPointer
  exact fp_if (fp_some h) (fp_if (fp_some h) (fp_ix (fun _ => fp_if (fp_some h) (fp_some h))))
theorem fX10_isTask {i1 : Int32} (h : FR s0 s)  : FP s0 (gX10_isTask s i1) := by
  unfold gX10_isTask
  exact fp_if (fp_some h) (fp_if (fp_some h) (fp_some h))
theorem fX5_idAt {i1 : Int32} (h : FR s0 s)  : FP s0 (gX5_idAt 11 s i1) := by
  unfold gX5_idAt
  exact fp_if (fp_some h) (fp_if (fp_some h) (fp_if (fp_some h) (fp_ix (fun _ => fp_some h))))
theorem fX5_endOf {i1 : Int32} (h : FR s0 s)  : FP s0 (gX5_endOf 11 s i1) := by
  unfold gX5_endOf
  exact fp_if (fp_some h) (fp_if (fp_some h) (fp_ix (fun _ => fp_ix (fun _ => fp_some h))))
theorem fX5_placeOf {i1 : Int32} (h : FR s0 s)  : FP s0 (gX5_placeOf 11 s i1) := by
  unfold gX5_placeOf
  exact fp_if (fp_some h) (fp_if (fp_some h) (fp_ix (fun _ => fp_some h)))
theorem fJ7_fill_53178_5_n {n1 : Nat}  : ∀ (n : Nat) {s : wt_S} {y0 : Int32} {y1 : Int32} {y2 : Int32}, FR s0 s → FP s0 (gJ7_fill_53178_5 72 n1 n s y0 y1 y2) := by
  intro n
  induction n with
  | zero => exact fun _ => fp_none
  | succ n ih =>
    intro s y0 y1 y2 h
    unfold gJ7_fill_53178_5
    exact fp_if (fp_some h) (fp_ix (fun _ => fp_wr h (Or.inr (Or.inr rfl)) (fun _ h1 => ih h1)))
theorem fJ7_fill_53178_5 {n1 : Nat} {n : Nat} {s : wt_S} {y0 : Int32} {y1 : Int32} {y2 : Int32} (h : FR s0 s)  : FP s0 (gJ7_fill_53178_5 72 n1 n s y0 y1 y2) := fJ7_fill_53178_5_n n h
theorem fJ7_fill_53178 {n1 : Nat} {i1 : Int32} (h : FR s0 s)  : FP s0 (gJ7_fill_53178 72 n1 s i1) := by
  unfold gJ7_fill_53178
  exact fJ7_fill_53178_5 h
theorem fX3_word {i1 : Int32} (h : FR s0 s)  : FP s0 (gX3_word 11 s i1) := by
  unfold gX3_word
  exact fp_if (fp_some h) (fp_if (fp_some h) (fp_ix (fun _ => fp_some h)))
theorem fX5_ownerOf {i1 : Int32} (h : FR s0 s)  : FP s0 (gX5_ownerOf 11 s i1) := by
  unfold gX5_ownerOf
  exact fp_if (fp_some h) (fp_if (fp_some h) (fp_ix (fun _ => fp_some h)))
theorem fX5_rankOf_80 {K12 : wt_S → Int32 → Int32 → Int32 → Int32 → Option (Int32 × wt_S)} {l1 : Int32} {l2 : Int32} {l4 : Int32} {l5 : Int32} (h : FR s0 s) (hK : ∀ s1 a0 a1 a2 a3, FR s0 s1 → FP s0 (K12 s1 a0 a1 a2 a3)) : FP s0 (gX5_rankOf_80 11 K12 s l1 l2 l4 l5) := by
  unfold gX5_rankOf_80
  exact hK _ _ _ _ _ h
theorem fX5_rankOf_12_n   : ∀ (n : Nat) {s : wt_S} {y0 : Int32} {y1 : Int32} {y2 : Int32} {y3 : Int32}, FR s0 s → FP s0 (gX5_rankOf_12 11 n s y0 y1 y2 y3) := by
  intro n
  induction n with
  | zero => exact fun _ => fp_none
  | succ n ih =>
    intro s y0 y1 y2 y3 h
    unfold gX5_rankOf_12
    exact fp_if (fp_some h) (fp_if (fp_some h) (fp_if (fp_some h) (fp_ix (fun _ => fp_if (fX5_rankOf_80 h (fun _ _ _ _ _ h9 => ih h9)) (fp_if (fX5_rankOf_80 h (fun _ _ _ _ _ h9 => ih h9)) (fp_ix (fun _ => fp_if (fX5_rankOf_80 h (fun _ _ _ _ _ h9 => ih h9)) (ih h))))))))
theorem fX5_rankOf_12  {n : Nat} {s : wt_S} {y0 : Int32} {y1 : Int32} {y2 : Int32} {y3 : Int32} (h : FR s0 s)  : FP s0 (gX5_rankOf_12 11 n s y0 y1 y2 y3) := fX5_rankOf_12_n n h
theorem fX5_rankOf {i1 : Int32} (h : FR s0 s)  : FP s0 (gX5_rankOf 11 s i1) := by
  unfold gX5_rankOf
  exact fX5_rankOf_12 h
theorem fX8_toLast {t : Nat} (h : FR s0 s)  : FP s0 (gX8_toLast 11 t s) := by
  unfold gX8_toLast
  exact fp_wr h (Or.inl rfl) (fun _ h1 => fp_wr h1 (Or.inl rfl) (fun _ h2 => fp_wr h2 (Or.inl rfl) (fun _ h3 => fp_some h3)))
theorem fX8_toCaller  (h : FR s0 s)  : FP s0 (gX8_toCaller 11 s) := by
  unfold gX8_toCaller
  exact fp_cl (fX3_word h) (fun _ _ h1 => fp_cl (fX3_word h1) (fun _ _ h2 => fp_wr h2 (Or.inl rfl) (fun _ h3 => fp_wr h3 (Or.inl rfl) (fun _ h4 => fp_wr h4 (Or.inl rfl) (fun _ h5 => fp_some h5)))))
theorem fX5_belowOf {i1 : Int32} (h : FR s0 s)  : FP s0 (gX5_belowOf 11 s i1) := by
  unfold gX5_belowOf
  exact fp_if (fp_some h) (fp_if (fp_some h) (fp_ix (fun _ => fp_some h)))
theorem fX5_topOf {i1 : Int32} (h : FR s0 s)  : FP s0 (gX5_topOf 11 s i1) := by
  unfold gX5_topOf
  exact fp_if (fp_some h) (fp_if (fp_some h) (fp_ix (fun _ => fp_ix (fun _ => fp_some h))))
theorem fX5_indexOf_8_n   : ∀ (n : Nat) {s : wt_S} {y0 : Int32} {y1 : Int32}, FR s0 s → FP s0 (gX5_indexOf_8 11 n s y0 y1) := by
  intro n
  induction n with
  | zero => exact fun _ => fp_none
  | succ n ih =>
    intro s y0 y1 h
    unfold gX5_indexOf_8
    exact fp_if (fp_some h) (fp_if (fp_some h) (fp_cl (fX5_belowOf h) (fun _ _ h1 => ih h1)))
theorem fX5_indexOf_8  {n : Nat} {s : wt_S} {y0 : Int32} {y1 : Int32} (h : FR s0 s)  : FP s0 (gX5_indexOf_8 11 n s y0 y1) := fX5_indexOf_8_n n h
theorem fX5_indexOf {i1 : Int32} (h : FR s0 s)  : FP s0 (gX5_indexOf 11 s i1) := by
  unfold gX5_indexOf
  exact fp_cl (fX5_belowOf h) (fun _ _ h1 => fX5_indexOf_8 h1)
theorem fX10_hasFrame {i1 : Int32} {i2 : Int32} (h : FR s0 s)  : FP s0 (gX10_hasFrame s i1 i2) := by
  unfold gX10_hasFrame
  exact fp_cl (fX10_isTask h) (fun _ _ h1 => fp_if (fp_some h1) (fp_if (fp_some h1) (fp_ix (fun _ => fp_if (fp_some h1) (fp_some h1)))))
theorem fX8_toFrame_12_n {t : Nat}  : ∀ (n : Nat) {s : wt_S} {y0 : Int32} {y1 : Int32}, FR s0 s → FP s0 (gX8_toFrame_12 11 t n s y0 y1) := by
  intro n
  induction n with
  | zero => exact fun _ => fp_none
  | succ n ih =>
    intro s y0 y1 h
    unfold gX8_toFrame_12
    exact fp_if (fp_some h) (fp_cl (fX8_toCaller h) (fun _ _ h1 => ih h1))
theorem fX8_toFrame_12 {t : Nat} {n : Nat} {s : wt_S} {y0 : Int32} {y1 : Int32} (h : FR s0 s)  : FP s0 (gX8_toFrame_12 11 t n s y0 y1) := fX8_toFrame_12_n n h
theorem fX8_toFrame {t : Nat} {i1 : Int32} (h : FR s0 s)  : FP s0 (gX8_toFrame 11 t s i1) := by
  unfold gX8_toFrame
  exact fp_cl (fX8_toLast h) (fun _ _ h1 => fX8_toFrame_12 h1)
theorem fX5_holding {i1 : Int32} (h : FR s0 s)  : FP s0 (gX5_holding 11 s i1) := by
  unfold gX5_holding
  exact fp_cl (fX5_rankOf h) (fun _ _ h1 => fp_cl (fX5_idAt h1) (fun _ _ h2 => fp_some h2))
theorem fX10_frame {i1 : Int32} {i2 : Int32} {i3 : Int32} (h : FR s0 s)  : FP s0 (gX10_frame s i1 i2 i3) := by
  unfold gX10_frame
  exact fp_cl (fX10_hasFrame h) (fun _ _ h1 => fp_if (fp_ix (fun _ => fp_cl (fX8_toFrame h1) (fun _ _ h2 => fp_cl (fX3_word h2) (fun _ _ h3 => fp_if (fp_some h3) (fp_if (fp_some h3) (fp_if (fp_some h3) (fp_if (fp_cl (fX5_holding h3) (fun _ _ h4 => fp_cl (fX5_indexOf h4) (fun _ _ h5 => fp_some h5))) (fp_if (fp_if (fp_some h3) (fp_some h3)) (fp_if (fp_some h3) (fp_if (fp_if (fp_some h3) (fp_some h3)) (fp_if (fp_cl (fX3_word h3) (fun _ _ h4 => fp_some h4)) (fp_if (fp_some h3) (fp_none))))))))))))) (fp_some h1))
theorem fX8_toPlace_46 {t : Nat} {K13 : wt_S → Int32 → Int32 → Option (Int32 × wt_S)} {l2 : Int32} {l4 : Int32} (h : FR s0 s) (hK : ∀ s1 a0 a1, FR s0 s1 → FP s0 (K13 s1 a0 a1)) : FP s0 (gX8_toPlace_46 11 t K13 s l2 l4) := by
  unfold gX8_toPlace_46
  exact fp_if (hK _ _ _ h) (fp_cl (fX8_toCaller h) (fun _ _ h1 => hK _ _ _ h1))
theorem fX8_toPlace_13_n {t : Nat}  : ∀ (n : Nat) {s : wt_S} {y0 : Int32} {y1 : Int32}, FR s0 s → FP s0 (gX8_toPlace_13 11 t n s y0 y1) := by
  intro n
  induction n with
  | zero => exact fun _ => fp_none
  | succ n ih =>
    intro s y0 y1 h
    unfold gX8_toPlace_13
    exact fp_if (fp_some h) (fp_if (fX8_toPlace_46 h (fun _ _ _ h9 => ih h9)) (fp_cl (fX6_frameWords h) (fun _ _ h1 => fp_if (fX8_toPlace_46 h1 (fun _ _ _ h9 => ih h9)) (fp_some h1))))
theorem fX8_toPlace_13 {t : Nat} {n : Nat} {s : wt_S} {y0 : Int32} {y1 : Int32} (h : FR s0 s)  : FP s0 (gX8_toPlace_13 11 t n s y0 y1) := fX8_toPlace_13_n n h
theorem fX8_toPlace {t : Nat} {i1 : Int32} (h : FR s0 s)  : FP s0 (gX8_toPlace 11 t s i1) := by
  unfold gX8_toPlace
  exact fp_cl (fX8_toLast h) (fun _ _ h1 => fX8_toPlace_13 h1)
theorem fX10_slot_20  (h : FR s0 s)  : FP s0 (gX10_slot_20 s) := by
  unfold gX10_slot_20
  exact fp_some h
theorem fX10_slot_183 {l4 : Int32} {l7 : Int32} {z0 : Int32} (h : FR s0 s)  : FP s0 (gX10_slot_183 s l4 l7 z0) := by
  unfold gX10_slot_183
  exact fp_if (fp_some h) (fp_if (fp_some h) (fp_some h))
theorem fX10_slot_182 {l4 : Int32} {l7 : Int32} (h : FR s0 s)  : FP s0 (gX10_slot_182 s l4 l7) := by
  unfold gX10_slot_182
  exact fX10_slot_183 h
theorem fX10_slot {i1 : Int32} {i2 : Int32} {i3 : Int32} {i4 : Int32} (h : FR s0 s)  : FP s0 (gX10_slot s i1 i2 i3 i4) := by
  unfold gX10_slot
  exact fp_cl (fX10_hasFrame h) (fun _ _ h1 => fp_if (fX10_slot_20 h1) (fp_if (fX10_slot_20 h1) (fp_if (fp_ix (fun _ => fp_cl (fX8_toFrame h1) (fun _ _ h2 => fp_cl (fX6_hasSlot h2) (fun _ _ h3 => fp_if (fp_cl (fX6_isPointer h3) (fun _ _ h4 => fp_cl (fX3_word h4) (fun _ _ h5 => fp_if (fp_if (fp_if (fX10_slot_182 h5) (fp_if (fX10_slot_182 h5) (fp_ix (fun _ => fp_cl (fX8_toPlace h5) (fun _ _ h6 => fX10_slot_183 h6))))) (fp_some h5)) (fp_if (fp_some h5) (fp_some h5))))) (fp_some h3))))) (fX10_slot_20 h1))))
theorem fX0_goToLast {t : Nat} (h : FR s0 s)  : FP s0 (gX0_goToLast t s) := by
  unfold gX0_goToLast
  exact fp_wr h (Or.inr (Or.inl rfl)) (fun _ h1 => fp_wr h1 (Or.inr (Or.inl rfl)) (fun _ h2 => fp_wr h2 (Or.inr (Or.inl rfl)) (fun _ h3 => fp_some h3)))
theorem fX0_mark {i1 : Int32} (h : FR s0 s)  : FP s0 (gX0_mark s i1) := by
  unfold gX0_mark
  exact fp_if (fp_some h) (fp_if (fp_some h) (fp_ix (fun _ => fp_ix (fun _ => fp_wr h (Or.inr (Or.inr rfl)) (fun _ h1 => fp_some h1)))))
theorem fX0_goToCaller_61 {l2 : Int32} (h : FR s0 s)  : FP s0 (gX0_goToCaller_61 s l2) := by
  unfold gX0_goToCaller_61
  exact fp_cl (fX3_word h) (fun _ _ h1 => fp_wr h1 (Or.inr (Or.inl rfl)) (fun _ h2 => fp_cl (fX6_frameWords h2) (fun _ _ h3 => fp_wr h3 (Or.inr (Or.inl rfl)) (fun _ h4 => fp_some h4))))
theorem fX0_goToCaller  (h : FR s0 s)  : FP s0 (gX0_goToCaller s) := by
  unfold gX0_goToCaller
  exact fp_cl (fX5_placeOf h) (fun _ _ h1 => fp_if (fX0_goToCaller_61 h1) (fp_cl (fX5_belowOf h1) (fun _ _ h2 => fp_if (fX0_goToCaller_61 h2) (fp_cl (fX5_belowOf h2) (fun _ _ h3 => fp_wr h3 (Or.inr (Or.inl rfl)) (fun _ h4 => fp_cl (fX5_topOf h4) (fun _ _ h5 => fX0_goToCaller_61 h5)))))))
theorem fX0_markNumbers_16_n {t : Nat} {K10 : wt_S → Int32 → Option (Unit × wt_S)} (hK : ∀ s1 a0, FR s0 s1 → FP s0 (K10 s1 a0)) : ∀ (n : Nat) {s : wt_S} {y0 : Int32} {y1 : Int32}, FR s0 s → FP s0 (gX0_markNumbers_16 t K10 n s y0 y1) := by
  intro n
  induction n with
  | zero => exact fun _ => fp_none
  | succ n ih =>
    intro s y0 y1 h
    unfold gX0_markNumbers_16
    exact fp_cl (fX6_sizeOf h) (fun _ _ h1 => fp_if (fp_if (hK _ _ h1) (fp_cl (fX0_goToCaller h1) (fun _ _ h2 => hK _ _ h2))) (fp_cl (fX6_isPointer h1) (fun _ _ h2 => fp_if (ih h2) (fp_cl (fX0_mark h2) (fun _ _ h3 => ih h3)))))
theorem fX0_markNumbers_16 {t : Nat} {K10 : wt_S → Int32 → Option (Unit × wt_S)} {n : Nat} {s : wt_S} {y0 : Int32} {y1 : Int32} (h : FR s0 s) (hK : ∀ s1 a0, FR s0 s1 → FP s0 (K10 s1 a0)) : FP s0 (gX0_markNumbers_16 t K10 n s y0 y1) := fX0_markNumbers_16_n hK n h
theorem fX0_markNumbers_10_n {t : Nat}  : ∀ (n : Nat) {s : wt_S} {y0 : Int32}, FR s0 s → FP s0 (gX0_markNumbers_10 t n s y0) := by
  intro n
  induction n with
  | zero => exact fun _ => fp_none
  | succ n ih =>
    intro s y0 h
    unfold gX0_markNumbers_10
    exact fp_if (fp_some h) (fX0_markNumbers_16 h (fun _ _ h9 => ih h9))
theorem fX0_markNumbers_10 {t : Nat} {n : Nat} {s : wt_S} {y0 : Int32} (h : FR s0 s)  : FP s0 (gX0_markNumbers_10 t n s y0) := fX0_markNumbers_10_n n h
theorem fX0_markNumbers {t : Nat} (h : FR s0 s)  : FP s0 (gX0_markNumbers t s) := by
  unfold gX0_markNumbers
  exact fp_cl (fX0_goToLast h) (fun _ _ h1 => fX0_markNumbers_10 h1)
theorem fX0_marksAt {i1 : Int32} (h : FR s0 s)  : FP s0 (gX0_marksAt s i1) := by
  unfold gX0_marksAt
  exact fp_if (fp_some h) (fp_if (fp_some h) (fp_ix (fun _ => fp_some h)))
theorem fX0_wrongPointers_79 {K4 : wt_S → Int32 → Int32 → Option (Int32 × wt_S)} {l2 : Int32} {z0 : Int32} {z1 : Int32} (h : FR s0 s) (hK : ∀ s1 a0 a1, FR s0 s1 → FP s0 (K4 s1 a0 a1)) : FP s0 (gX0_wrongPointers_79 K4 s l2 z0 z1) := by
  unfold gX0_wrongPointers_79
  exact hK _ _ _ h
theorem fX0_wrongPointers_4_n   : ∀ (n : Nat) {s : wt_S} {y0 : Int32} {y1 : Int32}, FR s0 s → FP s0 (gX0_wrongPointers_4  n s y0 y1) := by
  intro n
  induction n with
  | zero => exact fun _ => fp_none
  | succ n ih =>
    intro s y0 y1 h
    unfold gX0_wrongPointers_4
    exact fp_cl (fX6_sizeOf h) (fun _ _ h1 => fp_if (fp_some h1) (fp_cl (fX3_word h1) (fun _ _ h2 => fp_cl (fX6_isPointer h2) (fun _ _ h3 => fp_if (ih h3) (fp_if (ih h3) (fp_cl (fX0_marksAt h3) (fun _ _ h4 => fp_if (fX0_wrongPointers_79 h4 (fun _ _ _ h9 => ih h9)) (fX0_wrongPointers_79 h4 (fun _ _ _ h9 => ih h9)))))))))
theorem fX0_wrongPointers_4  {n : Nat} {s : wt_S} {y0 : Int32} {y1 : Int32} (h : FR s0 s)  : FP s0 (gX0_wrongPointers_4  n s y0 y1) := fX0_wrongPointers_4_n n h
theorem fX0_wrongPointers  (h : FR s0 s)  : FP s0 (gX0_wrongPointers s) := by
  unfold gX0_wrongPointers
  exact fX0_wrongPointers_4 h
theorem fX0_wrongPlaces_118 {K55 : wt_S → Int32 → Int32 → Int32 → Int32 → Option (Int32 × wt_S)} {l3 : Int32} {l4 : Int32} {l6 : Int32} {z0 : Int32} {z1 : Int32} (h : FR s0 s) (hK : ∀ s1 a0 a1 a2 a3, FR s0 s1 → FP s0 (K55 s1 a0 a1 a2 a3)) : FP s0 (gX0_wrongPlaces_118 K55 s l3 l4 l6 z0 z1) := by
  unfold gX0_wrongPlaces_118
  exact hK _ _ _ _ _ h
theorem fX0_wrongPlaces_110 {K55 : wt_S → Int32 → Int32 → Int32 → Int32 → Option (Int32 × wt_S)} {l3 : Int32} {l4 : Int32} {l6 : Int32} {z0 : Int32} {z1 : Int32} {z2 : Int32} (h : FR s0 s) (hK : ∀ s1 a0 a1 a2 a3, FR s0 s1 → FP s0 (K55 s1 a0 a1 a2 a3)) : FP s0 (gX0_wrongPlaces_110 K55 s l3 l4 l6 z0 z1 z2) := by
  unfold gX0_wrongPlaces_110
  exact fp_if (fX0_wrongPlaces_118 h (fun _ _ _ _ _ h9 => hK _ _ _ _ _ h9)) (fX0_wrongPlaces_118 h (fun _ _ _ _ _ h9 => hK _ _ _ _ _ h9))
theorem fX0_wrongPlaces_93 {K55 : wt_S → Int32 → Int32 → Int32 → Int32 → Option (Int32 × wt_S)} {l1 : Int32} {l3 : Int32} {l4 : Int32} {l6 : Int32} {l7 : Int32} (h : FR s0 s) (hK : ∀ s1 a0 a1 a2 a3, FR s0 s1 → FP s0 (K55 s1 a0 a1 a2 a3)) : FP s0 (gX0_wrongPlaces_93 K55 s l1 l3 l4 l6 l7) := by
  unfold gX0_wrongPlaces_93
  exact fp_if (fX0_wrongPlaces_110 h (fun _ _ _ _ _ h9 => hK _ _ _ _ _ h9)) (fX0_wrongPlaces_110 h (fun _ _ _ _ _ h9 => hK _ _ _ _ _ h9))
theorem fX0_wrongPlaces_55_n {K16 : wt_S → Int32 → Int32 → Int32 → Option (Int32 × wt_S)} (hK : ∀ s1 a0 a1 a2, FR s0 s1 → FP s0 (K16 s1 a0 a1 a2)) : ∀ (n : Nat) {s : wt_S} {y0 : Int32} {y1 : Int32} {y2 : Int32} {y3 : Int32}, FR s0 s → FP s0 (gX0_wrongPlaces_55 K16 n s y0 y1 y2 y3) := by
  intro n
  induction n with
  | zero => exact fun _ => fp_none
  | succ n ih =>
    intro s y0 y1 y2 y3 h
    unfold gX0_wrongPlaces_55
    exact fp_if (hK _ _ _ _ h) (fp_cl (fX0_wrongPointers h) (fun _ _ h1 => fp_cl (fX3_word h1) (fun _ _ h2 => fp_if (fX0_wrongPlaces_93 h2 (fun _ _ _ _ _ h9 => ih h9)) (fp_cl (fX0_goToCaller h2) (fun _ _ h3 => fX0_wrongPlaces_93 h3 (fun _ _ _ _ _ h9 => ih h9))))))
theorem fX0_wrongPlaces_55 {K16 : wt_S → Int32 → Int32 → Int32 → Option (Int32 × wt_S)} {n : Nat} {s : wt_S} {y0 : Int32} {y1 : Int32} {y2 : Int32} {y3 : Int32} (h : FR s0 s) (hK : ∀ s1 a0 a1 a2, FR s0 s1 → FP s0 (K16 s1 a0 a1 a2)) : FP s0 (gX0_wrongPlaces_55 K16 n s y0 y1 y2 y3) := fX0_wrongPlaces_55_n hK n h
theorem fX0_wrongPlaces_16_n   : ∀ (n : Nat) {s : wt_S} {y0 : Int32} {y1 : Int32} {y2 : Int32}, FR s0 s → FP s0 (gX0_wrongPlaces_16  n s y0 y1 y2) := by
  intro n
  induction n with
  | zero => exact fun _ => fp_none
  | succ n ih =>
    intro s y0 y1 y2 h
    unfold gX0_wrongPlaces_16
    exact fp_if (fp_some h) (fp_ix (fun _ => fp_cl (fJ7_fill_53178 h) (fun _ _ h1 => fp_cl (fX0_markNumbers h1) (fun _ _ h2 => fp_cl (fX0_goToLast h2) (fun _ _ h3 => fX0_wrongPlaces_55 h3 (fun _ _ _ _ h9 => ih h9))))))
theorem fX0_wrongPlaces_16  {n : Nat} {s : wt_S} {y0 : Int32} {y1 : Int32} {y2 : Int32} (h : FR s0 s)  : FP s0 (gX0_wrongPlaces_16  n s y0 y1 y2) := fX0_wrongPlaces_16_n n h
theorem fX0_wrongPlaces  (h : FR s0 s)  : FP s0 (gX0_wrongPlaces s) := by
  unfold gX0_wrongPlaces
  exact fX0_wrongPlaces_16 h
theorem fX0_markWords_41_n {t : Nat} {K18 : wt_S → Int32 → Option (Unit × wt_S)} (hK : ∀ s1 a0, FR s0 s1 → FP s0 (K18 s1 a0)) : ∀ (n : Nat) {s : wt_S} {y0 : Int32} {y1 : Int32} {y2 : Int32}, FR s0 s → FP s0 (gX0_markWords_41 t K18 n s y0 y1 y2) := by
  intro n
  induction n with
  | zero => exact fun _ => fp_none
  | succ n ih =>
    intro s y0 y1 y2 h
    unfold gX0_markWords_41
    exact fp_if (fp_if (hK _ _ h) (fp_cl (fX8_toCaller h) (fun _ _ h1 => hK _ _ h1))) (fp_cl (fX0_mark h) (fun _ _ h1 => ih h1))
theorem fX0_markWords_41 {t : Nat} {K18 : wt_S → Int32 → Option (Unit × wt_S)} {n : Nat} {s : wt_S} {y0 : Int32} {y1 : Int32} {y2 : Int32} (h : FR s0 s) (hK : ∀ s1 a0, FR s0 s1 → FP s0 (K18 s1 a0)) : FP s0 (gX0_markWords_41 t K18 n s y0 y1 y2) := fX0_markWords_41_n hK n h
theorem fX0_markWords_18_n {t : Nat}  : ∀ (n : Nat) {s : wt_S} {y0 : Int32}, FR s0 s → FP s0 (gX0_markWords_18 t n s y0) := by
  intro n
  induction n with
  | zero => exact fun _ => fp_none
  | succ n ih =>
    intro s y0 h
    unfold gX0_markWords_18
    exact fp_if (fp_some h) (fp_cl (fX6_frameWords h) (fun _ _ h1 => fX0_markWords_41 h1 (fun _ _ h9 => ih h9)))
theorem fX0_markWords_18 {t : Nat} {n : Nat} {s : wt_S} {y0 : Int32} (h : FR s0 s)  : FP s0 (gX0_markWords_18 t n s y0) := fX0_markWords_18_n n h
theorem fX0_markWords {t : Nat} (h : FR s0 s)  : FP s0 (gX0_markWords t s) := by
  unfold gX0_markWords
  exact fp_cl (fX8_toLast h) (fun _ _ h1 => fX0_markWords_18 h1)
theorem fX0_liesWell_123 {t : Nat} {K94 : wt_S → Int32 → Int32 → Int32 → Int32 → Option (Int32 × wt_S)} {l3 : Int32} {l4 : Int32} {l7 : Int32} {z0 : Int32} (h : FR s0 s) (hK : ∀ s1 a0 a1 a2 a3, FR s0 s1 → FP s0 (K94 s1 a0 a1 a2 a3)) : FP s0 (gX0_liesWell_123 t K94 s l3 l4 l7 z0) := by
  unfold gX0_liesWell_123
  exact hK _ _ _ _ _ h
theorem fX0_liesWell_122 {t : Nat} {K94 : wt_S → Int32 → Int32 → Int32 → Int32 → Option (Int32 × wt_S)} {l3 : Int32} {l4 : Int32} {l7 : Int32} (h : FR s0 s) (hK : ∀ s1 a0 a1 a2 a3, FR s0 s1 → FP s0 (K94 s1 a0 a1 a2 a3)) : FP s0 (gX0_liesWell_122 t K94 s l3 l4 l7) := by
  unfold gX0_liesWell_122
  exact fX0_liesWell_123 h (fun _ _ _ _ _ h9 => hK _ _ _ _ _ h9)
theorem fX0_liesWell_94_n {t : Nat}  : ∀ (n : Nat) {s : wt_S} {y0 : Int32} {y1 : Int32} {y2 : Int32} {y3 : Int32}, FR s0 s → FP s0 (gX0_liesWell_94 t n s y0 y1 y2 y3) := by
  intro n
  induction n with
  | zero => exact fun _ => fp_none
  | succ n ih =>
    intro s y0 y1 y2 y3 h
    unfold gX0_liesWell_94
    exact fp_if (fp_rz (fp_some h)) (fp_if (fX0_liesWell_122 h (fun _ _ _ _ _ h9 => ih h9)) (fp_cl (fX0_marksAt h) (fun _ _ h1 => fp_if (fX0_liesWell_122 h1 (fun _ _ _ _ _ h9 => ih h9)) (fX0_liesWell_123 h1 (fun _ _ _ _ _ h9 => ih h9)))))
theorem fX0_liesWell_94 {t : Nat} {n : Nat} {s : wt_S} {y0 : Int32} {y1 : Int32} {y2 : Int32} {y3 : Int32} (h : FR s0 s)  : FP s0 (gX0_liesWell_94 t n s y0 y1 y2 y3) := fX0_liesWell_94_n n h
theorem fX0_liesWell_89 {t : Nat} {l3 : Int32} {l4 : Int32} {z0 : Int32} (h : FR s0 s)  : FP s0 (gX0_liesWell_89 t s l3 l4 z0) := by
  unfold gX0_liesWell_89
  exact fX0_liesWell_94 h
theorem fX0_liesWell_88 {t : Nat} {l3 : Int32} {l4 : Int32} (h : FR s0 s)  : FP s0 (gX0_liesWell_88 t s l3 l4) := by
  unfold gX0_liesWell_88
  exact fX0_liesWell_89 h
theorem fX0_liesWell {t : Nat} (h : FR s0 s)  : FP s0 (gX0_liesWell t s) := by
  unfold gX0_liesWell
  exact fp_cl (fX6_frameWords h) (fun _ _ h1 => fp_cl (fX5_holding h1) (fun _ _ h2 => fp_cl (fX5_ownerOf h2) (fun _ _ h3 => fp_if (fX0_liesWell_88 h3) (fp_cl (fX5_placeOf h3) (fun _ _ h4 => fp_if (fX0_liesWell_88 h4) (fp_cl (fX5_endOf h4) (fun _ _ h5 => fp_if (fX0_liesWell_88 h5) (fX0_liesWell_89 h5))))))))
theorem fX0_wrongFrames_110 {K90 : wt_S → Int32 → Int32 → Int32 → Nat → Int32 → Option (Int32 × wt_S)} {l3 : Int32} {l4 : Int32} {t5 : Nat} {l6 : Int32} {z0 : Int32} {z1 : Int32} (h : FR s0 s) (hK : ∀ s1 a0 a1 a2 a3 a4, FR s0 s1 → FP s0 (K90 s1 a0 a1 a2 a3 a4)) : FP s0 (gX0_wrongFrames_110 K90 s l3 l4 t5 l6 z0 z1) := by
  unfold gX0_wrongFrames_110
  exact fp_if (hK _ _ _ _ _ _ h) (fp_cl (fX8_toCaller h) (fun _ _ h1 => hK _ _ _ _ _ _ h1))
theorem fX0_wrongFrames_90_n {K59 : wt_S → Int32 → Int32 → Int32 → Option (Int32 × wt_S)} (hK : ∀ s1 a0 a1 a2, FR s0 s1 → FP s0 (K59 s1 a0 a1 a2)) : ∀ (n : Nat) {s : wt_S} {y0 : Int32} {y1 : Int32} {y2 : Int32} {y3 : Nat} {y4 : Int32}, FR s0 s → FP s0 (gX0_wrongFrames_90 K59 n s y0 y1 y2 y3 y4) := by
  intro n
  induction n with
  | zero => exact fun _ => fp_none
  | succ n ih =>
    intro s y0 y1 y2 y3 y4 h
    unfold gX0_wrongFrames_90
    exact fp_if (hK _ _ _ _ h) (fp_cl (fX0_liesWell h) (fun _ _ h1 => fp_if (fX0_wrongFrames_110 h1 (fun _ _ _ _ _ _ h9 => ih h9)) (fX0_wrongFrames_110 h1 (fun _ _ _ _ _ _ h9 => ih h9))))
theorem fX0_wrongFrames_90 {K59 : wt_S → Int32 → Int32 → Int32 → Option (Int32 × wt_S)} {n : Nat} {s : wt_S} {y0 : Int32} {y1 : Int32} {y2 : Int32} {y3 : Nat} {y4 : Int32} (h : FR s0 s) (hK : ∀ s1 a0 a1 a2, FR s0 s1 → FP s0 (K59 s1 a0 a1 a2)) : FP s0 (gX0_wrongFrames_90 K59 n s y0 y1 y2 y3 y4) := fX0_wrongFrames_90_n hK n h
theorem fX0_wrongFrames_59_n   : ∀ (n : Nat) {s : wt_S} {y0 : Int32} {y1 : Int32} {y2 : Int32}, FR s0 s → FP s0 (gX0_wrongFrames_59  n s y0 y1 y2) := by
  intro n
  induction n with
  | zero => exact fun _ => fp_none
  | succ n ih =>
    intro s y0 y1 y2 h
    unfold gX0_wrongFrames_59
    exact fp_if (fp_some h) (fp_ix (fun _ => fp_cl (fX8_toLast h) (fun _ _ h1 => fX0_wrongFrames_90 h1 (fun _ _ _ _ h9 => ih h9))))
theorem fX0_wrongFrames_59  {n : Nat} {s : wt_S} {y0 : Int32} {y1 : Int32} {y2 : Int32} (h : FR s0 s)  : FP s0 (gX0_wrongFrames_59  n s y0 y1 y2) := fX0_wrongFrames_59_n n h
theorem fX0_wrongFrames_21_n   : ∀ (n : Nat) {s : wt_S} {y0 : Int32} {y1 : Int32}, FR s0 s → FP s0 (gX0_wrongFrames_21  n s y0 y1) := by
  intro n
  induction n with
  | zero => exact fun _ => fp_none
  | succ n ih =>
    intro s y0 y1 h
    unfold gX0_wrongFrames_21
    exact fp_if (fX0_wrongFrames_59 h) (fp_ix (fun _ => fp_cl (fX0_markWords h) (fun _ _ h1 => ih h1)))
theorem fX0_wrongFrames_21  {n : Nat} {s : wt_S} {y0 : Int32} {y1 : Int32} (h : FR s0 s)  : FP s0 (gX0_wrongFrames_21  n s y0 y1) := fX0_wrongFrames_21_n n h
theorem fX0_wrongFrames  (h : FR s0 s)  : FP s0 (gX0_wrongFrames s) := by
  unfold gX0_wrongFrames
  exact fp_cl (fJ7_fill_53178 h) (fun _ _ h1 => fX0_wrongFrames_21 h1)
theorem fX10_never {i1 : Int32} (h : FR s0 s)  : FP s0 (gX10_never s i1) := by
  unfold gX10_never
  exact fp_if (fp_some h) (fp_if (fp_if (fp_if (fp_cl (fX0_wrongFrames h) (fun _ _ h1 => fp_some h1)) (fp_cl (fX0_wrongPlaces h) (fun _ _ h1 => fp_some h1))) (fp_some h)) (fp_some h))
end
