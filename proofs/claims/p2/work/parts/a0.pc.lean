/-! ===== the class against the picture: its pieces ===== -/
theorem mj_cpy_in {V : Type} {f g : Nat → V} {s d n k : Nat} (h1 : d ≤ k) (h2 : k < d + n) : mj_cpy f g s d n k = f (s + (k - d)) := by
  unfold mj_cpy
  rw [Nat.ble_eq_true_of_le h1, Nat.ble_eq_true_of_le (show k + 1 ≤ d + n by omega)]
  rfl
theorem mj_cpy_out {V : Type} {f g : Nat → V} {s d n k : Nat} (h : k < d ∨ d + n ≤ k) : mj_cpy f g s d n k = g k := by
  unfold mj_cpy
  rcases h with h | h
  · rw [show Nat.ble d k = false by
      cases e : Nat.ble d k with
      | false => rfl
      | true => exact absurd (sy_ble_t e) (by omega)]
    rfl
  · rw [show Nat.ble (k + 1) (d + n) = false by
      cases e : Nat.ble (k + 1) (d + n) with
      | false => rfl
      | true => exact absurd (sy_ble_t e) (by omega), Bool.and_false]
theorem ci0 : (0 : Int32).toInt = 0 := by decide
theorem ci256 : (256 : Int32).toInt = 256 := by decide
theorem c_lo {k : Nat} (h : k < 2147483648) : ¬ (nI k).toInt < (0 : Int32).toInt := by
  rw [nI_int h, ci0]; omega
theorem c_hi {k : Nat} (h : k < 256) : ¬ (256 : Int32).toInt ≤ (nI k).toInt := by
  rw [nI_int (by omega), ci256]; omega
theorem c_m1 : (-1 : Int32).toInt < (0 : Int32).toInt := by decide
section
variable {s : wt_S} {b i : Nat}
theorem c_placeOf (h : i < 256) : gX5_placeOf b s (nI i) = some (s (b + 3) i, s) := by
  unfold gX5_placeOf; rw [if_neg (c_lo (by omega)), if_neg (c_hi h), ix_nI h (by omega)]
theorem c_placeOf_m : gX5_placeOf b s (-1) = some (-1, s) := by
  unfold gX5_placeOf; rw [if_pos c_m1]
theorem c_wordsOf (h : i < 256) : gX5_wordsOf b s (nI i) = some (s (b + 4) i, s) := by
  unfold gX5_wordsOf; rw [if_neg (c_lo (by omega)), if_neg (c_hi h), ix_nI h (by omega)]
theorem c_wordsOf_m : gX5_wordsOf b s (-1) = some (0, s) := by
  unfold gX5_wordsOf; rw [if_pos c_m1]
theorem c_usedOf (h : i < 256) : gX5_usedOf b s (nI i) = some (s (b + 5) i, s) := by
  unfold gX5_usedOf; rw [if_neg (c_lo (by omega)), if_neg (c_hi h), ix_nI h (by omega)]
theorem c_belowOf (h : i < 256) : gX5_belowOf b s (nI i) = some (s (b + 6) i, s) := by
  unfold gX5_belowOf; rw [if_neg (c_lo (by omega)), if_neg (c_hi h), ix_nI h (by omega)]
theorem c_belowOf_m : gX5_belowOf b s (-1) = some (-1, s) := by
  unfold gX5_belowOf; rw [if_pos c_m1]
theorem c_ownerOf (h : i < 256) : gX5_ownerOf b s (nI i) = some (s (b + 7) i, s) := by
  unfold gX5_ownerOf; rw [if_neg (c_lo (by omega)), if_neg (c_hi h), ix_nI h (by omega)]
theorem c_shiftOf (h : i < 256) : gX5_shiftOf b s (nI i) = some (s (b + 9) i, s) := by
  unfold gX5_shiftOf; rw [if_neg (c_lo (by omega)), if_neg (c_hi h), ix_nI h (by omega)]
theorem c_endOf (h : i < 256) : gX5_endOf b s (nI i) = some (s (b + 3) i + s (b + 4) i, s) := by
  unfold gX5_endOf; rw [if_neg (c_lo (by omega)), if_neg (c_hi h), ix_nI h (by omega), ix_nI h (by omega)]
theorem c_endOf_m : gX5_endOf b s (-1) = some (0, s) := by
  unfold gX5_endOf; rw [if_pos c_m1]
theorem c_topOf (h : i < 256) : gX5_topOf b s (nI i) = some (s (b + 3) i + s (b + 5) i, s) := by
  unfold gX5_topOf; rw [if_neg (c_lo (by omega)), if_neg (c_hi h), ix_nI h (by omega), ix_nI h (by omega)]
theorem c_use {v : Int32} (h : i < 256) : gX5_use b s (nI i) v = some ((), wt_u s (b + 5) i (s (b + 5) i + v)) := by
  unfold gX5_use; rw [if_neg (c_lo (by omega)), if_neg (c_hi h), ix_nI h (by omega), ix_nI h (by omega), wr_eq]
theorem c_putOver {v : Int32} (h : i < 256) : gX5_putOver b s (nI i) v = some ((), wt_u s (b + 6) i v) := by
  unfold gX5_putOver; rw [if_neg (c_lo (by omega)), if_neg (c_hi h), ix_nI h (by omega), wr_eq]
theorem c_aimAt {v : Int32} (h : i < 256) : gX5_aimAt b s (nI i) v = some ((), wt_u s (b + 9) i (v - s (b + 3) i)) := by
  unfold gX5_aimAt; rw [if_neg (c_lo (by omega)), if_neg (c_hi h), ix_nI h (by omega), ix_nI h (by omega), wr_eq]
end
/-- the ids: of the pieces by their places, then the free ones -/
def zids (zs : List (vP × Nat)) (fr : List Nat) : List Nat := zs.map Prod.snd ++ fr
/-- the pieces of a world -/
def PC (b lim : Nat) (s : wt_S) (zs : List (vP × Nat)) (fr : List Nat) : Prop :=
  s (b + 2) 7 = nI zs.length ∧ s (b + 2) 8 = nI (vall (zs.map Prod.fst)) ∧ s (b + 2) 9 = nI lim ∧ (zids zs fr).length = 256 ∧ (zids zs fr).Nodup ∧ (∀ i ∈ zids zs fr, i < 256) ∧
  (∀ x i, (zids zs fr)[x]? = some i → s (b + 8) x = nI i) ∧ ∀ z ∈ zs, s (b + 3) z.2 = nI z.1.1 ∧ s (b + 4) z.2 = nI z.1.2.1 ∧ s (b + 7) z.2 = nI z.1.2.2.1
/-- only the cells of the pieces change -/
def PF (b : Nat) (s s' : wt_S) : Prop := ∀ c, ¬ (b + 2 ≤ c ∧ c ≤ b + 9) → s' c = s c
theorem PF.refl {b : Nat} {s : wt_S} : PF b s s := fun _ _ => rfl
theorem PF.trans {b : Nat} {s s1 s2 : wt_S} (h : PF b s s1) (h' : PF b s1 s2) : PF b s s2 := fun c hc => (h' c hc).trans (h c hc)
theorem PF.u {b c k : Nat} {s : wt_S} {v : Int32} (h : b + 2 ≤ c ∧ c ≤ b + 9) : PF b s (wt_u s c k v) := fun d hd => wt_u_ne (by omega)
theorem PF.uf {b c : Nat} {s : wt_S} {f : Nat → Int32} (h : b + 2 ≤ c ∧ c ≤ b + 9) : PF b s (wt_uf s c f) := fun d hd => wt_uf_ne (by omega)
section
variable {b lim : Nat} {s s' : wt_S} {zs : List (vP × Nat)} {fr : List Nat}
theorem PC.len (h : PC b lim s zs fr) : zs.length + fr.length = 256 := by
  have := h.2.2.2.1
  unfold zids at this
  rw [List.length_append, List.length_map] at this
  exact this
theorem zids_at {x : Nat} {z : vP × Nat} (hx : zs[x]? = some z) : (zids zs fr)[x]? = some z.2 := by
  unfold zids
  have hl := (List.getElem?_eq_some_iff.mp hx).1
  rw [List.getElem?_append_left (by rw [List.length_map]; exact hl), List.getElem?_map, hx]
  rfl
theorem PC.at (h : PC b lim s zs fr) {x : Nat} {z : vP × Nat} (hx : zs[x]? = some z) : s (b + 8) x = nI z.2 ∧ z.2 < 256 ∧ x < zs.length ∧ x < 256 ∧ s (b + 3) z.2 = nI z.1.1 ∧ s (b + 4) z.2 = nI z.1.2.1 ∧ s (b + 7) z.2 = nI z.1.2.2.1 := by
  have hl := (List.getElem?_eq_some_iff.mp hx).1
  have hn := h.len
  have hi := zids_at (fr := fr) hx
  have hm := List.mem_of_getElem? hx
  exact ⟨h.2.2.2.2.2.2.1 x _ hi, h.2.2.2.2.2.1 _ (List.mem_of_getElem? hi), hl, by omega, h.2.2.2.2.2.2.2 z hm⟩
theorem PC.mem (h : PC b lim s zs fr) {z : vP × Nat} (hz : z ∈ zs) : z.2 < 256 ∧ s (b + 3) z.2 = nI z.1.1 ∧ s (b + 4) z.2 = nI z.1.2.1 ∧ s (b + 7) z.2 = nI z.1.2.2.1 := by
  obtain ⟨x, hx⟩ := List.getElem?_of_mem hz
  have := h.at hx
  exact ⟨this.2.1, this.2.2.2.2⟩
theorem PC.inj (h : PC b lim s zs fr) {z y : vP × Nat} (hz : z ∈ zs) (hy : y ∈ zs) (he : z.2 = y.2) : z = y := by
  obtain ⟨x1, h1⟩ := List.getElem?_of_mem hz
  obtain ⟨x2, h2⟩ := List.getElem?_of_mem hy
  have e1 := zids_at (fr := fr) h1
  have e2 := zids_at (fr := fr) h2
  have hn := h.2.2.2.2.1
  obtain ⟨l1, q1⟩ := List.getElem?_eq_some_iff.mp e1
  obtain ⟨l2, q2⟩ := List.getElem?_eq_some_iff.mp e2
  have : x1 = x2 := (List.getElem_inj hn).mp (by rw [q1, q2, he])
  subst this
  exact Option.some.inj (h1.symm.trans h2)
theorem PC.eq (h : PC b lim s zs fr) (he : ∀ c, c = b + 2 ∨ c = b + 3 ∨ c = b + 4 ∨ c = b + 7 ∨ c = b + 8 → s' c = s c) : PC b lim s' zs fr := by
  unfold PC
  rw [he _ (Or.inl rfl), he (b + 8) (by omega), he (b + 3) (by omega), he (b + 4) (by omega), he (b + 7) (by omega)]
  exact h
theorem c_idAt (h : PC b lim s zs fr) {x : Nat} {z : vP × Nat} (hx : zs[x]? = some z) : gX5_idAt b s (nI x) = some (nI z.2, s) := by
  obtain ⟨h1, h2, h3, h4, -⟩ := h.at hx
  have hn := h.len
  unfold gX5_idAt
  rw [if_neg (c_lo (by omega)), if_neg (by rw [h.1, nI_int (by omega), nI_int (by omega)]; omega), if_neg (c_hi h4), ix_nI h4 (by omega), h1]
theorem c_idAt_m : gX5_idAt b s (-1) = some (-1, s) := by
  unfold gX5_idAt; rw [if_pos c_m1]
theorem c_idAt_n (h : PC b lim s zs fr) {x : Nat} (hx : zs.length ≤ x) (hb : x < 2147483648) : gX5_idAt b s (nI x) = some (-1, s) := by
  have := h.len
  unfold gX5_idAt
  rw [if_neg (c_lo hb), if_pos (by rw [h.1, nI_int (by omega), nI_int hb]; omega)]
/-- the end of what lies before a rank -/
def zend (zs : List (vP × Nat)) (x : Nat) : Nat := match x with
  | 0 => 0
  | x + 1 => match zs[x]? with
    | some z => z.1.1 + z.1.2.1
    | none => 0
theorem zend_s {x : Nat} {z : vP × Nat} (h : zs[x]? = some z) : zend zs (x + 1) = z.1.1 + z.1.2.1 := by
  show (match zs[x]? with
    | some z => z.1.1 + z.1.2.1
    | none => 0) = _
  rw [h]
theorem c_gapFrom (h : PC b lim s zs fr) {x : Nat} (hx : x ≤ zs.length) : gX5_gapFrom b s (nI x) = some (nI (zend zs x), s) := by
  have hn := h.len
  unfold gX5_gapFrom
  cases x with
  | zero => rw [show nI 0 - 1 = (-1 : Int32) by decide, c_idAt_m, cl_some, c_endOf_m]; rfl
  | succ x =>
    have hl : x < zs.length := by omega
    have hz : zs[x]? = some zs[x] := List.getElem?_eq_getElem hl
    obtain ⟨h1, h2, h3, h4, h5, h6, h7⟩ := h.at hz
    rw [show nI (x + 1) - 1 = nI x by rw [i_sub1, nI_pred2], c_idAt h hz, cl_some, c_endOf h2, cl_some, h5, h6, nI_add, zend_s hz]
theorem c_gapTo (h : PC b lim s zs fr) {x : Nat} {z : vP × Nat} (hx : zs[x]? = some z) : gX5_gapTo b s (nI x) = some (nI z.1.1, s) := by
  obtain ⟨h1, h2, h3, h4, h5, h6, h7⟩ := h.at hx
  have hn := h.len
  unfold gX5_gapTo
  rw [if_neg (by rw [h.1, nI_int (by omega), nI_int (by omega)]; omega), c_idAt h hx, cl_some, c_placeOf h2, cl_some, h5]
theorem c_gapTo_n (h : PC b lim s zs fr) : gX5_gapTo b s (nI zs.length) = some (nI lim, s) := by
  have hn := h.len
  unfold gX5_gapTo
  rw [if_pos (by rw [h.1]; exact Int.le_refl _), h.2.2.1]
end
