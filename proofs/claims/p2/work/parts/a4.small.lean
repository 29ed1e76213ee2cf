/-! ===== the class: what is asked of program, memory, log ===== -/
theorem ci9 : (10 : Int32).toInt = 10 := by decide
section
variable {q : Nat} {s : wt_S} {w : Nat → Int32} {f l k : Nat}
theorem c_sizeOf (h : RP q s w) (hf : f < 10) : gX6_sizeOf q s (nI f) = some (w (2228 + f), s) := by
  unfold gX6_sizeOf
  rw [if_neg (c_lo (by omega)), if_neg (by rw [nI_int (by omega), ci9]; omega), ix_nI hf (by omega), (h.1 f hf).1]
theorem c_sizeOf_n {x : Int32} (hx : ¬ (0 ≤ x.toInt ∧ x.toInt ≤ 9)) : gX6_sizeOf q s x = some (0, s) := by
  unfold gX6_sizeOf
  by_cases c : x.toInt < (0 : Int32).toInt
  · rw [if_pos c]
  · rw [ci0] at c
    rw [if_neg (by rw [ci0]; exact c), if_pos (by rw [ci9]; omega)]
theorem c_told (h : RP q s w) {x : Int32} : gX6_told q s x = some (rb (tld w x), s) := by
  unfold gX6_told
  by_cases c : 0 ≤ x.toInt ∧ x.toInt ≤ 9
  · obtain ⟨n, hn, rfl⟩ := nI_ex c.1
    have hi := nI_int hn
    have hn9 : n < 10 := by omega
    rw [c_sizeOf h hn9, cl_some]
    have e : (nI n).toInt.toNat = n := by rw [hi]; omega
    by_cases c2 : (w (2228 + n)).toInt ≤ (0 : Int32).toInt
    · rw [if_pos c2, rb_neg (fun hq => by have := hq.2; rw [e] at this; rw [ci0] at c2; omega)]
    · rw [if_neg c2, rb_pos ⟨c, by rw [e]; rw [ci0] at c2; omega⟩]
  · rw [c_sizeOf_n c, cl_some, if_pos (Int.le_refl _), rb_neg (fun hq => c hq.1)]
theorem c_isPointer (h : RP q s w) (hf : f < 10) : gX6_isPointer q s (nI f) (nI k) = some (rb (bt (w (2238 + f)) k), s) := by
  unfold gX6_isPointer
  rw [if_neg (c_lo (by omega)), if_neg (by rw [nI_int (by omega), ci9]; omega), ix_nI hf (by omega), (h.1 f hf).2.1]
  by_cases c : bt (w (2238 + f)) k
  · rw [if_neg (fun e => e c), rb_pos c]
  · rw [if_pos c, rb_neg c]
theorem c_isPointer0 (h : RP q s w) (hf : f < 10) : gX6_isPointer q s (nI f) 0 = some (rb (bt (w (2238 + f)) 0), s) := c_isPointer (k := 0) h hf
theorem c_frameWords (h : RP q s w) (hp : Ipr w) (hf : f < 10) : gX6_frameWords q s (nI f) = some (nI (vwd w f), s) := by
  unfold gX6_frameWords
  rw [c_sizeOf h hf, cl_some, Int32.add_comm, (hp.wd hf).1]
theorem c_part (h : RP q s w) (hp : Ipr w) (hf : f < 10) (hl : l < vli w f) {j : Nat} (hj : j < 4) : gX6_part q s (nI f) (nI l) (nI j) = some (w (vco f l + j), s) := by
  have hli := hp.li hf
  unfold gX6_part
  rw [if_neg (c_lo (by omega)), if_neg (by rw [nI_int (by omega), ci9]; omega), if_neg (c_lo (by omega)), ix_nI hf (by omega), (h.1 f hf).2.2.1, hli.1, if_pos (by rw [nI_int (by omega), nI_int (by omega)]; omega)]
  rw [show (nI f * 16 + nI l) * 4 + nI j = nI ((f * 16 + l) * 4 + j) by rw [li_mul2, nI_add, li_mul2, nI_add]]
  rw [if_neg (c_lo (by omega)), if_neg (by rw [nI_int (by omega)]; show ¬ (640 : Int) ≤ _; omega), ix_nI (by omega) (by omega), h.2 _ (by omega)]
  unfold vco
  rw [show 2258 + ((f * 16 + l) * 4 + j) = 2258 + 4 * (16 * f + l) + j by omega]
theorem c_part0 (h : RP q s w) (hp : Ipr w) (hf : f < 10) (hl : l < vli w f) : gX6_part q s (nI f) (nI l) 0 = some (w (vco f l), s) := c_part (j := 0) h hp hf hl (by omega)
theorem c_part1 (h : RP q s w) (hp : Ipr w) (hf : f < 10) (hl : l < vli w f) : gX6_part q s (nI f) (nI l) 1 = some (w (vco f l + 1), s) := c_part (j := 1) h hp hf hl (by omega)
theorem c_part2 (h : RP q s w) (hp : Ipr w) (hf : f < 10) (hl : l < vli w f) : gX6_part q s (nI f) (nI l) 2 = some (w (vco f l + 2), s) := c_part (j := 2) h hp hf hl (by omega)
theorem c_part3 (h : RP q s w) (hp : Ipr w) (hf : f < 10) (hl : l < vli w f) : gX6_part q s (nI f) (nI l) 3 = some (w (vco f l + 3), s) := c_part (j := 3) h hp hf hl (by omega)
theorem c_part_n (h : RP q s w) (hp : Ipr w) (hf : f < 10) (hl : vli w f ≤ l) (hb : l < 2147483648) {j : Int32} : gX6_part q s (nI f) (nI l) j = some (-1, s) := by
  have hli := hp.li hf
  unfold gX6_part
  rw [if_neg (c_lo (by omega)), if_neg (by rw [nI_int (by omega), ci9]; omega), if_neg (c_lo hb), ix_nI hf (by omega), (h.1 f hf).2.2.1, hli.1, if_neg (by rw [nI_int (by omega), nI_int (by omega)]; omega)]
theorem c_isFunction {x : Int32} : gX10_isFunction s x = some (rb (0 ≤ x.toInt ∧ x.toInt ≤ 9), s) := by
  unfold gX10_isFunction
  by_cases c1 : x.toInt < (0 : Int32).toInt
  · rw [if_pos c1, rb_neg (fun hq => by rw [ci0] at c1; omega)]
  · rw [if_neg c1]
    rw [ci0] at c1
    by_cases c2 : (10 : Int32).toInt ≤ x.toInt
    · rw [if_pos c2, rb_neg (fun hq => by rw [ci9] at c2; omega)]
    · rw [if_neg c2, rb_pos (by rw [ci9] at c2; omega)]
theorem c_isTask {x : Int32} : gX10_isTask s x = some (rb (0 ≤ x.toInt ∧ x.toInt ≤ 5), s) := by
  have c6 : (6 : Int32).toInt = 6 := by decide
  unfold gX10_isTask
  by_cases c1 : x.toInt < (0 : Int32).toInt
  · rw [if_pos c1, rb_neg (fun hq => by rw [ci0] at c1; omega)]
  · rw [if_neg c1]
    rw [ci0] at c1
    by_cases c2 : (6 : Int32).toInt ≤ x.toInt
    · rw [if_pos c2, rb_neg (fun hq => by rw [c6] at c2; omega)]
    · rw [if_neg c2, rb_pos (by rw [c6] at c2; omega)]
theorem c_deepOf (h : RP q s w) (hf : f < 10) : gX6_deepOf q s (nI f) = some (if 1 ≤ vsz w f then vdI (vdp w 10 f) else 0, s) := by
  unfold gX6_deepOf
  rw [c_isFunction, cl_some, if_rb, if_pos (by rw [nI_int (by omega)]; omega), ix_nI hf (by omega), (h.1 f hf).2.2.2]
end
section
variable {b lim : Nat} {s : wt_S} {w : Nat → Int32} {f k p : Nat}
theorem c_covers (h : RP 5 s w) (hg : CG b s w) (hp : Ipr w) (hf : f < 10) (hs : 1 ≤ vsz w f) (hm : w 2050 = 0 ∨ w 2050 = 1) {z : Nat} (hr : w 2051 = nI z) (hz : z ≤ 80) : gX9_covers b s (nI f) = some (rb (vmg w f = true), s) := by
  have e2 : s (b + 1) 2 = w 2050 := hg.1 2 (by omega)
  have e3 : s (b + 1) 3 = w 2051 := hg.1 3 (by omega)
  unfold gX9_covers
  rw [c_deepOf h hf, cl_some, if_pos hs, e2, e3]
  unfold vmg
  rcases hm with hm | hm
  · rw [hm, if_pos (by decide), rb_neg (by simp)]
  · rw [hm, if_neg (by decide)]
    cases e : vdp w 10 f with
    | none =>
      show (if vdI none = (-2 : Int32) then _ else _) = _
      rw [if_pos (show vdI none = (-2 : Int32) from rfl), rb_neg (by simp)]
    | some d =>
      have hd := vdp_le hp hf e
      have e1 : vdI (some d) = nI d := rfl
      rw [e1, if_neg (fun hq => by
        have := congrArg Int32.toInt hq
        rw [nI_int (by omega)] at this
        have h2 : (-2 : Int32).toInt = -2 := by decide
        omega), hr, nI_int (by omega), nI_int (by omega)]
      have e4 : (nI z).toInt.toNat = z := by rw [nI_int (by omega)]; omega
      by_cases c : z < d
      · rw [if_pos (by omega), rb_neg]
        simp only [Bool.and_eq_true, decide_eq_true_eq, not_and, Nat.not_le]
        intro _
        omega
      · rw [if_neg (by omega), rb_pos]
        simp only [Bool.and_eq_true, decide_eq_true_eq]
        exact ⟨by decide, by omega⟩
theorem c_needOf (h : RP 5 s w) (hg : CG b s w) (hp : Ipr w) (hf : f < 10) (hs : 1 ≤ vsz w f) (hm : w 2050 = 0 ∨ w 2050 = 1) {z : Nat} (hr : w 2051 = nI z) (hz : z ≤ 80) : gX9_needOf b s (nI f) = some (nI (vnd w f), s) := by
  unfold gX9_needOf
  rw [c_covers h hg hp hf hs hm hr hz, cl_some, if_rb]
  unfold vnd
  by_cases c : vmg w f = true
  · rw [if_pos c, if_pos c, c_deepOf h hf, cl_some, if_pos hs]
    unfold vmg at c
    rw [Bool.and_eq_true] at c
    cases e : vdp w 10 f with
    | none => rw [e] at c; simp at c
    | some d => rfl
  · rw [if_neg c, if_neg c, c_frameWords h hp hf, cl_some]
theorem c_word (hp : p < wt_mz b) : gX3_word b s (nI p) = some (s (b + 15) p, s) := by
  have hm := wt_mzn (b := b)
  unfold gX3_word
  rw [if_neg (c_lo (by omega)), if_neg (by rw [wt_mzi, nI_int (by omega)]; omega), ix_nI hp (by omega)]
theorem c_word_m : gX3_word b s (-1) = some (-1, s) := by
  unfold gX3_word
  rw [if_pos c_m1]
theorem c_put {v : Int32} (hp : p < wt_mz b) : gX3_put b s (nI p) v = some ((), wt_u s (b + 15) p v) := by
  have hm := wt_mzn (b := b)
  unfold gX3_put
  rw [if_neg (c_lo (by omega)), if_neg (by rw [wt_mzi, nI_int (by omega)]; omega), ix_nI hp (by omega), wr_eq]
theorem c_put_m {v : Int32} : gX3_put b s (-1) v = some ((), s) := by
  unfold gX3_put
  rw [if_pos c_m1]
theorem c_add {T : Nat} {v : Int32} (hk : k < 12) (hT : b + 13 ≠ T + 1) : gX9_add b T s (nI k) v = some ((), wt_u (wt_u s (T + 1) k (s (T + 1) k + v)) (b + 13) k (s (b + 13) k + v)) := by
  unfold gX9_add
  rw [if_neg (c_lo (by omega)), if_neg (by rw [nI_int (by omega)]; show ¬ (12 : Int) ≤ _; omega), ix_nI hk (by omega), ix_nI hk (by omega), wr_eq, ix_nI hk (by omega), ix_nI hk (by omega), wr_eq, wt_u_ne hT]
/-- only the log changes -/
def LF (b : Nat) (s s' : wt_S) : Prop := ∀ c, c ≠ b + 11 → c ≠ b + 12 → s' c = s c
theorem LF.refl : LF b s s := fun _ _ _ => rfl
theorem LF.u {s1 : wt_S} {c j : Nat} {v : Int32} (h : LF b s s1) (hc : c = b + 11 ∨ c = b + 12) : LF b s (wt_u s1 c j v) := fun d h1 h2 => (wt_u_ne (by omega)).trans (h d h1 h2)
theorem c_write {i1 i2 i3 i4 : Int32} : Ok (fun _ s' => LF b s s') (gX1_write b s i1 i2 i3 i4) := by
  have l0 : (0 : Int32).toInt = 0 := rfl
  unfold gX1_write
  have hr := rem40 (s (b + 11) 1)
  generalize (s (b + 11) 1 - s (b + 11) 1 / 40 * 40) = y at *
  refine ok_if (fun _ => ok_some LF.refl) (fun c => ok_if (fun _ => ok_some LF.refl) (fun _ => ?_))
  have r0 := r40_4 hr (by omega) 0 (by omega)
  have r1 := r40_4 hr (by omega) 1 (by omega)
  have r2 := r40_4 hr (by omega) 2 (by omega)
  have r3 := r40_4 hr (by omega) 3 (by omega)
  rw [show y * 4 + nI 0 = y * 4 from Int32.add_zero _] at r0
  refine ok_ix (by omega) (by omega) (fun k2 _ _ => ok_wr ?_)
  refine ok_ix r1.1 r1.2 (fun k2 _ _ => ok_wr ?_)
  refine ok_ix r2.1 r2.2 (fun k2 _ _ => ok_wr ?_)
  refine ok_ix r3.1 r3.2 (fun k2 _ _ => ok_wr (ok_wr (ok_some ?_)))
  exact ((((LF.refl.u (Or.inr rfl)).u (Or.inr rfl)).u (Or.inr rfl)).u (Or.inr rfl)).u (Or.inl rfl)
theorem c_writeLog {i1 : Int32} {i : Nat} (hi : i < 256) : ∃ s', gX9_writeLog b s i1 (nI i) = some ((), s') ∧ LF b s s' := by
  unfold gX9_writeLog
  rw [c_ownerOf hi, cl_some, c_placeOf hi, cl_some, c_wordsOf hi, cl_some]
  obtain ⟨r, s', e, h⟩ := c_write (b := b) (s := s) (i1 := i1) (i2 := s (b + 7) i) (i3 := s (b + 3) i) (i4 := s (b + 4) i)
  rw [e, cl_some]
  exact ⟨s', rfl, h⟩
end
section
variable {b lim : Nat} {s s' : wt_S} {V V' : vV} {zs : List (vP × Nat)} {fr : List Nat} {t k : Nat}
theorem TO.lf (h : LF b s s') : TO b t s s' := ⟨fun k _ _ => ⟨h _ (by omega) (by omega), h _ (by omega) (by omega)⟩, fun c hc => h c (by omega) (by omega)⟩
/-- what RC looks at has not changed -/
theorem RC.eq (h : RC b lim s V zs fr) (hx : CX b lim) (he : ∀ c, c ≠ b + 11 → c ≠ b + 12 → c ≠ b + 9 → c ≠ b + 16 → c < b + 29 → s' c = s c) : RC b lim s' V zs fr := by
  have hb := hx.b
  obtain ⟨h1, h2, ⟨h3, h3'⟩, h4, h5, ⟨h6, h6'⟩⟩ := h
  refine ⟨h1, h2.eq (fun c hc => he c (by omega) (by omega) (by omega) (by omega) (by omega)), ⟨?_, ?_⟩, fun k hk => ?_, ?_, ?_, ?_⟩
  · rw [he _ (by omega) (by omega) (by omega) (by omega) (by omega)]; exact h3
  · rw [he _ (by omega) (by omega) (by omega) (by omega) (by omega)]; exact h3'
  · have := h4 k hk
    unfold RCk Ks Kl Ka Kr Kg Kz at this ⊢
    rw [he (b + 17 + 2 * k) (by omega) (by omega) (by omega) (by omega) (by omega), he (b + 17 + 2 * k + 1) (by omega) (by omega) (by omega) (by omega) (by omega), he (b + 5) (by omega) (by omega) (by omega) (by omega) (by omega), he (b + 6) (by omega) (by omega) (by omega) (by omega) (by omega)]
    exact this
  · rw [he _ (by omega) (by omega) (by omega) (by omega) (by omega)]; exact h5
  · rw [he (5 + 1) (by omega) (by omega) (by omega) (by omega) (by omega), he (5 + 2) (by omega) (by omega) (by omega) (by omega) (by omega), he (5 + 3) (by omega) (by omega) (by omega) (by omega) (by omega), he (5 + 5) (by omega) (by omega) (by omega) (by omega) (by omega)]; exact h6
  · rw [he (5 + 4) (by omega) (by omega) (by omega) (by omega) (by omega)]; exact h6'
theorem RC.lf (h : RC b lim s V zs fr) (hx : CX b lim) (he : LF b s s') : RC b lim s' V zs fr := h.eq hx (fun c h1 h2 _ _ _ => he c h1 h2)
end
