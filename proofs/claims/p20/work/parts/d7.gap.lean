section
/-! ===== gap: the same answers ===== -/
/-- what gap answers, from a piece on: e is the end of what lies before, c gaps were there -/
def vgq (lim : Nat) (k what : Int32) : List vP → Nat → Int32 → Int32
  | [], e, c => if lim ≤ e then (if k ≠ -1 then -1 else c) else if c ≠ k then (if k ≠ -1 then -1 else c + 1) else (if what ≠ 0 then (if what ≠ 1 then -1 else nI lim - nI e) else nI e)
  | q :: ps, e, c => if q.1 ≤ e then vgq lim k what ps (q.1 + q.2.1) c else if c ≠ k then vgq lim k what ps (q.1 + q.2.1) (c + 1) else (if what ≠ 0 then (if what ≠ 1 then -1 else nI q.1 - nI e) else nI e)
section
variable {F B : Nat} {s : wt_S} {V : vV} {k what : Int32} {lim : Nat} {zs : List (vP × Nat)} {fr : List Nat}
theorem vgq_n (hk : k ≠ -1) (h0 : what ≠ 0) (h1 : what ≠ 1) : ∀ (ps : List vP) (e : Nat) (c : Int32), vgq lim k what ps e c = -1 := by
  intro ps
  induction ps with
  | nil =>
    intro e c
    rw [vgq]
    by_cases c1 : lim ≤ e
    · rw [if_pos c1, if_pos hk]
    · rw [if_neg c1]
      by_cases c2 : c ≠ k
      · rw [if_pos c2, if_pos hk]
      · rw [if_neg c2, if_pos h0, if_pos h1]
  | cons q ps ih =>
    intro e c
    rw [vgq]
    by_cases c1 : q.1 ≤ e
    · rw [if_pos c1]; exact ih _ _
    · rw [if_neg c1]
      by_cases c2 : c ≠ k
      · rw [if_pos c2]; exact ih _ _
      · rw [if_neg c2, if_pos h0, if_pos h1]
theorem q_gap_8 (h : vr_P (s 111) V.2.1) (ho : vo 2048 V.2.1) : ∀ (qs : List vP) (i fu e : Nat) (c : Int32), V.2.1.drop i = qs → qs.length + 1 < fu → i + qs.length = V.2.1.length → e ≤ 2048 → gX11_gap_8 fu s k what c (nI e) (nI i) = some (vgq 2048 k what qs e c, s) := by
  have hl := h.2.1
  have q48 : (2048 : Int32).toInt = 2048 := by decide
  intro qs
  induction qs with
  | nil =>
    intro i fu e c hd hfu hi he
    have hi : i + 0 = V.2.1.length := hi
    have hfu : 0 + 1 < fu := hfu
    obtain ⟨fu, rfl⟩ : ∃ m, fu = m + 1 + 1 := ⟨fu - 2, by omega⟩
    have nx : ∀ (c4 c5 : Int32), gX11_gap_92 (gX11_gap_8 (fu + 1)) s k what c4 (nI e) (nI i) c5 = some ((if k ≠ -1 then -1 else c4), s) := fun c4 c5 => by
      unfold gX11_gap_92
      rw [h.1, if_pos (by rw [nI_int (by omega), nI_int (by omega)]; omega), nI_1, gX11_gap_8, h.1, if_pos (by rw [nI_int (by omega), nI_int (by omega)]; omega)]
      by_cases ck : k ≠ -1
      · rw [if_pos ck, if_pos ck]
      · rw [if_neg ck, if_neg ck]
    rw [gX11_gap_8, h.1, if_neg (by rw [nI_int (by omega), nI_int (by omega)]; omega), if_pos (by rw [nI_int (by omega), nI_int (by omega)]; omega)]
    unfold gX11_gap_51
    rw [vgq, q48, nx, nx]
    by_cases c1 : 2048 ≤ e
    · rw [if_pos (by rw [nI_int (by omega)]; omega), if_pos c1]
    · rw [if_neg (by rw [nI_int (by omega)]; omega), if_neg c1]
      by_cases c2 : c ≠ k
      · rw [if_pos c2, if_pos c2]
      · rw [if_neg c2, if_neg c2]
        by_cases c3 : what ≠ 0
        · rw [if_pos c3, if_pos c3]
          by_cases c4 : what ≠ 1
          · rw [if_pos c4, if_pos c4]
          · rw [if_neg c4, if_neg c4]
            rfl
        · rw [if_neg c3, if_neg c3]
  | cons q qs ih =>
    intro i fu e c hd hfu hi he
    have hi : i + (qs.length + 1) = V.2.1.length := hi
    have hfu : qs.length + 1 + 1 < fu := hfu
    obtain ⟨fu, rfl⟩ : ∃ m, fu = m + 1 := ⟨fu - 1, by omega⟩
    obtain ⟨d1, d2, d3⟩ := drop_cons hd
    have hq := (ho.2 q (List.mem_of_getElem? d1)).2.1
    obtain ⟨r1, r2, -⟩ := h.2.2 i q d1
    have nx : ∀ (c4 : Int32), gX11_gap_92 (gX11_gap_8 fu) s k what c4 (nI e) (nI i) (nI q.1) = some (vgq 2048 k what qs (q.1 + q.2.1) c4, s) := fun c4 => by
      unfold gX11_gap_92
      rw [h.1, if_neg (by rw [nI_int (by omega), nI_int (by omega)]; omega), li_add, ix_nI (by omega) (by omega), r2, nI_add, nI_1]
      exact ih (i + 1) fu (q.1 + q.2.1) c4 d2 (by omega) (by omega) hq
    rw [gX11_gap_8, h.1, if_neg (by rw [nI_int (by omega), nI_int (by omega)]; omega), if_neg (by rw [nI_int (by omega), nI_int (by omega)]; omega), li_add, ix_nI (by omega) (by omega), r1]
    unfold gX11_gap_51
    rw [vgq, nx, nx]
    by_cases c1 : q.1 ≤ e
    · rw [if_pos (by rw [nI_int (by omega), nI_int (by omega)]; omega), if_pos c1]
    · rw [if_neg (by rw [nI_int (by omega), nI_int (by omega)]; omega), if_neg c1]
      by_cases c2 : c ≠ k
      · rw [if_pos c2, if_pos c2]
      · rw [if_neg c2, if_neg c2]
        by_cases c3 : what ≠ 0
        · rw [if_pos c3, if_pos c3]
          by_cases c4 : what ≠ 1
          · rw [if_pos c4, if_pos c4]
          · rw [if_neg c4, if_neg c4]
        · rw [if_neg c3, if_neg c3]
theorem c_gapFact_5 (h : PC 11 lim s zs fr) (ho : vo lim (zs.map Prod.fst)) (hl : lim ≤ 10000) (hk : k ≠ -1) (hw : what = 0 ∨ what = 1) : ∀ (qs : List (vP × Nat)) (i fu : Nat) (c : Int32), zs.drop i = qs → qs.length + 1 < fu → i + qs.length = zs.length → gX5_gapFact_5 11 fu s k what c (nI i) = some (vgq lim k what (qs.map Prod.fst) (zend zs i) c, s) := by
  have hn := h.len
  have q0 : (0 : Int32).toInt = 0 := by decide
  intro qs
  induction qs with
  | nil =>
    intro i fu c hd hfu hi
    have hi : i + 0 = zs.length := hi
    have hfu : 0 + 1 < fu := hfu
    obtain ⟨fu, rfl⟩ : ∃ m, fu = m + 1 + 1 := ⟨fu - 2, by omega⟩
    obtain rfl : i = zs.length := by omega
    have he := zend_lim (x := zs.length) ho
    have hs : nI lim - nI (zend zs zs.length) = nI (lim - zend zs zs.length) := nI_sub he
    have nx : ∀ c4 : Int32, gX5_gapFact_5 11 (fu + 1) s k what c4 (nI zs.length + 1) = some (-1, s) := fun c4 => by
      rw [show nI zs.length + 1 = nI (zs.length + 1) from nI_add _ 1, gX5_gapFact_5, h.1, if_pos (by rw [nI_int (by omega), nI_int (by omega)]; omega)]
    rw [gX5_gapFact_5, h.1, if_neg (by rw [nI_int (by omega)]; omega), c_gapFrom h (Nat.le_refl _), cl_some, c_gapTo_n h, cl_some, hs, q0, nI_int (by omega), nx, nx, List.map_nil, vgq, if_pos hk, if_pos hk, hs]
    by_cases c1 : lim ≤ zend zs zs.length
    · rw [if_pos (by omega), if_pos c1]
    · rw [if_neg (by omega), if_neg c1]
      by_cases c2 : c ≠ k
      · rw [if_pos c2, if_pos c2]
      · rw [if_neg c2, if_neg c2]
        rcases hw with rfl | rfl
        · rw [if_neg (by decide), if_neg (by decide)]
        · rw [if_pos (by decide), if_pos (by decide), if_neg (by decide)]
  | cons z qs ih =>
    intro i fu c hd hfu hi
    have hi : i + (qs.length + 1) = zs.length := hi
    have hfu : qs.length + 1 + 1 < fu := hfu
    obtain ⟨fu, rfl⟩ : ∃ m, fu = m + 1 := ⟨fu - 1, by omega⟩
    obtain ⟨d1, d2, d3⟩ := drop_cons hd
    have he := zend_le ho d1
    have hzl := (ho.2 z.1 (List.mem_map.mpr ⟨z, List.mem_of_getElem? d1, rfl⟩)).2.1
    have hs : nI z.1.1 - nI (zend zs i) = nI (z.1.1 - zend zs i) := nI_sub he
    have nx : ∀ c4 : Int32, gX5_gapFact_5 11 fu s k what c4 (nI i + 1) = some (vgq lim k what (qs.map Prod.fst) (z.1.1 + z.1.2.1) c4, s) := fun c4 => by
      rw [show nI i + 1 = nI (i + 1) from nI_add _ 1, ih (i + 1) fu c4 d2 (by omega) (by omega), zend_s d1]
    rw [gX5_gapFact_5, h.1, if_neg (by rw [nI_int (by omega), nI_int (by omega)]; omega), c_gapFrom h (by omega), cl_some, c_gapTo h d1, cl_some, hs, q0, nI_int (by omega), nx, nx, List.map_cons, vgq, hs]
    by_cases c1 : z.1.1 ≤ zend zs i
    · rw [if_pos (by omega), if_pos c1]
    · rw [if_neg (by omega), if_neg c1]
      by_cases c2 : c ≠ k
      · rw [if_pos c2, if_pos c2]
      · rw [if_neg c2, if_neg c2]
        rcases hw with rfl | rfl
        · rw [if_neg (by decide), if_neg (by decide)]
        · rw [if_pos (by decide), if_pos (by decide), if_neg (by decide)]
theorem c_gaps_4 (h : PC 11 lim s zs fr) (ho : vo lim (zs.map Prod.fst)) (hl : lim ≤ 10000) : ∀ (qs : List (vP × Nat)) (i fu j : Nat), zs.drop i = qs → qs.length + 1 < fu → i + qs.length = zs.length → j ≤ i → gX5_gaps_4 11 fu s (nI j) (nI i) = some (vgq lim (-1) what (qs.map Prod.fst) (zend zs i) (nI j), s) := by
  have hn := h.len
  intro qs
  induction qs with
  | nil =>
    intro i fu j hd hfu hi hj
    have hi : i + 0 = zs.length := hi
    have hfu : 0 + 1 < fu := hfu
    obtain ⟨fu, rfl⟩ : ∃ m, fu = m + 1 + 1 := ⟨fu - 2, by omega⟩
    obtain rfl : i = zs.length := by omega
    have he := zend_lim (x := zs.length) ho
    have nx : ∀ z1 : Int32, gX5_gaps_31 11 (gX5_gaps_4 11 (fu + 1)) s (nI zs.length) (nI j) z1 = some (nI j + z1, s) := fun z1 => by
      unfold gX5_gaps_31
      rw [show nI zs.length + 1 = nI (zs.length + 1) from nI_add _ 1, gX5_gaps_4, h.1, if_pos (by rw [nI_int (by omega), nI_int (by omega)]; omega)]
    rw [gX5_gaps_4, h.1, if_neg (by rw [nI_int (by omega)]; omega), c_gapTo_n h, cl_some, c_gapFrom h (Nat.le_refl _), cl_some, nI_int (by omega), nI_int (by omega), nx, nx, List.map_nil, vgq, if_neg (show ¬ ((-1 : Int32) ≠ -1) from fun q => q rfl), if_pos (show nI j ≠ -1 from nI_nm (by omega)), if_neg (show ¬ ((-1 : Int32) ≠ -1) from fun q => q rfl)]
    by_cases c1 : lim ≤ zend zs zs.length
    · rw [if_pos (by omega), if_pos c1, Int32.add_zero]
    · rw [if_neg (by omega), if_neg c1]
  | cons z qs ih =>
    intro i fu j hd hfu hi hj
    have hi : i + (qs.length + 1) = zs.length := hi
    have hfu : qs.length + 1 + 1 < fu := hfu
    obtain ⟨fu, rfl⟩ : ∃ m, fu = m + 1 := ⟨fu - 1, by omega⟩
    obtain ⟨d1, d2, d3⟩ := drop_cons hd
    have he := zend_le ho d1
    have hzl := (ho.2 z.1 (List.mem_map.mpr ⟨z, List.mem_of_getElem? d1, rfl⟩)).2.1
    rw [gX5_gaps_4, h.1, if_neg (by rw [nI_int (by omega), nI_int (by omega)]; omega), c_gapTo h d1, cl_some, c_gapFrom h (by omega), cl_some, nI_int (by omega), nI_int (by omega), List.map_cons, vgq, if_pos (show nI j ≠ -1 from nI_nm (by omega))]
    unfold gX5_gaps_31
    rw [Int32.add_zero, show nI i + 1 = nI (i + 1) from nI_add _ 1, show nI j + 1 = nI (j + 1) from nI_add _ 1, ih (i + 1) fu j d2 (by omega) (by omega) (by omega), ih (i + 1) fu (j + 1) d2 (by omega) (by omega) (by omega), zend_s d1]
    by_cases c1 : z.1.1 ≤ zend zs i
    · rw [if_pos (by omega), if_pos c1]
    · rw [if_neg (by omega), if_neg c1]
theorem lo_gapE {a b : Int32} (h : LJ F B s) : LO F B s (gX10_gap s a b) (fun s1 => gX11_gap s1 a b) Eq := lo_eq h (fun V hI hn => by
  show ∃ r, gX10_gap s a b = some (r, s) ∧ ∀ s1, RS s1 V → ∃ s2, gX11_gap s1 a b = some (r, s2) ∧ RO s1 s2
  obtain ⟨⟨zs, fr, hR⟩, -⟩ := hn
  have ho := hI.J.2.1
  have ho2 : vo 2048 (zs.map Prod.fst) := by rw [hR.1]; exact ho
  have hlen := hR.2.1.len
  have hc : gX10_gap s a b = some (vgq 2048 a b V.2.1 0 0, s) := by
    unfold gX10_gap gX10_gap_25 gX5_gapFact gX5_gaps
    by_cases c1 : a ≠ -1
    · rw [if_pos c1]
      have key : b = 0 ∨ b = 1 → gX5_gapFact_5 11 wt_N s a b 0 0 = some (vgq 2048 a b V.2.1 0 0, s) := fun hb => by
        rw [← hR.1]
        exact c_gapFact_5 hR.2.1 ho2 (by omega) c1 hb zs 0 wt_N 0 rfl (by unfold wt_N; omega) (by omega)
      by_cases c2 : b = 0
      · rw [if_pos c2, key (Or.inl c2), cl_some]
      · rw [if_neg c2]
        by_cases c3 : b ≠ 1
        · rw [if_pos c3, vgq_n c1 c2 c3]
        · have c3' : b = 1 := by simpa using c3
          rw [if_neg c3, key (Or.inr c3'), cl_some]
    · have c1' : a = -1 := by simpa using c1
      subst c1'
      have key : gX5_gaps_4 11 wt_N s 0 0 = some (vgq 2048 (-1) b V.2.1 0 0, s) := by
        rw [← hR.1]
        exact c_gaps_4 hR.2.1 ho2 (by omega) zs 0 wt_N 0 rfl (by unfold wt_N; omega) (by omega) (Nat.le_refl _)
      rw [if_neg c1, key, cl_some]
  refine ⟨_, hc, fun s1 h1 => ⟨s1, ?_, RO.refl⟩⟩
  unfold gX11_gap
  have hl := h1.2.2.1.2.1
  exact q_gap_8 h1.2.2.1 ho V.2.1 0 wt_N 0 0 rfl (by unfold wt_N; omega) (by omega) (by omega))
end
end
section
/-! ===== piece: the same answers ===== -/
def vpw (what : Int32) (q : vP) (u : Int32) : Int32 := if what.toInt < 0 ∨ 3 < what.toInt then -1 else if what.toInt = 0 then nI q.1 else if what.toInt = 1 then nI q.2.1 else if what.toInt = 2 then u else if nI q.2.2.2 ≠ 1000 then 0 else 1
section
variable {F B : Nat} {s : wt_S} {V : vV} {what : Int32} {b t np i n x lim : Nat} {q : vP} {ps : List vP} {zs : List (vP × Nat)} {fr : List Nat}
theorem c_indexOf (hP : PC b lim s zs fr) (hm : zs.map Prod.fst = ps) (hit : Itp ps t np) (hnp : np ≤ 256) (hch : Ch b s zs t np) {z : vP × Nat} (hz : z ∈ zs) (hzt : z.1.2.2.1 = t) (hzn : z.1.2.2.2 < np) : gX5_indexOf b s (nI z.2) = some (nI z.1.2.2.2, s) := by
  have loop : ∀ (m c fu : Nat) (x : Int32), c + m ≤ 256 → m ≤ np → m < fu → ((m = 0 → x = -1) ∧ ∀ z ∈ zs, z.1.2.2.1 = t → z.1.2.2.2 + 1 = m → x = nI z.2) → gX5_indexOf_8 b fu s (nI c) x = some (nI (c + m), s) := by
    intro m
    induction m with
    | zero =>
      intro c fu x hc hmn hfu hx
      obtain ⟨fu, rfl⟩ : ∃ k, fu = k + 1 := ⟨fu - 1, by omega⟩
      rw [gX5_indexOf_8, hx.1 rfl, if_pos rfl]
      rfl
    | succ m ih =>
      intro c fu x hc hmn hfu hx
      obtain ⟨fu, rfl⟩ : ∃ k, fu = k + 1 := ⟨fu - 1, by omega⟩
      obtain ⟨q, q1, q2, q3⟩ := hit.1 m (by omega)
      rw [← hm] at q1
      obtain ⟨z, hz, rfl⟩ := List.mem_map.mp q1
      obtain ⟨z1, z2, z3, z4⟩ := hP.mem hz
      have hcz := hch.2.2 z hz q2
      rw [gX5_indexOf_8, hx.2 z hz q2 (by omega), if_neg (nI_nm (by omega)), if_neg (c_hi (by omega)), c_belowOf z1, cl_some, show nI c + 1 = nI (c + 1) from nI_add c 1, ih (c + 1) fu _ (by omega) (by omega) (by omega) ⟨fun e => hcz.1 (by omega), fun y hy hyt hyn => hcz.2 y hy hyt (by omega)⟩, show c + 1 + m = c + (m + 1) by omega]
  obtain ⟨z1, z2, z3, z4⟩ := hP.mem hz
  have hcz := hch.2.2 z hz hzt
  unfold gX5_indexOf
  rw [c_belowOf z1, cl_some, show gX5_indexOf_8 b wt_N s 0 (s (b + 6) z.2) = _ from loop z.1.2.2.2 0 wt_N _ (by omega) (by omega) (by unfold wt_N; omega) ⟨fun e => hcz.1 e, fun y hy hyt hyn => hcz.2 y hy hyt (by omega)⟩, Nat.zero_add]
theorem c_52 (hP : PC b lim s zs fr) (hm : zs.map Prod.fst = ps) (hit : Itp ps t np) (hnp : np ≤ 256) (hch : Ch b s zs t np) : ∀ (m fu : Nat) (z : vP × Nat), m < fu → z ∈ zs → z.1.2.2.1 = t → z.1.2.2.2 = i + m → i + m < np → ∃ y ∈ zs, y.1.2.2.1 = t ∧ y.1.2.2.2 = i ∧ gX9_pieceOf_52 b (b + 17 + 2 * t) fu s (nI i) (nI z.2) (nI (i + m)) = some (nI y.2, s) := by
  intro m
  induction m with
  | zero =>
    intro fu z hfu hz hzt hzn hi
    obtain ⟨fu, rfl⟩ : ∃ k, fu = k + 1 := ⟨fu - 1, by omega⟩
    refine ⟨z, hz, hzt, hzn, ?_⟩
    rw [gX9_pieceOf_52, if_pos (show (nI (i + 0)).toInt ≤ (nI i).toInt from Int.le_refl _)]
  | succ m ih =>
    intro fu z hfu hz hzt hzn hi
    obtain ⟨fu, rfl⟩ : ∃ k, fu = k + 1 := ⟨fu - 1, by omega⟩
    obtain ⟨q, q1, q2, q3⟩ := hit.1 (i + m) (by omega)
    rw [← hm] at q1
    obtain ⟨y, hy, rfl⟩ := List.mem_map.mp q1
    obtain ⟨z1, z2, z3, z4⟩ := hP.mem hz
    have hb := (hch.2.2 z hz hzt).2 y hy q2 (by omega)
    obtain ⟨w, w1, w2, w3, w4⟩ := ih fu y (by omega) hy q2 q3 (by omega)
    refine ⟨w, w1, w2, w3, ?_⟩
    rw [gX9_pieceOf_52, if_neg (by rw [nI_int (by omega), nI_int (by omega)]; omega), c_belowOf z1, cl_some, hb, show i + (m + 1) = i + m + 1 by omega, nI_pred2]
    exact w4
theorem c_pieceOf (hP : PC b lim s zs fr) (hm : zs.map Prod.fst = ps) (hit : Itp ps t np) (hnp : np ≤ 256) (hch : Ch b s zs t np) (hi : i < 2147483648) : (i < np → ∃ y ∈ zs, y.1.2.2.1 = t ∧ y.1.2.2.2 = i ∧ gX9_pieceOf b (b + 17 + 2 * t) s (nI i) = some (nI y.2, s)) ∧ (np ≤ i → (∀ y ∈ zs, y.1.2.2.1 = t → y.1.2.2.2 = 1000 → i ≠ np) → gX9_pieceOf b (b + 17 + 2 * t) s (nI i) = some (-1, s)) ∧ (1 ≤ np → i = np → ∀ y ∈ zs, y.1.2.2.1 = t → y.1.2.2.2 = 1000 → gX9_pieceOf b (b + 17 + 2 * t) s (nI i) = some (nI y.2, s)) := by
  unfold gX9_pieceOf
  by_cases e0 : np = 0
  · rw [hch.1.1 e0, if_neg (fun q => q rfl)]
    exact ⟨fun h => by omega, fun _ _ => rfl, fun h => by omega⟩
  · obtain ⟨q, q1, q2, q3⟩ := hit.1 (np - 1) (by omega)
    rw [← hm] at q1
    obtain ⟨z, hz, rfl⟩ := List.mem_map.mp q1
    obtain ⟨z1, z2, z3, z4⟩ := hP.mem hz
    rw [hch.1.2 z hz q2 (by omega), if_pos (nI_nm (by omega)), c_indexOf hP hm hit hnp hch hz q2 (by omega), cl_some, q3, hch.1.2 z hz q2 (by omega)]
    refine ⟨fun h => ?_, fun h hno => ?_, fun _ h y hy e1 e2 => ?_⟩
    · rw [if_pos (by rw [nI_int (by omega), nI_int (by omega)]; omega)]
      obtain ⟨y, y1, y2, y3, y4⟩ := c_52 (i := i) hP hm hit hnp hch (np - 1 - i) wt_N z (by unfold wt_N; omega) hz q2 (by omega) (by omega)
      rw [show i + (np - 1 - i) = np - 1 by omega] at y4
      exact ⟨y, y1, y2, y3, y4⟩
    · rw [if_neg (by rw [nI_int (by omega), nI_int (by omega)]; omega), show nI (np - 1) + 1 = nI (np - 1 + 1) from nI_add _ 1]
      by_cases e : i = np
      · rw [if_neg (by rw [show np - 1 + 1 = i by omega]; exact fun q => q rfl), hch.2.1.2 (fun y hy q => hno y hy q.1 q.2 e)]
      · rw [if_pos (fun q => e (by have := (nI_inj (by omega) (by omega)).mp q; omega))]
    · rw [if_neg (by rw [nI_int (by omega), nI_int (by omega)]; omega), show nI (np - 1) + 1 = nI (np - 1 + 1) from nI_add _ 1, if_neg (by rw [show np - 1 + 1 = i by omega]; exact fun q => q rfl), hch.2.1.1 y hy e1 e2]
theorem k_47E {u : Int32} (h : RS s V) (hI : VI 2048 B V) (ht : t < 6) (hn : n < 4294967296) (hx : vfi (vkey t n) V.2.1 0 = some x) (hq : V.2.1[x]? = some q) (hu : gX11_usedIn s (nI t) (nI x) = some (u, s)) : gX11_piece_47 s (nI t) what (nI t) (nI n) = some (vpw what q u, s) := by
  have hxl := (List.getElem?_eq_some_iff.mp hq).1
  have hl := h.2.2.1.2.1
  obtain ⟨r1, r2, r3, r4⟩ := h.2.2.1.2.2 x q hq
  unfold gX11_piece_47 vpw
  rw [q_pieceOf h.2.2.1 hI.J.2.1 ht hn, cl_some, hx, oI_some]
  by_cases c0 : what.toInt < 0 ∨ 3 < what.toInt
  · rw [if_pos c0, if_pos c0]
  rw [if_neg c0, if_neg c0]
  by_cases d0 : what.toInt = 0
  · rw [if_pos d0, if_pos d0, li_add, ix_nI (by omega) (by omega), r1]
  rw [if_neg d0, if_neg d0]
  by_cases d1 : what.toInt = 1
  · rw [if_pos d1, if_pos d1, li_add, ix_nI (by omega) (by omega), r2]
  rw [if_neg d1, if_neg d1]
  by_cases d2 : what.toInt = 2
  · rw [if_pos d2, if_pos d2, hu, cl_some]
  rw [if_neg d2, if_neg d2, if_pos (by omega), li_add, ix_nI (by omega) (by omega), r4]
  by_cases d4 : nI q.2.2.2 ≠ 1000
  · rw [if_pos d4, if_pos d4]
  · rw [if_neg d4, if_neg d4]
theorem lo_pieceE {a b c : Int32} (h : LJ F B s) : LO F B s (gX10_piece s a b c) (fun s1 => gX11_piece s1 a b c) Eq := lo_eq h (fun V hI hn => by
  show ∃ r, gX10_piece s a b c = some (r, s) ∧ ∀ s1, RS s1 V → ∃ s2, gX11_piece s1 a b c = some (r, s2) ∧ RO s1 s2
  obtain ⟨⟨zs, fr, hR⟩, -⟩ := hn
  have hj := hI.J
  have q0 : (0 : Int32).toInt = 0 := by decide
  unfold gX10_piece gX11_piece
  rw [c_isTask, cl_some, if_rb]
  by_cases c1 : 0 ≤ a.toInt ∧ a.toInt ≤ 5
  · obtain ⟨t, ht, rfl, etn⟩ := i_task c1
    have tk : ∀ {s1 : wt_S}, gX11_isTask s1 (nI t) = some (rb (0 ≤ (nI t).toInt ∧ (nI t).toInt ≤ 5), s1) := q_isTask
    rw [if_pos c1, q0]
    have hvc : vcp t V.2.1 ≤ 256 := by
      have h1 : vcp t V.2.1 ≤ V.2.1.length := List.length_filter_le ..
      have h2 := hR.2.1.len
      rw [← hR.1, List.length_map] at h1
      rw [← hR.1]
      omega
    by_cases c2 : 0 ≤ b.toInt
    · obtain ⟨i, i1, rfl, i3, i4⟩ := i_nat (x := b) c2
      obtain ⟨np, n1, n2, n3⟩ := itp_of hI ht
      have hch := hR.ch ht n1
      obtain ⟨p1, p2⟩ := vcp_sum (np := np) (by omega) hj.2.2.1 n3
      obtain ⟨a1, a2, a3⟩ := c_pieceOf (i := i) hR.2.1 hR.1 n3 n2 hch i1
      have isn : ∀ c, c ≤ 257 → (((0 : Int32).toInt ≤ (nI i).toInt ∧ (nI i).toInt ≤ (nI c - 1).toInt) ↔ i < c) := fun c hc => by
        rw [q0, i4]
        by_cases e : c = 0
        · subst e
          have h2 : (nI 0 - 1).toInt = -1 := by decide
          omega
        · rw [li_sub (by omega), nI_int (by omega)]
          omega
      rw [if_pos c2, ix_nI ht (by omega)]
      have mem : ∀ z ∈ zs, z.1 ∈ V.2.1 := fun z hz => by rw [← hR.1]; exact List.mem_map.mpr ⟨z, hz, rfl⟩
      have tail : ∀ y ∈ zs, y.1.2.2.1 = t → (if nI y.2 ≠ (-1 : Int32) then (if c.toInt < 0 ∨ 3 < c.toInt then some ((-1), s) else (if c.toInt = 0 then (wt_cl (gX5_placeOf 11 s (nI y.2)) fun v7 s6 => some (v7, s6)) else (if c.toInt = 1 then (wt_cl (gX5_wordsOf 11 s (nI y.2)) fun v9 s8 => some (v9, s8)) else (if c.toInt = 2 then (wt_cl (gX5_usedOf 11 s (nI y.2)) fun v11 s10 => some (v11, s10)) else (if c.toInt = 3 then (if nI y.2 ≠ (s (11 + 17 + 2 * t) 13) then some (0, s) else some (1, s)) else none))))) else some ((-1), s)) = some (vpw c y.1 (nI (vud V.1 (V.2.2.2 t) y.1.2.2.2 (V.2.2.1 t))), s) := fun y hy hyt => by
        obtain ⟨y1, y2, y3, y4⟩ := hR.2.1.mem hy
        have hu := ((hR.2.2.2.1 t ht).2.2.2.2.2 y hy hyt).1
        unfold vpw
        rw [if_pos (nI_nm (by omega)), c_placeOf y1, cl_some, c_wordsOf y1, cl_some, c_usedOf y1, cl_some, y2, y3, hu]
        by_cases c0 : c.toInt < 0 ∨ 3 < c.toInt
        · rw [if_pos c0, if_pos c0]
        rw [if_neg c0, if_neg c0]
        by_cases d0 : c.toInt = 0
        · rw [if_pos d0, if_pos d0]
        rw [if_neg d0, if_neg d0]
        by_cases d1 : c.toInt = 1
        · rw [if_pos d1, if_pos d1]
        rw [if_neg d1, if_neg d1]
        by_cases d2 : c.toInt = 2
        · rw [if_pos d2, if_pos d2]
        rw [if_neg d2, if_neg d2, if_pos (by omega)]
        by_cases e : y.1.2.2.2 = 1000
        · rw [if_neg (by rw [hch.2.1.1 y hy hyt e]; exact fun q => q rfl), if_neg (by rw [e]; exact fun q => q rfl)]
        · have hyn : y.1.2.2.2 < np := by
            rcases n3.2 y.1 (mem y hy) hyt with g | g
            · exact g
            · exact absurd g e
          have ne1 : nI y.1.2.2.2 ≠ 1000 := fun q => e ((nI_inj (by omega) (by omega)).mp (show nI y.1.2.2.2 = nI 1000 from q))
          have ne2 : nI y.2 ≠ s (11 + 17 + 2 * t) 13 := fun q => by
            by_cases g : ∃ z ∈ zs, z.1.2.2.1 = t ∧ z.1.2.2.2 = 1000
            · obtain ⟨z, hz, g1, g2⟩ := g
              have hz2 := (hR.2.1.mem hz).1
              rw [hch.2.1.1 z hz g1 g2] at q
              have := hR.2.1.inj hy hz ((nI_inj (by omega) (by omega)).mp q)
              rw [this] at e
              exact e g2
            · rw [hch.2.1.2 (fun z hz g1 => g ⟨z, hz, g1⟩)] at q
              exact nI_nm (by omega) q
          rw [if_pos ne1, if_pos ne2]
      have bz : (∃ q ∈ V.2.1, q.2.2.1 = t) → vbz V.1 t := fun ⟨q, hq, e⟩ => by
        rcases hI.2.2.2.2.2 t ht with ⟨b, -⟩ | b
        · exact b
        · exact absurd e (b.2.2.2.2.2.2.2.2 q hq)
      have rs0 : ∀ {s1 : wt_S}, RS s1 V → gX11_piecesOf s1 (nI t) = some (nI (vcp t V.2.1), s1) := fun h1 => q_piecesOf h1.2.2.1 hj.2.1 ht
      have r66 : ∀ {s1 : wt_S}, RS s1 V → s1 111 (4066 + t) = nI np := fun h1 => (h1.2.at (by unfold vtr; omega)).trans n1
      by_cases e : i < np
      · obtain ⟨y, y1, y2, y3, y4⟩ := a1 e
        rw [y4, cl_some, tail y y1 y2]
        refine ⟨_, rfl, fun s1 h1 => ⟨s1, ?_, RO.refl⟩⟩
        obtain ⟨x, q, e1, e2, e3, e4, e5, e6, -⟩ := vfi_some ⟨y.1, mem y y1, y2, y3⟩
        have hqy : q = y.1 := vuniq hj.2.2.1 q e4 y.1 (mem y y1) (e5.trans y2.symm) (e6.trans y3.symm)
        have hu := q_usedIn (m := i) h1 hI ht (bz ⟨y.1, mem y y1, y2⟩) n1 n2 e2 e5 e6 e
        have hcp : i < vcp t V.2.1 := by
          by_cases g : ∃ q ∈ V.2.1, q.2.2.1 = t ∧ q.2.2.2 = 1000
          · obtain ⟨q, g1, g2, g3⟩ := g
            rw [p1 q g1 g2 g3]
            omega
          · rw [p2 (fun q hq e => g ⟨q, hq, e⟩)]
            exact e
        rw [tk, cl_some, if_rb, if_pos c1, rs0 h1, cl_some, q_isIn, cl_some, if_rbn, if_pos ((isn _ (by omega)).mpr hcp), li_add, ix_nI (by omega) (by omega), r66 h1, if_neg (by rw [nI_int (by omega), nI_int (by omega)]; omega), k_47E h1 hI ht (by omega) e1 e2 hu, hqy, y3]
      · by_cases g : ∃ z ∈ zs, z.1.2.2.1 = t ∧ z.1.2.2.2 = 1000
        · obtain ⟨y, y1, y2, y3⟩ := g
          have hb := bz ⟨y.1, mem y y1, y2⟩
          have hbI := hI.bz ht
          have hnp1 : 1 ≤ np ∧ ∀ j, j < V.2.2.1 t → (V.2.2.2 t j).2.1 ≠ 1000 := by
            obtain ⟨np', z, z2, z3, k, l, hP, h0, -⟩ := hI.opn ht hb (by omega)
            obtain ⟨-, hc, -, -, -, -, -, -, -⟩ := hP
            have h256 := hc.2.2.1
            have hnp' : np' = np := (nI_inj (by omega) (by omega)).mp (by rw [← hc.2.1, n1])
            refine ⟨by omega, fun j hj => ?_⟩
            have := ((hc.2.2.2.2.2.2.1 h0).1.1 j hj).1
            omega
          have hvu : vud V.1 (V.2.2.2 t) 1000 (V.2.2.1 t) = 0 := vud_0 hnp1.2
          have hcp := p1 y.1 (mem y y1) y2 y3
          by_cases ei : i = np
          · rw [a3 hnp1.1 ei y y1 y2 y3, cl_some, tail y y1 y2]
            refine ⟨_, rfl, fun s1 h1 => ⟨s1, ?_, RO.refl⟩⟩
            obtain ⟨x, q, e1, e2, e3, e4, e5, e6, -⟩ := vfi_some ⟨y.1, mem y y1, y2, y3⟩
            have hqy : q = y.1 := vuniq hj.2.2.1 q e4 y.1 (mem y y1) (e5.trans y2.symm) (e6.trans y3.symm)
            have hl1 := h1.2.2.1.2.1
            have hu : gX11_usedIn s1 (nI t) (nI x) = some (0, s1) := by
              unfold gX11_usedIn
              rw [li_add, ix_nI (by omega) (by omega), (h1.2.2.1.2.2 x q e2).2.2.2, e6, if_neg (by simp [show nI 1000 = (1000 : Int32) from rfl])]
            rw [tk, cl_some, if_rb, if_pos c1, rs0 h1, cl_some, q_isIn, cl_some, if_rbn, if_pos ((isn _ (by omega)).mpr (by omega)), li_add, ix_nI (by omega) (by omega), r66 h1, if_pos (by rw [nI_int (by omega), nI_int (by omega)]; omega), show gX11_piece_47 s1 (nI t) c (nI t) 1000 = _ from k_47E (n := 1000) h1 hI ht (by omega) e1 e2 hu, hqy, y3, hvu]
            rfl
          · rw [a2 (by omega) (fun _ _ _ _ => ei), cl_some, if_neg (fun q => q rfl)]
            refine ⟨_, rfl, fun s1 h1 => ⟨s1, ?_, RO.refl⟩⟩
            rw [tk, cl_some, if_rb, if_pos c1, rs0 h1, cl_some, q_isIn, cl_some, if_rbn, if_neg (fun q => by have := (isn _ (by omega)).mp q; omega)]
        · have hcp := p2 (fun q hq e => by
            rw [← hR.1] at hq
            obtain ⟨z, hz, rfl⟩ := List.mem_map.mp hq
            exact g ⟨z, hz, e⟩)
          rw [a2 (by omega) (fun y hy g1 g2 => absurd ⟨y, hy, g1, g2⟩ g), cl_some, if_neg (fun q => q rfl)]
          refine ⟨_, rfl, fun s1 h1 => ⟨s1, ?_, RO.refl⟩⟩
          rw [tk, cl_some, if_rb, if_pos c1, rs0 h1, cl_some, q_isIn, cl_some, if_rbn, if_neg (fun q => by have := (isn _ (by omega)).mp q; omega)]
    · rw [if_neg c2]
      refine ⟨_, rfl, fun s1 h1 => ⟨s1, ?_, RO.refl⟩⟩
      rw [tk, cl_some, if_rb, if_pos c1, q_piecesOf h1.2.2.1 hj.2.1 ht, cl_some, q_isIn, cl_some, if_rbn, if_neg (fun q => c2 (by have := q.1; rw [q0] at this; exact this))]
  · rw [if_neg c1]
    refine ⟨_, rfl, fun s1 h1 => ⟨s1, ?_, RO.refl⟩⟩
    rw [q_isTask, cl_some, if_rb, if_neg c1])
end
end
section
/-! ===== frame: the same answers ===== -/
section
variable {F B : Nat} {s s0 s' : wt_S} {V : vV} {x : Option (Int32 × wt_S)} {y : wt_S → Option (Int32 × wt_S)} {t i j np : Nat} {zs : List (vP × Nat)} {fr : List Nat}
/-- a question that walks: the answers are the same -/
theorem lo_eqw (h : LJ F B s) (hx : Ok (fun _ s' => CI F s s') x) (hs : ∀ V, VI 2048 B V → NW B s V → ∃ r s1, x = some (r, s1) ∧ (∀ c, c ≠ 27 → s1 c = s c) ∧ ∀ s1', RS s1' V → ∃ s2, y s1' = some (r, s2) ∧ RO s1' s2) : LO F B s x y Eq := by
  refine lo_mk h (Nat.le_refl _) hx (fun V hr hI hn => ?_)
  obtain ⟨r, s1, e, hk, e2⟩ := hs V hI hn
  obtain ⟨⟨zs, fr, hR⟩, hI2, hW, hK, hT⟩ := hn
  refine ⟨r, s1, V, e, ⟨⟨zs, fr, hR.eq cx11 (fun c _ _ _ c4 hc => hk c (by omega))⟩, hI2, hW, fun j hj => by rw [hk 1 (by omega), hk 2 (by omega), hk 3 (by omega)]; exact hK j hj, fun k hk' => by rw [hk _ (by omega)]; exact hT k hk'⟩, fun c hc => hk c (by omega), fun s1' h' => ?_⟩
  obtain ⟨s2, b1, b2⟩ := e2 s1' h'
  exact ⟨r, s2, b1, rfl, h'.ro b2, RH.of b2.1⟩
theorem mz11 : wt_mz 11 = 2048 := rfl
theorem c_toCaller (h : RC 11 2048 s0 V zs fr) (hj : VJ 2048 V) (ht : t < 6) (hi : j + 1 < V.2.2.1 t) (hs : ∀ c, c ≠ 27 → s c = s0 c) (h1 : s (11 + 16) 1 = nI (vpl V t (j + 1))) : ∃ s', gX8_toCaller 11 s = some ((), s') ∧ (∀ c, c ≠ 27 → s' c = s0 c) ∧ s' (11 + 16) 1 = nI (vpl V t j) ∧ s' (11 + 16) 2 = nI (V.2.2.2 t j).1 ∧ s' (11 + 16) 3 = nI ((V.2.2.2 t (j + 1)).2.2.2.1 % 32) := by
  obtain ⟨np, -, -, a3⟩ := hj.geo ht (by omega)
  have hfit := (hj.fit ht hi).2.2
  unfold vwd at hfit
  obtain ⟨w1, w2, -⟩ := (h.2.2.2.2.1 t ht (j + 1) hi).2
  rw [if_neg (by omega), Nat.add_sub_cancel] at w1
  obtain ⟨b1, b2, -⟩ := a3.2.2.1 j hi
  obtain ⟨-, -, -, bb4, bb5⟩ := bk_at b1
  have hm := mz11
  have e26 : s (11 + 15) = s0 (11 + 15) := hs _ (by omega)
  unfold gX8_toCaller
  rw [h1, show nI (vpl V t (j + 1)) + 1 = nI (vpl V t (j + 1) + 1) from nI_add _ 1, c_word (by omega), cl_some, h1, c_word (by omega), cl_some, wr_eq, wr_eq, wr_eq, e26, w1, w2, bb5, bb4, b2]
  refine ⟨_, rfl, fun c hc => by rw [wt_u_ne (by omega), wt_u_ne (by omega), wt_u_ne (by omega), hs c hc], ?_, ?_, wt_u_self⟩
  · rw [wt_u_nk (by omega), wt_u_nk (by omega), wt_u_self]
  · rw [wt_u_nk (by omega), wt_u_self]
theorem c_12 (h : RC 11 2048 s0 V zs fr) (hj : VJ 2048 V) (ht : t < 6) (hN : V.2.2.1 t ≤ 3334) : ∀ (m fu : Nat) (s : wt_S), m < fu → i + m < V.2.2.1 t → (∀ c, c ≠ 27 → s c = s0 c) → s (11 + 16) 1 = nI (vpl V t (i + m)) → s (11 + 16) 2 = nI (V.2.2.2 t (i + m)).1 → s (11 + 16) 3 = vnl V t (i + m) → ∃ s', gX8_toFrame_12 11 (11 + 17 + 2 * t) fu s (nI i) (nI (i + m)) = some ((), s') ∧ (∀ c, c ≠ 27 → s' c = s0 c) ∧ s' (11 + 16) 1 = nI (vpl V t i) ∧ s' (11 + 16) 2 = nI (V.2.2.2 t i).1 ∧ s' (11 + 16) 3 = vnl V t i := by
  intro m
  induction m with
  | zero =>
    intro fu s hfu hi hs g1 g2 g3
    obtain ⟨fu, rfl⟩ : ∃ m, fu = m + 1 := ⟨fu - 1, by omega⟩
    rw [gX8_toFrame_12, if_pos (show (nI (i + 0)).toInt ≤ (nI i).toInt from Int.le_refl _)]
    exact ⟨s, rfl, hs, g1, g2, g3⟩
  | succ m ih =>
    intro fu s hfu hi hs g1 g2 g3
    obtain ⟨fu, rfl⟩ : ∃ m, fu = m + 1 := ⟨fu - 1, by omega⟩
    obtain ⟨s1, e1, e2, e3, e4, e5⟩ := c_toCaller (j := i + m) h hj ht (by omega) hs g1
    obtain ⟨s', f1, f2⟩ := ih fu s1 (by omega) (by omega) e2 e3 e4 (by unfold vnl; rw [if_neg (by omega)]; exact e5)
    rw [gX8_toFrame_12, nI_int (by omega), nI_int (by omega), if_neg (by omega), e1, cl_some, show i + (m + 1) = i + m + 1 by omega, nI_pred2, f1]
    exact ⟨s', rfl, f2⟩
theorem c_toLast (h : RC 11 2048 s V zs fr) (hI : VI 2048 B V) (ht : t < 6) (hn : 0 < V.2.2.1 t) : ∃ s', gX8_toLast 11 (11 + 17 + 2 * t) s = some ((), s') ∧ (∀ c, c ≠ 27 → s' c = s c) ∧ s' (11 + 16) 1 = nI (vpl V t (V.2.2.1 t - 1)) ∧ s' (11 + 16) 2 = nI (V.2.2.2 t (V.2.2.1 t - 1)).1 ∧ s' (11 + 16) 3 = vnl V t (V.2.2.1 t - 1) := by
  obtain ⟨-, n, np, e, c2, -, -, -, -, -, -, -, -, c11, c12, -⟩ := hI.bz ht hn
  have k1 := (h.2.2.2.1 t ht).2.1.2 hn
  have k9 : s (11 + 17 + 2 * t) 9 = V.1 (3975 + t) := h.at ht (e := (9, 3975)) (by decide)
  unfold gX8_toLast
  rw [wr_eq, wr_eq, wr_eq]
  have et : ∀ (s : wt_S) k v, (wt_u s (11 + 16) k v) (11 + 17 + 2 * t) = s (11 + 17 + 2 * t) := fun s k v => wt_u_ne (by omega)
  simp only [et]
  rw [k1.1, k1.2, k9, c12]
  refine ⟨_, rfl, fun c hc => by rw [wt_u_ne (by omega), wt_u_ne (by omega), wt_u_ne (by omega)], ?_, ?_, ?_⟩
  · rw [wt_u_nk (by omega), wt_u_nk (by omega), wt_u_self]
  · rw [wt_u_nk (by omega), wt_u_self, e, Nat.add_sub_cancel]
  · rw [wt_u_self]
    unfold vnl
    rw [if_pos (by omega)]
theorem c_toFrame (h : RC 11 2048 s V zs fr) (hI : VI 2048 B V) (ht : t < 6) (hi : i < V.2.2.1 t) : ∃ s', gX8_toFrame 11 (11 + 17 + 2 * t) s (nI i) = some ((), s') ∧ (∀ c, c ≠ 27 → s' c = s c) ∧ s' (11 + 16) 1 = nI (vpl V t i) ∧ s' (11 + 16) 2 = nI (V.2.2.2 t i).1 ∧ s' (11 + 16) 3 = vnl V t i := by
  have hN := hI.n ht
  obtain ⟨s1, a1, a2, a3, a4, a5⟩ := c_toLast h hI ht (by omega)
  have e4 : s1 (11 + 17 + 2 * t) 4 = nI (V.2.2.1 t) := by
    rw [a2 _ (by omega), show s (11 + 17 + 2 * t) 4 = V.1 (3954 + t) from h.at ht (e := (4, 3954)) (by decide)]
    exact hI.f54 ht
  obtain ⟨m, hm⟩ : ∃ m, V.2.2.1 t - 1 = i + m := ⟨V.2.2.1 t - 1 - i, by omega⟩
  obtain ⟨s', f1, f2⟩ := c_12 (i := i) h hI.J ht (by omega) m wt_N s1 (by unfold wt_N; omega) (by omega) a2 (by rw [← hm]; exact a3) (by rw [← hm]; exact a4) (by rw [← hm]; exact a5)
  unfold gX8_toFrame
  rw [a1, cl_some, e4, li_sub (by omega), hm, f1]
  exact ⟨s', rfl, f2⟩
theorem c_hasFrame {x i : Int32} (h : RC 11 2048 s V zs fr) (hI : VI 2048 B V) : gX10_hasFrame s x i = some (rb ((0 ≤ x.toInt ∧ x.toInt ≤ 5) ∧ 0 ≤ i.toInt ∧ i.toInt.toNat < V.2.2.1 x.toInt.toNat), s) := by
  unfold gX10_hasFrame
  rw [c_isTask, cl_some, if_rb, ci0]
  by_cases c1 : 0 ≤ x.toInt ∧ x.toInt ≤ 5
  · obtain ⟨t, ht, rfl, etn⟩ := i_task c1
    have hN := hI.n ht
    have e4 : s (11 + 17 + 2 * t) 4 = nI (V.2.2.1 t) := by
      rw [show s (11 + 17 + 2 * t) 4 = V.1 (3954 + t) from h.at ht (e := (4, 3954)) (by decide)]
      exact hI.f54 ht
    rw [if_pos c1, etn]
    by_cases c2 : i.toInt < 0
    · rw [if_pos c2, rb_neg (fun q => by omega)]
    · rw [if_neg c2, ix_nI ht (by omega), e4, nI_int (by omega)]
      by_cases c3 : (V.2.2.1 t : Int) ≤ i.toInt
      · rw [if_pos c3, rb_neg (fun q => by omega)]
      · rw [if_neg c3, rb_pos ⟨c1, by omega, by omega⟩]
  · rw [if_neg c1, rb_neg (fun q => c1 q.1)]
/-- which piece a frame lies in -/
theorem c_holds (h : RC 11 2048 s V zs fr) (hI : VI 2048 B V) (ht : t < 6) (hi : i < V.2.2.1 t) (hs : ∀ c, c ≠ 27 → s' c = s c) : ∃ z, gX5_holding 11 s' (nI (vpl V t i)) = some (nI z, s') ∧ gX5_indexOf 11 s' (nI z) = some (nI (V.2.2.2 t i).2.1, s') := by
  have hj := hI.J
  have hb := (hI.bz ht (by omega)).1
  obtain ⟨np, z, z2, z3, k, l, hP, h0, -⟩ := hI.opn ht hb (by omega)
  obtain ⟨-, hc, -, -, -, -, -, -, -⟩ := hP
  have hnp := hc.2.2.1
  obtain ⟨g1, g2⟩ := (hc.2.2.2.2.2.2.1 h0).1.1 i hi
  obtain ⟨q, q1, q2, q3, q4, q5, -⟩ := vget (hc.2.2.2.1.1 _ g1)
  have hR' : RC 11 2048 s' V zs fr := h.eq cx11 (fun c _ _ _ c4 _ => hs c (by omega))
  obtain ⟨y, hy, rfl⟩ := hR'.mm q1
  have hv : vpl V t i = vat V.2.1 t (V.2.2.2 t i).2.1 + (V.2.2.2 t i).2.2.1 := rfl
  unfold vwd at g2
  refine ⟨y.2, c_holding hR'.2.1 (by rw [hR'.1]; exact hj.2.1) (by omega) hy (by omega), ?_⟩
  have := c_indexOf hR'.2.1 hR'.1 hc.2.2.2.1 hnp.2 (hR'.ch ht hc.2.1) hy q2 (by omega)
  rw [q3] at this
  exact this
theorem lo_frameE {a b c : Int32} (h : LJ F B s) (hF : F ≤ 1999990000) : LO F B s (gX10_frame s a b c) (fun s1 => gX11_frame s1 a b c) Eq := lo_eqw h (oX10_frame (by omega) h.1) (fun V hI hn => by
  show ∃ r s1, gX10_frame s a b c = some (r, s1) ∧ (∀ c, c ≠ 27 → s1 c = s c) ∧ ∀ s1', RS s1' V → ∃ s2, gX11_frame s1' a b c = some (r, s2) ∧ RO s1' s2
  obtain ⟨⟨zs, fr, hR⟩, -⟩ := hn
  have hj := hI.J
  have hm := mz11
  unfold gX10_frame gX11_frame
  rw [c_hasFrame hR hI, cl_some, if_rbn]
  by_cases c0 : (0 ≤ a.toInt ∧ a.toInt ≤ 5) ∧ 0 ≤ b.toInt ∧ b.toInt.toNat < V.2.2.1 a.toInt.toNat
  · rw [if_pos c0]
    have c0' := c0
    obtain ⟨c1, c2, c3⟩ := c0
    obtain ⟨t, ht, rfl, etn⟩ := i_task c1
    obtain ⟨i, i1, rfl, i3, i4⟩ := i_nat (x := b) c2
    rw [etn, i3] at c3
    have hfit := (hj.fit ht c3).2.2
    unfold vwd at hfit
    obtain ⟨s1, a1, a2, a3, a4, a5⟩ := c_toFrame hR hI ht c3
    have a3 : s1 27 1 = _ := a3
    have a4 : s1 27 2 = _ := a4
    have a5 : s1 27 3 = _ := a5
    obtain ⟨w1, w2, -⟩ := (hR.2.2.2.2.1 t ht i c3).2
    have e26 : s1 (11 + 15) = s (11 + 15) := a2 _ (by omega)
    obtain ⟨z, hz1, hz2⟩ := c_holds hR hI ht c3 a2
    have wd1 : gX3_word 11 s1 (nI (vpl V t i) + 1) = some (nI (V.2.2.2 t i).2.2.2.1, s1) := by
      rw [show nI (vpl V t i) + 1 = nI (vpl V t i + 1) from nI_add _ 1, c_word (by omega), e26, w2]
    have wd0 : gX3_word 11 s1 (nI (vpl V t i)) = some ((if i = 0 then -1 else nI (vpl V t (i - 1))), s1) := by
      rw [c_word (by omega), e26, w1]
    rw [ix_nI ht (by omega), a1, cl_some, a3, wd1, cl_some, a3, a4, a5, hz1, cl_some, hz2, cl_some, wd0, cl_some]
    have ref : ∀ {s1 : wt_S}, RS s1 V → ∃ s2, RO s1 s2 ∧ RS s2 V ∧ s2 110 11 = nI (vpl V t i) ∧ s2 110 12 = nI (V.2.2.2 t i).1 ∧ s2 110 13 = vnl V t i ∧ gX11_isFrame s1 (nI t) (nI i) = some (rb ((0 ≤ (nI t).toInt ∧ (nI t).toInt ≤ 5) ∧ 0 ≤ (nI i).toInt ∧ (nI i).toInt.toNat < V.2.2.1 (nI t).toInt.toNat), s1) ∧ gX11_looksAt s1 (nI t) (nI i) = some ((), s2) ∧ s2 111 (vpl V t i) = (if i = 0 then -1 else nI (vpl V t (i - 1))) ∧ s2 111 (vpl V t i + 1) = nI (V.2.2.2 t i).2.2.2.1 ∧ ∃ y, y < 256 ∧ gX11_pieceAt s2 (nI (vpl V t i)) = some (nI y, s2) ∧ s2 111 (3667 + y) = nI (V.2.2.2 t i).2.1 := fun {s1} h1 => by
      obtain ⟨s2, e1, e2, e3, e4, e5⟩ := q_looksAt h1 hI ht c3
      have h2 := h1.ro e2
      obtain ⟨v1, v2, -⟩ := h2.wd hj rfl ht c3
      obtain ⟨y, q, y1, y2, y3, y4, y5, y6⟩ := q_pcAt h2 hj ht c3
      exact ⟨s2, e2, h2, e3, e4, e5, q_isFrame h1 hI, e1, v1, v2, y, y3, y1, by rw [(h2.2.2.1.2.2 y q y2).2.2.2, y5]⟩
    by_cases cw : c.toInt < 0 ∨ 7 < c.toInt
    · rw [if_pos cw]
      refine ⟨_, s1, rfl, a2, fun s1' h' => ?_⟩
      obtain ⟨s2, r1, r2, r3, r4, r5, r6, r7, r8, r9, y, y1, y2, y3⟩ := ref h'
      exact ⟨s2, by rw [r6, cl_some, if_rbn, if_pos c0', r7, cl_some, if_pos cw], r1⟩
    rw [if_neg cw]
    by_cases d0 : c.toInt = 0
    · rw [if_pos d0]
      refine ⟨_, s1, rfl, a2, fun s1' h' => ?_⟩
      obtain ⟨s2, r1, r2, r3, r4, r5, r6, r7, r8, r9, y, y1, y2, y3⟩ := ref h'
      exact ⟨s2, by rw [r6, cl_some, if_rbn, if_pos c0', r7, cl_some, if_neg cw, if_pos d0, r4], r1⟩
    rw [if_neg d0]
    by_cases d1 : c.toInt = 1
    · rw [if_pos d1]
      refine ⟨_, s1, rfl, a2, fun s1' h' => ?_⟩
      obtain ⟨s2, r1, r2, r3, r4, r5, r6, r7, r8, r9, y, y1, y2, y3⟩ := ref h'
      exact ⟨s2, by rw [r6, cl_some, if_rbn, if_pos c0', r7, cl_some, if_neg cw, if_neg d0, if_pos d1, r3], r1⟩
    rw [if_neg d1]
    by_cases d2 : c.toInt = 2
    · rw [if_pos d2]
      refine ⟨_, s1, rfl, a2, fun s1' h' => ?_⟩
      obtain ⟨s2, r1, r2, r3, r4, r5, r6, r7, r8, r9, y, y1, y2, y3⟩ := ref h'
      exact ⟨s2, by rw [r6, cl_some, if_rbn, if_pos c0', r7, cl_some, if_neg cw, if_neg d0, if_neg d1, if_pos d2, r3, y2, cl_some, li_add, ix_nI (by omega) (by omega), y3], r1⟩
    rw [if_neg d2]
    by_cases d3 : c.toInt = 3
    · rw [if_pos d3]
      by_cases cb : nI (V.2.2.2 t i).2.2.2.1 &&& 1024 = 0
      · rw [if_pos cb]
        refine ⟨_, s1, rfl, a2, fun s1' h' => ?_⟩
        obtain ⟨s2, r1, r2, r3, r4, r5, r6, r7, r8, r9, y, y1, y2, y3⟩ := ref h'
        exact ⟨s2, by rw [r6, cl_some, if_rbn, if_pos c0', r7, cl_some, if_neg cw, if_neg d0, if_neg d1, if_neg d2, if_pos d3, r3, li_add2, ix_nI (by omega) (by omega), r9, if_pos cb], r1⟩
      · rw [if_neg cb]
        refine ⟨_, s1, rfl, a2, fun s1' h' => ?_⟩
        obtain ⟨s2, r1, r2, r3, r4, r5, r6, r7, r8, r9, y, y1, y2, y3⟩ := ref h'
        exact ⟨s2, by rw [r6, cl_some, if_rbn, if_pos c0', r7, cl_some, if_neg cw, if_neg d0, if_neg d1, if_neg d2, if_pos d3, r3, li_add2, ix_nI (by omega) (by omega), r9, if_neg cb], r1⟩
    rw [if_neg d3]
    by_cases d4 : c.toInt = 4
    · rw [if_pos d4]
      refine ⟨_, s1, rfl, a2, fun s1' h' => ?_⟩
      obtain ⟨s2, r1, r2, r3, r4, r5, r6, r7, r8, r9, y, y1, y2, y3⟩ := ref h'
      exact ⟨s2, by rw [r6, cl_some, if_rbn, if_pos c0', r7, cl_some, if_neg cw, if_neg d0, if_neg d1, if_neg d2, if_neg d3, if_pos d4, r5], r1⟩
    rw [if_neg d4]
    by_cases d5 : c.toInt = 5
    · rw [if_pos d5]
      by_cases cb : nI (V.2.2.2 t i).2.2.2.1 &&& 2048 = 0
      · rw [if_pos cb]
        refine ⟨_, s1, rfl, a2, fun s1' h' => ?_⟩
        obtain ⟨s2, r1, r2, r3, r4, r5, r6, r7, r8, r9, y, y1, y2, y3⟩ := ref h'
        exact ⟨s2, by rw [r6, cl_some, if_rbn, if_pos c0', r7, cl_some, if_neg cw, if_neg d0, if_neg d1, if_neg d2, if_neg d3, if_neg d4, if_pos d5, r3, li_add2, ix_nI (by omega) (by omega), r9, if_pos cb], r1⟩
      · rw [if_neg cb]
        refine ⟨_, s1, rfl, a2, fun s1' h' => ?_⟩
        obtain ⟨s2, r1, r2, r3, r4, r5, r6, r7, r8, r9, y, y1, y2, y3⟩ := ref h'
        exact ⟨s2, by rw [r6, cl_some, if_rbn, if_pos c0', r7, cl_some, if_neg cw, if_neg d0, if_neg d1, if_neg d2, if_neg d3, if_neg d4, if_pos d5, r3, li_add2, ix_nI (by omega) (by omega), r9, if_neg cb], r1⟩
    rw [if_neg d5]
    by_cases d6 : c.toInt = 6
    · rw [if_pos d6]
      refine ⟨_, s1, rfl, a2, fun s1' h' => ?_⟩
      obtain ⟨s2, r1, r2, r3, r4, r5, r6, r7, r8, r9, y, y1, y2, y3⟩ := ref h'
      exact ⟨s2, by rw [r6, cl_some, if_rbn, if_pos c0', r7, cl_some, if_neg cw, if_neg d0, if_neg d1, if_neg d2, if_neg d3, if_neg d4, if_neg d5, if_pos d6, r3, ix_nI (by omega) (by omega), r8], r1⟩
    rw [if_neg d6, if_pos (by omega)]
    refine ⟨_, s1, rfl, a2, fun s1' h' => ?_⟩
    obtain ⟨s2, r1, r2, r3, r4, r5, r6, r7, r8, r9, y, y1, y2, y3⟩ := ref h'
    exact ⟨s2, by rw [r6, cl_some, if_rbn, if_pos c0', r7, cl_some, if_neg cw, if_neg d0, if_neg d1, if_neg d2, if_neg d3, if_neg d4, if_neg d5, if_neg d6, if_pos (by omega), r3, li_add2, ix_nI (by omega) (by omega), r9], r1⟩
  · rw [if_neg c0]
    refine ⟨_, s, rfl, fun _ _ => rfl, fun s1' h' => ⟨s1', ?_, RO.refl⟩⟩
    rw [q_isFrame h' hI, cl_some, if_rbn, if_neg c0])
end
end
section
/-! ===== slot: the same answers ===== -/
theorem sixteen_all : ∀ x y : Fin 128, nI (128 * x.val + y.val) / 16 = nI ((128 * x.val + y.val) / 16) := by decide +kernel
theorem nI_16 {a : Nat} (h : a < 16384) : nI a / 16 = nI (a / 16) := by
  have := sixteen_all ⟨a / 128, by omega⟩ ⟨a % 128, by omega⟩
  rw [show 128 * (a / 128) + a % 128 = a by omega] at this
  exact this
section
variable {F B : Nat} {s s0 s' : wt_S} {V : vV} {t i j k P : Nat} {zs : List (vP × Nat)} {fr : List Nat}
theorem c_13 (h : RC 11 2048 s0 V zs fr) (hI : VI 2048 B V) (ht : t < 6) (hj : j < V.2.2.1 t) (hk : k < vsz V.1 (V.2.2.2 t j).1) (hP : P = vpl V t j + 2 + k) : ∀ (m fu : Nat) (s : wt_S), m < fu → j + m < V.2.2.1 t → (∀ c, c ≠ 27 → s c = s0 c) → s (11 + 16) 1 = nI (vpl V t (j + m)) → s (11 + 16) 2 = nI (V.2.2.2 t (j + m)).1 → ∃ s', gX8_toPlace_13 11 (11 + 17 + 2 * t) fu s (nI P) (nI (j + m)) = some (nI j, s') ∧ (∀ c, c ≠ 27 → s' c = s0 c) ∧ s' (11 + 16) 1 = nI (vpl V t j) := by
  have hJ := hI.J
  have hN := hI.n ht
  have hfj := (hJ.fit ht hj).2.2
  unfold vwd at hfj
  intro m
  induction m with
  | zero =>
    intro fu s hfu hi hs g1 g2
    obtain ⟨fu, rfl⟩ : ∃ m, fu = m + 1 := ⟨fu - 1, by omega⟩
    have g1 : s (11 + 16) 1 = nI (vpl V t j) := g1
    have g2 : s (11 + 16) 2 = nI (V.2.2.2 t j).1 := g2
    have hRP : RP 5 s V.1 := h.2.2.2.2.2.eq hJ.1 vpe.refl (fun c c1 c2 => hs c (by omega))
    refine ⟨s, ?_, hs, g1⟩
    rw [gX8_toPlace_13, nI_int (show j + 0 < 2147483648 by omega), if_neg (by rw [ci0]; omega), g1, g2, nI_int (by omega), nI_int (by omega), if_neg (by omega), c_frameWords hRP hJ.1 (hJ.fit ht hj).1, cl_some, nI_add]
    unfold vwd
    rw [nI_int (by omega), if_neg (by omega)]
    rfl
  | succ m ih =>
    intro fu s hfu hi hs g1 g2
    obtain ⟨fu, rfl⟩ : ∃ m, fu = m + 1 := ⟨fu - 1, by omega⟩
    have hf := hJ.fit ht hi
    have hf2 := hf.2.2
    have hdj := hJ.dj ht ht hi hj (fun q => by omega)
    unfold vwd at hf2 hdj
    have hRP : RP 5 s V.1 := h.2.2.2.2.2.eq hJ.1 vpe.refl (fun c c1 c2 => hs c (by omega))
    obtain ⟨s1, e1, e2, e3, e4, e5⟩ := c_toCaller (j := j + m) h hJ ht (by omega) hs g1
    obtain ⟨s', f1, f2⟩ := ih fu s1 (by omega) (by omega) e2 e3 e4
    have nx : gX8_toPlace_46 11 (11 + 17 + 2 * t) (gX8_toPlace_13 11 (11 + 17 + 2 * t) fu) s (nI P) (nI (j + (m + 1))) = some (nI j, s') := by
      unfold gX8_toPlace_46
      rw [nI_int (by omega), if_neg (by rw [ci0]; omega), e1, cl_some, show j + (m + 1) = j + m + 1 by omega, nI_pred2, f1]
    refine ⟨s', ?_, f2⟩
    rw [gX8_toPlace_13, nx, nI_int (show j + (m + 1) < 2147483648 by omega), if_neg (by rw [ci0]; omega), g1, g2, nI_int (by omega), nI_int (by omega)]
    by_cases c : P < vpl V t (j + (m + 1))
    · rw [if_pos (by omega)]
    · rw [if_neg (by omega), c_frameWords hRP hJ.1 hf.1, cl_some, nI_add, nx]
      unfold vwd
      rw [nI_int (by omega), if_pos (by omega)]
theorem c_toPlace (h : RC 11 2048 s0 V zs fr) (hI : VI 2048 B V) (ht : t < 6) (hj : j < V.2.2.1 t) (hk : k < vsz V.1 (V.2.2.2 t j).1) (hP : P = vpl V t j + 2 + k) (hs : ∀ c, c ≠ 27 → s c = s0 c) : ∃ s', gX8_toPlace 11 (11 + 17 + 2 * t) s (nI P) = some (nI j, s') ∧ (∀ c, c ≠ 27 → s' c = s0 c) ∧ s' (11 + 16) 1 = nI (vpl V t j) := by
  have hN := hI.n ht
  have hR : RC 11 2048 s V zs fr := h.eq cx11 (fun c _ _ _ c4 _ => hs c (by omega))
  obtain ⟨s1, a1, a2, a3, a4, a5⟩ := c_toLast hR hI ht (by omega)
  have e4 : s1 (11 + 17 + 2 * t) 4 = nI (V.2.2.1 t) := by
    rw [a2 _ (by omega), show s (11 + 17 + 2 * t) 4 = V.1 (3954 + t) from hR.at ht (e := (4, 3954)) (by decide)]
    exact hI.f54 ht
  obtain ⟨m, hm⟩ : ∃ m, V.2.2.1 t - 1 = j + m := ⟨V.2.2.1 t - 1 - j, by omega⟩
  obtain ⟨s', f1, f2⟩ := c_13 h hI ht hj hk hP m wt_N s1 (by unfold wt_N; omega) (by omega) (fun c hc => by rw [a2 c hc, hs c hc]) (by rw [← hm]; exact a3) (by rw [← hm]; exact a4)
  unfold gX8_toPlace
  rw [a1, cl_some, e4, li_sub (by omega), hm, f1]
  exact ⟨s', rfl, f2⟩
theorem q_pointed (h : RS s V) (hI : VI 2048 B V) (ht : t < 6) (hj : j < V.2.2.1 t) (hk : k < vsz V.1 (V.2.2.2 t j).1) (hb : ¬ bt (V.1 (2238 + (V.2.2.2 t j).1)) k) (hP : P = vpl V t j + 2 + k) : ∃ s', gX11_pointed s (nI t) (nI P) = some (nI (16 * j + k), s') ∧ RO s s' := by
  have hN := hI.n ht
  have hJ := hI.J
  have hfj := hJ.fit ht hj
  have hfj2 := hfj.2.2
  unfold vwd at hfj2
  have loop : ∀ (m fu : Nat) (s : wt_S), m + 1 < fu → j + m < V.2.2.1 t → RS s V → s 110 11 = nI (vpl V t (j + m)) → s 110 12 = nI (V.2.2.2 t (j + m)).1 → ∃ s', gX11_pointed_30 fu s (nI P) (nI (j + m)) = some (nI (16 * j + k), s') ∧ RO s s' := by
    intro m
    induction m with
    | zero =>
      intro fu s hfu hm h g1 g2
      obtain ⟨fu, rfl⟩ : ∃ m, fu = m + 1 := ⟨fu - 1, by omega⟩
      have g1 : s 110 11 = nI (vpl V t j) := g1
      have g2 : s 110 12 = nI (V.2.2.2 t j).1 := g2
      have hz := (hJ.1.sz hfj.1)
      have hw1 : s 111 (2228 + (V.2.2.2 t j).1) = nI (vsz V.1 (V.2.2.2 t j).1) := (h.2.at (by unfold vtr; have := hfj.1; omega)).trans hz.1
      have hw2 : s 111 (2238 + (V.2.2.2 t j).1) = V.1 (2238 + (V.2.2.2 t j).1) := h.2.at (by unfold vtr; have := hfj.1; omega)
      have hf10 := hfj.1
      have hin : rb ((nI (vpl V t j) + 2).toInt ≤ (nI P).toInt ∧ (nI P).toInt ≤ (nI (vpl V t j) + 1 + nI (vsz V.1 (V.2.2.2 t j).1)).toInt) = 1 := by
        rw [show nI (vpl V t j) + 2 = nI (vpl V t j + 2) from nI_add _ 2, show nI (vpl V t j) + 1 = nI (vpl V t j + 1) from nI_add _ 1, nI_add]
        exact rb_pos (by rw [nI_int (by omega), nI_int (by omega), nI_int (by omega)]; omega)
      refine ⟨s, ?_, RO.refl⟩
      rw [gX11_pointed_30, nI_int (show j + 0 < 2147483648 by omega), if_neg (by rw [ci0]; omega), g2, li_add, ix_nI (by omega) (by omega), hw1, g1, q_isIn, cl_some, hin, if_neg (by decide), g2, li_add, ix_nI (by omega) (by omega), hw2, g1]
      have hpk : nI P - nI (vpl V t j) - 2 = nI k := by
        rw [nI_sub (by omega), li_sub (by omega)]
        congr 1
        omega
      have hpk2 : 16 * nI (j + 0) + nI P - nI (vpl V t j) - 2 = nI (16 * j + k) := by
        rw [show (16 : Int32) * nI (j + 0) = nI (16 * (j + 0)) from nI_mul 16 (j + 0), nI_add, nI_sub (by omega), li_sub (by omega)]
        congr 1
        omega
      unfold gX11_has
      rw [hpk, if_pos hb, cl_some, if_pos rfl, g1, hpk2]
    | succ m ih =>
      intro fu s hfu hm h g1 g2
      obtain ⟨fu, rfl⟩ : ∃ m, fu = m + 1 := ⟨fu - 1, by omega⟩
      have hf := hJ.fit ht hm
      have hf2 := hf.2.2
      have hdj := hJ.dj ht ht hm hj (fun q => by omega)
      unfold vwd at hf2 hdj
      have hz := (hJ.1.sz hf.1)
      have hf10 := hf.1
      have hw1 : s 111 (2228 + (V.2.2.2 t (j + (m + 1))).1) = nI (vsz V.1 (V.2.2.2 t (j + (m + 1))).1) := (h.2.at (by unfold vtr; omega)).trans hz.1
      have hin : rb ((nI (vpl V t (j + (m + 1))) + 2).toInt ≤ (nI P).toInt ∧ (nI P).toInt ≤ (nI (vpl V t (j + (m + 1))) + 1 + nI (vsz V.1 (V.2.2.2 t (j + (m + 1))).1)).toInt) = 0 := by
        rw [show nI (vpl V t (j + (m + 1))) + 2 = nI (vpl V t (j + (m + 1)) + 2) from nI_add _ 2, show nI (vpl V t (j + (m + 1))) + 1 = nI (vpl V t (j + (m + 1)) + 1) from nI_add _ 1, nI_add]
        exact rb_neg (by rw [nI_int (by omega), nI_int (by omega), nI_int (by omega)]; omega)
      obtain ⟨s1, e1, e2, e3, e4, e5⟩ := q_goesBack (j := j + m) h hJ ht (by omega) g1
      obtain ⟨s', f1, f2⟩ := ih fu s1 (by omega) (by omega) (h.ro e2) e3 e4
      refine ⟨s', ?_, e2.trans f2⟩
      rw [gX11_pointed_30, nI_int (show j + (m + 1) < 2147483648 by omega), if_neg (by rw [ci0]; omega), g2, li_add, ix_nI (by omega) (by omega), hw1, g1, q_isIn, cl_some, hin, if_pos rfl, if_neg (by rw [ci0]; omega), e1, cl_some, show j + (m + 1) = j + m + 1 by omega, nI_pred2, f1]
  obtain ⟨m, hm⟩ : ∃ m, V.2.2.1 t - 1 = j + m := ⟨V.2.2.1 t - 1 - j, by omega⟩
  have h54 := hI.f54 ht
  obtain ⟨s1, e1, e2, e3, e4, e5⟩ := q_looksAt h hI ht (show V.2.2.1 t - 1 < V.2.2.1 t by omega)
  have h1 := h.ro e2
  rw [hm] at e1 e3 e4
  obtain ⟨s', f1, f2⟩ := loop m wt_N s1 (by unfold wt_N; omega) (by omega) h1 e3 e4
  unfold gX11_pointed
  rw [li_add, ix_nI (by omega) (by omega), h.tk (c := 3954) (by omega) ht, h54, li_sub (by omega), hm, e1, cl_some, ix_nI (by omega) (by omega), h1.tk (c := 3954) (by omega) ht, h54, li_sub (by omega), hm, f1]
  exact ⟨s', rfl, e2.trans f2⟩
theorem lo_slotE {a b c d : Int32} (h : LJ F B s) (hF : F ≤ 1999990000) : LO F B s (gX10_slot s a b c d) (fun s1 => gX11_slot s1 a b c d) Eq := lo_eqw h (oX10_slot (by omega) h.1) (fun V hI hn => by
  show ∃ r s1, gX10_slot s a b c d = some (r, s1) ∧ (∀ c, c ≠ 27 → s1 c = s c) ∧ ∀ s1', RS s1' V → ∃ s2, gX11_slot s1' a b c d = some (r, s2) ∧ RO s1' s2
  obtain ⟨⟨zs, fr, hR⟩, -⟩ := hn
  have hj := hI.J
  have hm := mz11
  have q2 : (2 : Int32).toInt = 2 := by decide
  have q3 : (3 : Int32).toInt = 3 := by decide
  have w0 : (0 : Int32).toInt = 0 := ci0
  unfold gX10_slot gX10_slot_20 gX10_slot_182 gX10_slot_183
  rw [c_hasFrame hR hI, cl_some, if_rb]
  by_cases c0 : (0 ≤ a.toInt ∧ a.toInt ≤ 5) ∧ 0 ≤ b.toInt ∧ b.toInt.toNat < V.2.2.1 a.toInt.toNat
  · rw [if_pos c0]
    have c0' := c0
    obtain ⟨c1, c2, c3⟩ := c0
    obtain ⟨t, ht, rfl, etn⟩ := i_task c1
    obtain ⟨i, i1, rfl, i3, i4⟩ := i_nat (x := b) c2
    rw [etn, i3] at c3
    by_cases cw : 0 ≤ d.toInt ∧ d.toInt ≤ 3
    · have isn : ∀ {s1 : wt_S}, gX11_isIn s1 d 0 3 = some (1, s1) := by
        intro s1
        rw [q_isIn, rb_pos (show (0 : Int32).toInt ≤ d.toInt ∧ d.toInt ≤ (3 : Int32).toInt by rw [w0, q3]; exact cw)]
      have hfit := hj.fit ht c3
      have hfit2 := hfit.2.2
      unfold vwd at hfit2
      have hft := hfit.1
      obtain ⟨s1, a1, a2, a3, a4, a5⟩ := c_toFrame hR hI ht c3
      have a3 : s1 27 1 = _ := a3
      have a4 : s1 27 2 = _ := a4
      have hRP : RP 5 s1 V.1 := hR.2.2.2.2.2.eq hj.1 vpe.refl (fun c c1 c2 => a2 c (by omega))
      obtain ⟨w1, w2, w3⟩ := (hR.2.2.2.2.1 t ht i c3).2
      have e26 : s1 (11 + 15) = s (11 + 15) := a2 _ (by omega)
      have ref : ∀ {s1 : wt_S}, RS s1 V → ∃ s2, RO s1 s2 ∧ RS s2 V ∧ s2 110 11 = nI (vpl V t i) ∧ s2 110 12 = nI (V.2.2.2 t i).1 ∧ gX11_isFrame s1 (nI t) (nI i) = some (rb ((0 ≤ (nI t).toInt ∧ (nI t).toInt ≤ 5) ∧ 0 ≤ (nI i).toInt ∧ (nI i).toInt.toNat < V.2.2.1 (nI t).toInt.toNat), s1) ∧ gX11_looksAt s1 (nI t) (nI i) = some ((), s2) ∧ (∀ k, k < vsz V.1 (V.2.2.2 t i).1 → s2 111 (vpl V t i + 2 + k) = vsw V.1 (vpl V t) (V.2.2.2 t i) k) ∧ gX11_isSlot s2 (nI (V.2.2.2 t i).1) c = some (rb (v2s V.1 (V.2.2.2 t i).1 c), s2) ∧ ∀ k, k < vsz V.1 (V.2.2.2 t i).1 → gX11_isPointer s2 (nI (V.2.2.2 t i).1) (nI k) = some (rb (bt (V.1 (2238 + (V.2.2.2 t i).1)) k), s2) := fun {s1} h1 => by
        obtain ⟨s2, e1, e2, e3, e4, e5⟩ := q_looksAt h1 hI ht c3
        have h2 := h1.ro e2
        obtain ⟨v1, v2, v3⟩ := h2.wd hj rfl ht c3
        have hp2 := hI.2.1.ww h2.prog
        have x1 : s2 111 (2228 + (V.2.2.2 t i).1) = V.1 (2228 + (V.2.2.2 t i).1) := h2.2.at (by unfold vtr; omega)
        have x2 : s2 111 (2238 + (V.2.2.2 t i).1) = V.1 (2238 + (V.2.2.2 t i).1) := h2.2.at (by unfold vtr; omega)
        refine ⟨s2, e2, h2, e3, e4, q_isFrame h1 hI, e1, v3, by rw [q_isSlot hft, x1], fun k hk => ?_⟩
        have hz := hj.1.sz hft
        have hk2 : (nI k).toInt = k := nI_int (by omega)
        have hvs : v2s (s2 111) (V.2.2.2 t i).1 (nI k) := by
          unfold v2s
          rw [x1, hz.1, li_sub (by omega), nI_int (by omega), nI_int (by omega)]
          omega
        have hkn : (nI k).toInt.toNat = k := by rw [hk2]; rfl
        rw [q_isPointer hft]
        refine congrArg (fun z => some (z, s2)) (rb_iff ⟨fun q => ?_, fun q => ⟨hvs, ?_⟩⟩)
        · have := q.2
          rw [x2, hkn] at this
          exact this
        · rw [x2, hkn]
          exact q
      rw [w0, if_neg (show ¬ d.toInt < 0 by omega), q3, if_pos cw.2, ix_nI ht (by omega), a1, cl_some, a4, c_hasSlot hRP hj.1 hft, cl_some, if_rbn]
      by_cases cs : v2s V.1 (V.2.2.2 t i).1 c
      · obtain ⟨k, k1, k2, k3⟩ := v2s_slt hj.1 hft cs
        subst k1
        have hz := hj.1.sz hft
        have wd : gX3_word 11 s1 (nI (vpl V t i) + 2 + nI k) = some (vsw V.1 (vpl V t) (V.2.2.2 t i) k, s1) := by
          rw [show nI (vpl V t i) + 2 = nI (vpl V t i + 2) from nI_add _ 2, nI_add, c_word (by omega), e26, w3 k k3]
        rw [if_pos cs, c_isPointer hRP hft, cl_some, a3, wd, cl_some]
        have hbtd : vsw V.1 (vpl V t) (V.2.2.2 t i) k = if bt (V.1 (2238 + (V.2.2.2 t i).1)) k then (match (V.2.2.2 t i).2.2.2.2.2 k with | none => -1 | some q => nI (vpl V t q.1 + 2 + q.2)) else (V.2.2.2 t i).2.2.2.2.1 k := rfl
        generalize hW : vsw V.1 (vpl V t) (V.2.2.2 t i) k = W at hbtd
        have fin : ∀ {s1 : wt_S}, RS s1 V → ∃ s2, RO s1 s2 ∧ RS s2 V ∧ gX11_slot s1 (nI t) (nI i) (nI k) d = (if (2 : Int32).toInt ≤ d.toInt then (if rb (bt (V.1 (2238 + (V.2.2.2 t i).1)) k) = 0 then gX11_slot_120 s2 d else (if W = (-1 : Int32) then gX11_slot_120 s2 d else (wt_cl (gX11_pointed s2 (nI t) W) fun v12 s11 => gX11_slot_121 s11 d v12))) else (if d ≠ (1 : Int32) then (if rb (bt (V.1 (2238 + (V.2.2.2 t i).1)) k) = 0 then some (0, s2) else some (1, s2)) else some (W, s2))) := fun {s1} h1 => by
          obtain ⟨s2, r1, r2, r3, r4, r6, r7, r8, r9, r10⟩ := ref h1
          refine ⟨s2, r1, r2, ?_⟩
          unfold gX11_slot
          rw [r6, cl_some, if_rb, if_pos c0', isn, cl_some, if_pos (by decide), r7, cl_some, r4, r9, cl_some, if_rbn, if_pos cs, r3, li_add2, nI_add, ix_nI (by omega) (by omega), r4, r10 k k3, cl_some, r8 k k3, hW]
        by_cases d0 : d = 0
        · have w00 : ¬ (2 : Int32).toInt ≤ d.toInt := by rw [d0]; decide
          rw [if_neg (fun q => q d0)]
          refine ⟨rb (bt (V.1 (2238 + (V.2.2.2 t i).1)) k), s1, rb_if, a2, fun s1' h' => ?_⟩
          obtain ⟨s2, r1, r2, r3⟩ := fin h'
          refine ⟨s2, ?_, r1⟩
          rw [r3, if_neg w00, if_pos (by rw [d0]; decide)]
          exact rb_if
        by_cases d1 : d = 1
        · have w00 : ¬ (2 : Int32).toInt ≤ d.toInt := by rw [d1]; decide
          rw [if_pos d0, if_neg (fun q => q d1)]
          refine ⟨W, s1, rfl, a2, fun s1' h' => ?_⟩
          obtain ⟨s2, r1, r2, r3⟩ := fin h'
          refine ⟨s2, ?_, r1⟩
          rw [r3, if_neg w00, if_neg (fun q => q d1)]
        have w22 : (2 : Int32).toInt ≤ d.toInt := by
          rw [q2]
          obtain ⟨n, n1, n2, n3, n4⟩ := i_nat (x := d) cw.1
          by_cases e0 : n = 0
          · exact absurd (n2.trans (by rw [e0]; rfl)) d0
          by_cases e1 : n = 1
          · exact absurd (n2.trans (by rw [e1]; rfl)) d1
          omega
        rw [if_pos d0, if_pos d1]
        by_cases cb : bt (V.1 (2238 + (V.2.2.2 t i).1)) k
        · rw [if_pos cb] at hbtd
          rw [rb_pos cb, if_neg (by decide)]
          obtain ⟨np, -, -, hIf⟩ := hj.geo ht (show 0 < V.2.2.1 t by omega)
          have hptr := hIf.2.2.2.2.2 i c3 k k3 cb
          cases hq : (V.2.2.2 t i).2.2.2.2.2 k with
          | none =>
            rw [hq] at hbtd
            have hbtd : W = -1 := hbtd
            rw [if_pos hbtd, if_pos rfl]
            refine ⟨-1, s1, rfl, a2, fun s1' h' => ?_⟩
            obtain ⟨s2, r1, r2, r3⟩ := fin h'
            refine ⟨s2, ?_, r1⟩
            unfold gX11_slot_120 gX11_slot_121 at r3
            rw [r3, if_pos w22, rb_pos cb, if_neg (by decide), if_pos hbtd, if_neg (fun q => q rfl)]
          | some q =>
            rw [hq] at hbtd
            have hbtd : W = nI (vpl V t q.1 + 2 + q.2) := hbtd
            obtain ⟨p1, p2, p3⟩ := hptr q hq
            have hqi : q.1 < V.2.2.1 t := by omega
            have hfq := hj.fit ht hqi
            have hfq2 := hfq.2.2
            have hN := hI.n ht
            have hzq := (hj.1.sz hfq.1).2
            unfold vwd at hfq2
            obtain ⟨s2, b1, b2, b3⟩ := c_toPlace (P := vpl V t q.1 + 2 + q.2) hR hI ht hqi p2 rfl a2
            have b3 : s2 27 1 = _ := b3
            rw [hbtd, if_neg (nI_nm (by omega)), ix_nI ht (by omega), b1, cl_some, if_neg (nI_nm (by omega)), b3, nI_sub (by omega), li_sub (by omega), show vpl V t q.1 + 2 + q.2 - vpl V t q.1 - 2 = q.2 by omega]
            have key : ∀ {s1 : wt_S}, RS s1 V → ∃ s2, RO s1 s2 ∧ gX11_slot s1 (nI t) (nI i) (nI k) d = (if d ≠ 2 then some (nI q.2, s2) else some (nI q.1, s2)) := fun {s1} h1 => by
              obtain ⟨s2, r1, r2, r3⟩ := fin h1
              obtain ⟨s3, g1, g2⟩ := q_pointed (P := vpl V t q.1 + 2 + q.2) r2 hI ht hqi p2 p3 rfl
              refine ⟨s3, r1.trans g2, ?_⟩
              rw [r3, if_pos w22, rb_pos cb, if_neg (by decide), hbtd, if_neg (nI_nm (by omega)), g1, cl_some]
              unfold gX11_slot_121
              rw [if_pos (nI_nm (by omega)), nI_16 (by omega), show (16 * q.1 + q.2) / 16 = q.1 by omega, show nI q.1 * (16 : Int32) = nI (q.1 * 16) from nI_mul q.1 16, nI_sub (by omega), show 16 * q.1 + q.2 - q.1 * 16 = q.2 by omega]
            by_cases d2 : d ≠ 2
            · rw [if_pos d2]
              refine ⟨_, s2, rfl, b2, fun s1' h' => ?_⟩
              obtain ⟨s3, g1, g2⟩ := key h'
              exact ⟨s3, by rw [g2, if_pos d2], g1⟩
            · rw [if_neg d2]
              refine ⟨_, s2, rfl, b2, fun s1' h' => ?_⟩
              obtain ⟨s3, g1, g2⟩ := key h'
              exact ⟨s3, by rw [g2, if_neg d2], g1⟩
        · rw [rb_neg cb, if_pos rfl, if_pos rfl]
          refine ⟨-1, s1, rfl, a2, fun s1' h' => ?_⟩
          obtain ⟨s2, r1, r2, r3⟩ := fin h'
          refine ⟨s2, ?_, r1⟩
          unfold gX11_slot_120 gX11_slot_121 at r3
          rw [r3, if_pos w22, rb_neg cb, if_pos rfl, if_neg (fun q => q rfl)]
      · rw [if_neg cs]
        refine ⟨_, s1, rfl, a2, fun s1' h' => ?_⟩
        obtain ⟨s2, r1, r2, r3, r4, r6, r7, r8, r9, r10⟩ := ref h'
        refine ⟨s2, ?_, r1⟩
        unfold gX11_slot
        rw [r6, cl_some, if_rb, if_pos c0', isn, cl_some, if_pos (by decide), r7, cl_some, r4, r9, cl_some, if_rbn, if_neg cs]
    · have isn : ∀ {s1 : wt_S}, gX11_isIn s1 d 0 3 = some (0, s1) := by
        intro s1
        rw [q_isIn, rb_neg (show ¬ ((0 : Int32).toInt ≤ d.toInt ∧ d.toInt ≤ (3 : Int32).toInt) by rw [w0, q3]; exact cw)]
      refine ⟨-1000000000, s, ?_, fun _ _ => rfl, fun s1' h' => ⟨s1', ?_, RO.refl⟩⟩
      · rw [w0, q3]
        by_cases c4 : d.toInt < 0
        · rw [if_pos c4]
        · rw [if_neg c4, if_neg (by omega)]
      · unfold gX11_slot gX11_slot_19
        rw [q_isFrame h' hI, cl_some, if_rb, if_pos c0', isn, cl_some, if_neg (by decide)]
  · rw [if_neg c0]
    refine ⟨_, s, rfl, fun _ _ => rfl, fun s1' h' => ⟨s1', ?_, RO.refl⟩⟩
    unfold gX11_slot gX11_slot_19
    rw [q_isFrame h' hI, cl_some, if_rb, if_neg c0])
end
end
section
/-! ===== land: the same answers ===== -/
section
variable {F B : Nat} {s : wt_S} {V : vV} {t : Nat} {x n what : Int32} {Z : (Nat → Int32) → Int32 → Int32 → Int32 → Bool}
theorem vrl_run : ∀ (m : Nat) (V : vV), vrl 2048 Z t m V = (vrun Z t m V).2 := by
  intro m
  induction m with
  | zero => intro V; rfl
  | succ m ih =>
    intro V
    unfold vrl vrun
    by_cases c : vby V t = true
    · rw [if_pos c, if_pos c, ih]
    · rw [if_neg c, if_neg c]
theorem k_backE {s1 s2 : wt_S} {V2 : vV} {v : Int32} (h : RS s V) {g : Nat → Int32} (hg : ∀ k, k < 4073 → g k = s 111 k) (e1 : s1 = wt_uf s 112 g) (h2 : RS s2 V2) (hf : RF s1 s2) : ∃ s', (wt_cl (gX11_copies 112 4073 111 4073 s2) fun _ s3 => some (v, s3)) = some (v, s') ∧ RS s' V ∧ RH s s' := by
  obtain ⟨r, s', e, k1, k2⟩ := k_back (v := v) h hg e1 h2 hf
  obtain ⟨g2, f1, f2⟩ := q_copies (r1 := 112) (r2 := 111) (by omega) (s := s2)
  rw [f1, cl_some] at e ⊢
  cases e
  exact ⟨_, rfl, k1, k2⟩
theorem q_landE (h : RS s V) (hI : VI 2048 B V) (hB : B < 2147480000) : ∃ s', gX11_land s x n what = some (vlandop vZ V x n what, s') ∧ RS s' V ∧ RH s s' := by
  have r0 : RS s V ∧ RH s s := ⟨h, ⟨fun _ _ => rfl, rfl, rfl⟩⟩
  have q0 : (0 : Int32).toInt = 0 := by decide
  have q1 : (1 : Int32).toInt = 1 := by decide
  have q2 : (200 : Int32).toInt = 200 := by decide
  have q4 : (4 : Int32).toInt = 4 := by decide
  unfold gX11_land
  rw [q_isTask, cl_some, if_rb]
  by_cases c1 : 0 ≤ x.toInt ∧ x.toInt ≤ 5
  · rw [if_pos c1, q_isIn, cl_some, if_rb, q1, q2]
    by_cases c2 : 1 ≤ n.toInt ∧ n.toInt ≤ 200
    · rw [if_pos c2, q_isIn, cl_some, if_rbn, q0, q4]
      by_cases c3 : 0 ≤ what.toInt ∧ what.toInt ≤ 4
      · have hv : vlandop vZ V x n what = vland (vrl 2048 vZ x.toInt.toNat n.toInt.toNat V) x.toInt.toNat what := by unfold vlandop; rw [if_pos ⟨c1, c2, c3⟩]
        rw [if_pos c3, hv]
        obtain ⟨t, ht, rfl, etn⟩ := i_task c1
        obtain ⟨m, m1, rfl, m3, m4⟩ := i_nat (x := n) (by omega)
        rw [etn, m3, vrl_run]
        obtain ⟨g, e1, e2⟩ := q_copies (r1 := 111) (r2 := 112) (by omega) (s := s)
        obtain ⟨s2, f1, f2, f3, f4⟩ := q_runs (Z := vZ) hd_all ht m 0 wt_N B (wt_uf s 112 g) V (by unfold wt_N; omega) (by omega) h.a112 hI (by omega)
        rw [Nat.zero_add] at f1
        have f1 : gX11_runs (wt_uf s 112 g) (nI t) (nI m) = _ := f1
        rw [e1, cl_some, f1, cl_some]
        generalize (vrun vZ t m V).2 = W at *
        have fin : ∀ v, ∃ s', gX11_land_123 s2 v = some (v, s') ∧ RS s' V ∧ RH s s' := fun v => k_backE h e2 rfl f2 f3
        unfold vland
        obtain ⟨k, k1, rfl, k3, k4⟩ := i_nat (x := what) c3.1
        rw [k4]
        obtain rfl | rfl | rfl | rfl | rfl : k = 0 ∨ k = 1 ∨ k = 2 ∨ k = 3 ∨ k = 4 := by omega
        · rw [if_neg (by decide), if_pos (by decide), li_add, ix_nI (by omega) (by omega), f2.2.at (by unfold vtr; omega)]
          exact fin _
        · rw [if_pos (by decide), if_neg (by decide), if_neg (by decide), if_pos (by decide), li_add, ix_nI (by omega) (by omega), f2.2.at (by unfold vtr; omega)]
          exact fin _
        · rw [if_pos (by decide), if_pos (by decide), if_neg (by decide), if_neg (by decide), if_neg (by decide), if_pos (by decide), li_add, ix_nI (by omega) (by omega), f2.2.at (by unfold vtr; omega)]
          exact fin _
        · rw [if_pos (by decide), if_pos (by decide), if_pos (by decide), if_neg (by decide), if_neg (by decide), if_neg (by decide), if_neg (by decide), if_pos (by decide), q_wordsOf f2.2.2.1 f4.J.2.1 ht, cl_some]
          exact fin _
        · rw [if_pos (by decide), if_pos (by decide), if_pos (by decide), if_pos (by decide), if_neg (by decide), if_neg (by decide), if_neg (by decide), if_neg (by decide), li_add, ix_nI (by omega) (by omega), f2.2.at (by unfold vtr; omega)]
          exact fin _
      · have hv : vlandop vZ V x n what = -1 := by unfold vlandop; rw [if_neg (fun e => c3 e.2.2)]
        rw [hv, if_neg c3]
        exact ⟨s, rfl, r0⟩
    · have hv : vlandop vZ V x n what = -1 := by unfold vlandop; rw [if_neg (fun e => c2 e.2.1)]
      rw [hv, if_neg c2]
      exact ⟨s, rfl, r0⟩
  · have hv : vlandop vZ V x n what = -1 := by unfold vlandop; rw [if_neg (fun e => c1 e.1)]
    rw [hv, if_neg c1]
    exact ⟨s, rfl, r0⟩
theorem lo_landE {a b c : Int32} (h : LJ F B s) (hF : F + 400 ≤ 1999990000) (hB : B ≤ 2147200000) : LO (F + 400) B s (gX10_land s a b c) (fun s1 => gX11_land s1 a b c) Eq :=
  lo_mk h (Nat.le_refl _) (oX10_land hF h.1) (fun V hr hI hn => by
    obtain ⟨s1, a1, a2, a3⟩ := c_landop (x := a) (n := b) (what := c) (Z := vZ) hn
    refine ⟨_, s1, _, a1, a2, fun c hc => a3 c (by omega), fun s1' h' => ?_⟩
    obtain ⟨s2, b1, b2, b3⟩ := q_landE (x := a) (n := b) (what := c) h' hI (by omega)
    exact ⟨_, s2, b1, rfl, b2, b3⟩)
end
end
