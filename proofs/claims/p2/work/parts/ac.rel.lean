/-! ===== the class: a move whole; all pieces of a task are given back ===== -/
section
variable {b lim : Nat} {s s' : wt_S} {V V' : vV} {zs zs' : List (vP × Nat)} {fr fr' : List Nat} {t np z need : Nat}
theorem c_move_n (h : RC b lim s V zs fr) (hx : CX b lim) (hj : VJ lim V) (ht : t < 6) {words : Nat} {lg : Int32} (hw : 1 ≤ words ∧ words < 100000) (hg : vgap lim 0 V.2.1 words = none) : gX4_moveInto b (b + 17 + 2 * t) s (nI words) lg = some (0, s) := by
  unfold gX4_moveInto
  rw [(h.2.2.2.1 t ht).1.1, (c_take h.2.1 (by rw [h.1]; exact hj.2.1) hw hx.2.2).1 (by rw [h.1]; exact hg), cl_some, if_neg (by decide)]
theorem c_move (h : RC b lim s V zs fr) (hx : CX b lim) (hj : VJ lim V) (hc : Ico V t 1) (ht : t < 6) (hm : V.1 (3933 + t) = 0) {words g : Nat} {lg : Int32} {e : Nat × Nat} (he : (lg = 0 ∧ e = (4, 4010)) ∨ (lg = 1 ∧ e = (7, 4031))) (hw : 1 ≤ words ∧ words < 100000) (hu : vus V.1 (V.2.2.2 t) (V.2.2.1 t) ≤ words) (hlen : zs.length < 256) (hg : vgap lim 0 V.2.1 words = some g) :
    ∃ s' zs' fr', gX4_moveInto b (b + 17 + 2 * t) s (nI words) lg = some (1, s') ∧ RC b lim s' (vlg1 (vcn (vinc (vmv V t g words) (e.2 + t)) e.1 1)) zs' fr' ∧ TO b t s s' := by
  obtain ⟨id, s1, zs1, fr1, a1, a2, a3, a4⟩ := c_move1 (lg := lg) h hx hj hc ht hm hw hu hlen hg
  have hw1 : vpe V.1 (vmw V t g words).1 := (ot_mvX ht : OT t V (vmw V t g words)).1
  have hp1 : Ipr (vmw V t g words).1 := hj.1.ww hw1
  have hf1 : VFR (vmw V t g words) := hj.vfr
  have e5 : s1 (b + 17 + 2 * t) 5 = (vmw V t g words).1 (3961 + t) := a3.at ht (e := (5, 3961)) (by decide)
  obtain ⟨s2, b1, b2, b3, -⟩ := c_adds a3 hx hp1 hf1 ht (e := (5, 4017)) (by decide) (v := (vmw V t g words).1 (3961 + t))
  have b1 : gX9_add b (b + 17 + 2 * t) s1 5 ((vmw V t g words).1 (3961 + t)) = some ((), s2) := b1
  have b2 : RC b lim s2 (vmv V t g words) zs1 fr1 := b2
  have hp2 : Ipr (vmv V t g words).1 := hj.1.ww vmv_w
  have hf2 : VFR (vmv V t g words) := hj.vfr
  have hts : e ∈ ts := by rcases he with ⟨-, rfl⟩ | ⟨-, rfl⟩ <;> decide
  obtain ⟨s3, c1, c2, c3, -⟩ := c_adds b2 hx hp2 hf2 ht hts (v := 1)
  have ep := ts_p e hts
  have hp3 : Ipr (vcn (vs (vmv V t g words) (e.2 + t) ((vmv V t g words).1 (e.2 + t) + 1)) e.1 1).1 := Ipr.vs1 (Ipr.vs1 hp2 (by omega)) (by rcases he with ⟨-, rfl⟩ | ⟨-, rfl⟩ <;> decide)
  obtain ⟨s4, d1, d2, d3⟩ := c_logs c2 hx hp3 hf2 (i1 := lg) a1
  refine ⟨s4, zs1, fr1, ?_, d2, ((a4.trans b3).trans c3).trans (TO.lf d3)⟩
  rw [a2, e5, b1, cl_some]
  rcases he with ⟨rfl, rfl⟩ | ⟨rfl, rfl⟩
  · have c1 : gX9_add b (b + 17 + 2 * t) s2 4 1 = some ((), s3) := c1
    rw [if_neg (by decide)]
    unfold gX4_moveInto_114
    rw [c1, cl_some, d1, cl_some]
  · have c1 : gX9_add b (b + 17 + 2 * t) s2 7 1 = some ((), s3) := c1
    rw [if_pos (by decide)]
    unfold gX4_moveInto_114
    rw [c1, cl_some, d1, cl_some]
theorem c_doubled {e : Nat} (he : e < 1000000) : ∀ (m n fu : Nat), m ≤ 16 → n < 3000000 → m < fu → gX4_doubled_4 fu s (nI e) (nI n) (nI (16 - m)) = some (nI (vdbl e m n), s) := by
  intro m
  induction m with
  | zero =>
    intro n fu _ hn hf
    obtain ⟨fu, rfl⟩ : ∃ k, fu = k + 1 := ⟨fu - 1, by omega⟩
    rw [gX4_doubled_4, if_pos (by decide)]
    rfl
  | succ m ih =>
    intro n fu hm hn hf
    obtain ⟨fu, rfl⟩ : ∃ k, fu = k + 1 := ⟨fu - 1, by omega⟩
    have c16 : (16 : Int32).toInt = 16 := by decide
    rw [gX4_doubled_4, if_neg (by rw [nI_int (by omega), c16]; omega), nI_int (by omega), nI_int (by omega)]
    show _ = some (nI (if n < e then vdbl e m (n * 2) else n), s)
    by_cases c : n < e
    · rw [if_neg (by omega), if_pos c, li_mul2, show nI (16 - (m + 1)) + 1 = nI (16 - m) by rw [show (16 - m : Nat) = 16 - (m + 1) + 1 by omega]; exact nI_add _ 1]
      exact ih (n * 2) fu (by omega) (by omega) (by omega)
    · rw [if_pos (by omega), if_neg c]
/-- COPIED: room is made -/
theorem c_growc (h : RC b lim s V zs fr) (hx : CX b lim) (hP : Vpre lim V t np z) (hm : V.1 (3933 + t) = 0) (hn : 1 ≤ need ∧ need ≤ 100) : ∃ W s' zs' fr', gX4_doubled s (2 * nI (vln V.2.1 t 0)) (nI (vus V.1 (V.2.2.2 t) (V.2.2.1 t)) + nI need) = some (nI W, s) ∧ gX4_moveInto b (b + 17 + 2 * t) s (nI W) 0 = some (rb ((vgr lim V t need).1 = true), s') ∧ RC b lim s' (vgr lim V t need).2 zs' fr' ∧ TO b t s s' := by
  obtain ⟨hj, hc, ht, hz, h8, hzl, hl, hl2, hq⟩ := hP
  have hnp : np = 1 := by
    rcases hc.2.2.2.2.1 with e | e
    · exact e.2.1
    · rw [hm] at e; exact absurd e (by decide)
  subst hnp
  obtain ⟨q, q1, q2, q3, q4, q5, -⟩ := vget (hc.2.2.2.1.1 0 (by omega))
  have hqz := hq q q1
  have hqo := hj.2.1.2 q q1
  obtain ⟨-, hul⟩ := hc.n hj hx.2.2
  have hus := hc.2.2.2.2.2.1
  have hvu : vuse V t = vus V.1 (V.2.2.2 t) (V.2.2.1 t) := vuse_of hus (by omega)
  have hd := vdbl_ge (e := vus V.1 (V.2.2.2 t) (V.2.2.1 t) + need) (m := 16) (n := 2 * vln V.2.1 t 0) (by rw [q5]; omega) (by rw [q5]; omega)
  refine ⟨vdbl (vus V.1 (V.2.2.2 t) (V.2.2.1 t) + need) 16 (2 * vln V.2.1 t 0), ?_⟩
  have hdb : gX4_doubled s (2 * nI (vln V.2.1 t 0)) (nI (vus V.1 (V.2.2.2 t) (V.2.2.1 t)) + nI need) = some (nI (vdbl (vus V.1 (V.2.2.2 t) (V.2.2.1 t) + need) 16 (2 * vln V.2.1 t 0)), s) := by
    unfold gX4_doubled
    rw [li_mul, nI_add]
    exact c_doubled (by omega) 16 (2 * vln V.2.1 t 0) wt_N (Nat.le_refl _) (by rw [q5]; omega) (by unfold wt_N; omega)
  generalize hWW : vdbl (vus V.1 (V.2.2.2 t) (V.2.2.1 t) + need) 16 (2 * vln V.2.1 t 0) = W at *
  rw [q5] at hd
  cases e : vgap lim 0 V.2.1 W with
  | none =>
    rw [vgr_c0 hm (by rw [hvu, hWW]; exact e)]
    exact ⟨s, zs, fr, hdb, by rw [c_move_n h hx hj ht ⟨by omega, by omega⟩ e, rb_neg (by simp)], h, TO.refl⟩
  | some g =>
    have hlen : zs.length < 256 := by
      have := Vlen hj.2.1 hq h8 hl2 (show z ≤ W by omega) e
      rw [← h.1, List.length_map] at this
      exact this
    obtain ⟨s', zs', fr', a1, a2, a3⟩ := c_move h hx hj hc ht hm (lg := 0) (e := (4, 4010)) (Or.inl ⟨rfl, rfl⟩) ⟨by omega, by omega⟩ (show vus V.1 (V.2.2.2 t) (V.2.2.1 t) ≤ W by omega) hlen e
    rw [vgr_c1 hm (by rw [hvu, hWW]; exact e), hvu, hWW]
    exact ⟨s', zs', fr', hdb, by rw [a1, rb_pos rfl], a2, a3⟩
theorem c_rank_m (h : PC b lim s zs fr) (ho : vo lim (zs.map Prod.fst)) (hl : lim ≤ 10000) : gX5_rankOf b s (-1) = some (0, s) := by
  have hn := h.len
  have loop : ∀ (m i fu : Nat), m < zs.length → i + m < 256 → m < fu → gX5_rankOf_12 b fu s (-1) (nI 0) (nI m) (nI i) = some (nI 0, s) := by
    intro m
    induction m using Nat.strongRecOn with
    | _ m ih =>
      intro i fu hm hi hf
      obtain ⟨fu, rfl⟩ : ∃ k, fu = k + 1 := ⟨fu - 1, by omega⟩
      rw [gX5_rankOf_12, if_neg (c_hi (by omega))]
      by_cases c : m = 0
      · subst c
        rw [if_pos (Int.le_refl _)]
      · rw [if_neg (by rw [nI_int (by omega), nI_int (by omega)]; omega), if_neg (c_hi (by omega)), nI_add, show nI (0 + m) + 1 = nI (0 + m + 1) from nI_add _ 1, nI_half2 (by omega)]
        generalize hd : (0 + m + 1) / 2 = d
        have hd1 : 1 ≤ d ∧ d ≤ m := by omega
        have hz : zs[d]? = some zs[d] := List.getElem?_eq_getElem (by omega)
        generalize zs[d] = z at hz
        obtain ⟨g1, g2, g3, g4, g5, -, -⟩ := h.at hz
        have hzo := (ho.2 z.1 (List.mem_map.mpr ⟨z, List.mem_of_getElem? hz, rfl⟩)).2.1
        rw [ix_nI (by omega) (by omega), g1, if_neg (c_lo (by omega)), if_neg (c_hi g2), ix_nI g2 (by omega), g5, if_pos (by rw [nI_int (by omega), m1_int]; omega)]
        unfold gX5_rankOf_80
        rw [show nI d - 1 = nI (d - 1) by rw [show d = (d - 1) + 1 by omega, i_sub1, nI_pred2]; rfl, show nI i + 1 = nI (i + 1) from nI_add i 1]
        exact ih (d - 1) (by omega) (i + 1) fu (by omega) (by omega) (by omega)
  unfold gX5_rankOf
  rw [h.1]
  by_cases c : zs.length = 0
  · rw [c]
    have : ∃ k, wt_N = k + 1 := ⟨2099999999, rfl⟩
    obtain ⟨k, hk⟩ := this
    rw [hk, gX5_rankOf_12, if_neg (by decide), if_pos (by decide)]
  · rw [show nI zs.length - 1 = nI (zs.length - 1) by rw [show zs.length = (zs.length - 1) + 1 by omega, i_sub1, nI_pred2]; rfl]
    exact loop (zs.length - 1) 0 wt_N (by omega) (by omega) (by unfold wt_N; omega)
theorem c_give_m (h : PC b lim s zs fr) (ho : vo lim (zs.map Prod.fst)) (hl : lim ≤ 10000) : gX5_giveBack b s (-1) = some ((), s) := by
  unfold gX5_giveBack
  rw [c_placeOf_m, cl_some, c_rank_m h ho hl, cl_some, if_pos rfl]
/-- pieces of a task by their chain: last, spare, which is below -/
def Ch (b : Nat) (s : wt_S) (zs : List (vP × Nat)) (t np : Nat) : Prop := ((np = 0 → s (b + 17 + 2 * t) 12 = -1) ∧ ∀ z ∈ zs, z.1.2.2.1 = t → z.1.2.2.2 + 1 = np → s (b + 17 + 2 * t) 12 = nI z.2) ∧ ((∀ z ∈ zs, z.1.2.2.1 = t → z.1.2.2.2 = 1000 → s (b + 17 + 2 * t) 13 = nI z.2) ∧ ((∀ z ∈ zs, ¬ (z.1.2.2.1 = t ∧ z.1.2.2.2 = 1000)) → s (b + 17 + 2 * t) 13 = -1)) ∧ ∀ z ∈ zs, z.1.2.2.1 = t → (z.1.2.2.2 = 0 → s (b + 6) z.2 = -1) ∧ ∀ y ∈ zs, y.1.2.2.1 = t → z.1.2.2.2 = y.1.2.2.2 + 1 → s (b + 6) z.2 = nI y.2
theorem RC.ch (h : RC b lim s V zs fr) (ht : t < 6) (hn : V.1 (4066 + t) = nI np) : Ch b s zs t np := by
  obtain ⟨-, -, k3, k4, -, k6⟩ := h.2.2.2.1 t ht
  refine ⟨⟨fun e => k3.1 (by rw [hn, e]; rfl), fun z hz hzt hzn => k3.2 z hz hzt (by rw [hn, hzn])⟩, ⟨k4.1, fun hq => k4.2 (fun q hq1 hq2 => ?_)⟩, fun z hz hzt => (k6 z hz hzt).2⟩
  obtain ⟨z, hz, rfl⟩ := h.mm hq1
  exact hq z hz hq2
/-- the pieces from a number on have gone -/
def vPm (t m : Nat) (q : vP) : Bool := decide (¬ (q.2.2.1 = t ∧ m ≤ q.2.2.2 ∧ q.2.2.2 ≠ 1000))
theorem c_rel_loop {ps : List vP} (hx : CX b lim) (hm : zs.map Prod.fst = ps) (ho : vo lim ps) (hu : ps.Pairwise (fun p q => ¬ (p.2.2.1 = q.2.2.1 ∧ p.2.2.2 = q.2.2.2))) (hit : Itp ps t np) (hnp : np ≤ 256) (hch : Ch b s zs t np) : ∀ (m i fu : Nat) (s1 : wt_S) (zs1 : List (vP × Nat)) (fr1 : List Nat) (p : Int32), m ≤ np → i + m ≤ 256 → m < fu → PC b lim s1 zs1 fr1 → zs1.map Prod.fst = ps.filter (vPm t m) → (∀ y, y ∈ zs1 ↔ y ∈ zs ∧ vPm t m y.1 = true) → PF b s s1 → s1 (b + 5) = s (b + 5) → s1 (b + 6) = s (b + 6) → (m = 0 → p = -1) → (∀ z ∈ zs, z.1.2.2.1 = t → z.1.2.2.2 + 1 = m → p = nI z.2) →
    ∃ s2 zs2 fr2, gX9_releasePieces_7 b (b + 17 + 2 * t) fu s1 p (nI i) = gX9_releasePieces_42 b (b + 17 + 2 * t) s2 ∧ PC b lim s2 zs2 fr2 ∧ zs2.map Prod.fst = ps.filter (vPm t 0) ∧ (∀ y, y ∈ zs2 ↔ y ∈ zs ∧ vPm t 0 y.1 = true) ∧ PF b s s2 ∧ s2 (b + 5) = s (b + 5) ∧ s2 (b + 6) = s (b + 6) := by
  have hb := hx.b
  intro m
  induction m with
  | zero =>
    intro i fu s1 zs1 fr1 p _ him hf h1 h2 h3 h4 h5 h6 h7 _
    obtain ⟨fu, rfl⟩ : ∃ k, fu = k + 1 := ⟨fu - 1, by omega⟩
    refine ⟨s1, zs1, fr1, ?_, h1, h2, h3, h4, h5, h6⟩
    rw [gX9_releasePieces_7, h7 rfl]
    by_cases c : (256 : Int32).toInt ≤ (nI i).toInt
    · rw [if_pos c]
    · rw [if_neg c, if_pos rfl]
  | succ m ih =>
    intro i fu s1 zs1 fr1 p hmn him hf h1 h2 h3 h4 h5 h6 _ h8
    obtain ⟨fu, rfl⟩ : ∃ k, fu = k + 1 := ⟨fu - 1, by omega⟩
    have hu1 : (zs1.map Prod.fst).Pairwise (fun p q => ¬ (p.2.2.1 = q.2.2.1 ∧ p.2.2.2 = q.2.2.2)) := by rw [h2]; exact hu.sublist List.filter_sublist
    have ho1 : vo lim (zs1.map Prod.fst) := by rw [h2]; exact vo_sub ho List.filter_sublist
    obtain ⟨q, q1, q2, q3⟩ := hit.1 m (by omega)
    obtain ⟨z0, z0m, z0q⟩ : ∃ z ∈ zs, z.1 = q := by rw [← hm] at q1; obtain ⟨z, hz, e⟩ := List.mem_map.mp q1; exact ⟨z, hz, e⟩
    have z0t : z0.1.2.2.1 = t := by rw [z0q]; exact q2
    have z0n : z0.1.2.2.2 = m := by rw [z0q]; exact q3
    have z0m1 : z0 ∈ zs1 := (h3 z0).mpr ⟨z0m, by unfold vPm; rw [decide_eq_true_eq]; omega⟩
    obtain ⟨x, z, x1, x2, x3, x4, -, -, x5, x6⟩ := zfind (t := t) (n := m) (rfl : zs1.map Prod.fst = _) hu1 ⟨z0.1, List.mem_map.mpr ⟨z0, z0m1, rfl⟩, z0t, z0n⟩
    have hzz : z = z0 := zuniq (rfl : zs1.map Prod.fst = _) hu1 x2 z0m1 (x3.trans z0t.symm) (x4.trans z0n.symm)
    subst hzz
    have hid := (h1.mem x2).1
    have hp := h8 z z0m x3 (by omega)
    obtain ⟨s2, g1, g2, g3, g4, g5, g6⟩ := c_give h1 ho1 hx.2.2 x1
    have hc := hch.2.2 z z0m x3
    have hfil : (zs1.eraseIdx x).map Prod.fst = ps.filter (vPm t m) := by
      rw [x5, h2, List.filter_filter]
      refine List.filter_congr (fun q _ => ?_)
      unfold vPm vkey
      rw [Bool.eq_iff_iff, Bool.and_eq_true, Bool.not_eq_true', decide_eq_false_iff_not, decide_eq_true_eq, decide_eq_true_eq]
      omega
    have hmem : ∀ y, y ∈ zs1.eraseIdx x ↔ y ∈ zs ∧ vPm t m y.1 = true := fun y => by
      rw [x6, h3]
      unfold vPm
      rw [decide_eq_true_eq, decide_eq_true_eq]
      constructor
      · rintro ⟨⟨a1, a2⟩, a3⟩; exact ⟨a1, by omega⟩
      · rintro ⟨a1, a2⟩; exact ⟨⟨a1, by omega⟩, by omega⟩
    have e6 : s2 (b + 6) = s (b + 6) := by rw [g4, h6]
    rw [gX9_releasePieces_7, hp, if_neg (c_hi (by omega)), if_neg (nI_m1 (by omega)), g1, cl_some, c_belowOf hid, cl_some, e6, show nI i + 1 = nI (i + 1) from nI_add i 1]
    refine ih (i + 1) fu s2 (zs1.eraseIdx x) (z.2 :: fr1) (s (b + 6) z.2) (by omega) (by omega) (by omega) g2 hfil hmem (h4.trans g6) (by rw [g3, h5]) e6 (fun e => hc.1 (by omega)) (fun y hy hyt hyn => hc.2 y hy hyt (by omega))
theorem c_rel {ps : List vP} (hx : CX b lim) (ht : t < 6) (hP : PC b lim s zs fr) (hm : zs.map Prod.fst = ps) (ho : vo lim ps) (hu : ps.Pairwise (fun p q => ¬ (p.2.2.1 = q.2.2.1 ∧ p.2.2.2 = q.2.2.2))) (hit : Itp ps t np) (hnp : np ≤ 256) (hch : Ch b s zs t np) : ∃ s' zs' fr', gX9_releasePieces b (b + 17 + 2 * t) s = some ((), s') ∧ PC b lim s' zs' fr' ∧ zs'.map Prod.fst = ps.filter (fun q => decide (q.2.2.1 ≠ t)) ∧ (∀ y, y ∈ zs' ↔ y ∈ zs ∧ y.1.2.2.1 ≠ t) ∧ s' (b + 5) = s (b + 5) ∧ s' (b + 6) = s (b + 6) ∧ (∀ c, ¬ (b + 2 ≤ c ∧ c ≤ b + 9) → c ≠ b + 17 + 2 * t → s' c = s c) ∧ s' (b + 17 + 2 * t) = mj_upd (s (b + 17 + 2 * t)) 13 (-1) := by
  have hb := hx.b
  have hall : ∀ y ∈ zs, vPm t np y.1 = true := fun y hy => by
    unfold vPm
    rw [decide_eq_true_eq]
    intro c
    have := hit.2 y.1 (by rw [← hm]; exact List.mem_map.mpr ⟨y, hy, rfl⟩) c.1
    omega
  have hfil : zs.map Prod.fst = ps.filter (vPm t np) := by
    rw [← hm, List.filter_eq_self.mpr (fun q hq => ?_)]
    obtain ⟨y, hy, rfl⟩ := List.mem_map.mp hq
    exact hall y hy
  obtain ⟨s2, zs2, fr2, a1, a2, a3, a4, a5, a6, a7⟩ := c_rel_loop hx hm ho hu hit hnp hch np 0 wt_N s zs fr (s (b + 17 + 2 * t) 12) (Nat.le_refl _) (by omega) (by unfold wt_N; omega) hP hfil (fun y => ⟨fun q => ⟨q, hall y q⟩, fun q => q.1⟩) PF.refl rfl rfl hch.1.1 hch.1.2
  unfold gX9_releasePieces
  rw [show (0 : Int32) = nI 0 from rfl, a1]
  unfold gX9_releasePieces_42
  have hT2 : s2 (b + 17 + 2 * t) = s (b + 17 + 2 * t) := a5 _ (by omega)
  rw [hT2]
  have ho2 : vo lim (zs2.map Prod.fst) := by rw [a3]; exact vo_sub ho List.filter_sublist
  by_cases c : ∃ z ∈ zs, z.1.2.2.1 = t ∧ z.1.2.2.2 = 1000
  · obtain ⟨z0, z0m, z0t, z0n⟩ := c
    have hu2 : (zs2.map Prod.fst).Pairwise (fun p q => ¬ (p.2.2.1 = q.2.2.1 ∧ p.2.2.2 = q.2.2.2)) := by rw [a3]; exact hu.sublist List.filter_sublist
    have z02 : z0 ∈ zs2 := (a4 z0).mpr ⟨z0m, by unfold vPm; rw [decide_eq_true_eq]; omega⟩
    obtain ⟨x, z, x1, x2, x3, x4, -, -, x5, x6⟩ := zfind (t := t) (n := 1000) (rfl : zs2.map Prod.fst = _) hu2 ⟨z0.1, List.mem_map.mpr ⟨z0, z02, rfl⟩, z0t, z0n⟩
    have hzz : z = z0 := zuniq (rfl : zs2.map Prod.fst = _) hu2 x2 z02 (x3.trans z0t.symm) (x4.trans z0n.symm)
    subst hzz
    obtain ⟨s3, g1, g2, g3, g4, g5, g6⟩ := c_give a2 ho2 hx.2.2 x1
    rw [hch.2.1.1 z z0m x3 x4, g1, cl_some, wr_eq]
    refine ⟨_, zs2.eraseIdx x, z.2 :: fr2, rfl, g2.eq (fun c hc => wt_u_ne (by omega)), ?_, fun y => ?_, by rw [wt_u_ne (by omega), g3, a6], by rw [wt_u_ne (by omega), g4, a7], fun c h1 h2 => by rw [wt_u_ne h2, g6 c h1, a5 c h1], by rw [wt_u_at, g6 _ (by omega), hT2]⟩
    · rw [x5, a3, List.filter_filter]
      refine List.filter_congr (fun q hq => ?_)
      unfold vPm vkey
      rw [Bool.eq_iff_iff, Bool.and_eq_true, Bool.not_eq_true', decide_eq_false_iff_not, decide_eq_true_eq, decide_eq_true_eq]
      omega
    · rw [x6, a4]
      unfold vPm
      rw [decide_eq_true_eq]
      constructor
      · rintro ⟨⟨b1, b2⟩, b3⟩; exact ⟨b1, by omega⟩
      · rintro ⟨b1, b2⟩; exact ⟨⟨b1, by omega⟩, by omega⟩
  · have hno : ∀ z ∈ zs, ¬ (z.1.2.2.1 = t ∧ z.1.2.2.2 = 1000) := fun z hz hq => c ⟨z, hz, hq⟩
    rw [hch.2.1.2 hno, c_give_m a2 ho2 hx.2.2, cl_some, wr_eq]
    refine ⟨_, zs2, fr2, rfl, a2.eq (fun c hc => wt_u_ne (by omega)), ?_, fun y => ?_, by rw [wt_u_ne (by omega), a6], by rw [wt_u_ne (by omega), a7], fun c h1 h2 => by rw [wt_u_ne h2, a5 c h1], by rw [wt_u_at, hT2]⟩
    · rw [a3]
      refine List.filter_congr (fun q hq => ?_)
      rw [← hm] at hq
      obtain ⟨y, hy, rfl⟩ := List.mem_map.mp hq
      have := hno y hy
      unfold vPm
      rw [Bool.eq_iff_iff, decide_eq_true_eq, decide_eq_true_eq]
      omega
    · rw [a4]
      unfold vPm
      rw [decide_eq_true_eq]
      constructor
      · rintro ⟨b1, b2⟩
        have := hno y b1
        exact ⟨b1, by omega⟩
      · rintro ⟨b1, b2⟩; exact ⟨b1, by omega⟩
end
