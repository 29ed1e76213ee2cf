/-! ===== the class: a new last piece ===== -/
section
variable {b lim : Nat} {s s' : wt_S} {V V' : vV} {zs zs' : List (vP × Nat)} {fr fr' : List Nat} {t np z need : Nat}
theorem c_new (h : RC b lim s V zs fr) (hx : CX b lim) (hj : VJ lim V) (ht : t < 6) {n words g : Nat} (hn : V.1 (4066 + t) = nI n) (hn2 : n ≤ 256) (hnum : ∀ q ∈ V.2.1, q.2.2.1 = t → q.2.2.2 < n ∨ q.2.2.2 = 1000) (hno : vnof V t n) (hw : 1 ≤ words ∧ words < 100000) (hlen : zs.length < 256) (hg : vgap lim 0 V.2.1 words = some g) :
    ∃ id s' zs' fr', gX5_take b s (nI words) (nI t) (s (b + 17 + 2 * t) 12) = some (nI id, s') ∧ id < 256 ∧ RC b lim (wt_u s' (b + 17 + 2 * t) 12 (nI id)) (vs (vps V (vins (g, words, t, n) V.2.1)) (4066 + t) (nI (n + 1))) zs' fr' ∧ PF b s s' := by
  have hb := hx.b
  obtain ⟨k1, k2, k3, k4, k5, k6⟩ := h.2.2.2.1 t ht
  obtain ⟨id, fr', y, s1, -, i1, i2, i3, i4, i5, i6, i7, i8, i9⟩ := (c_take (un := s (b + 17 + 2 * t) 12) (t := t) h.2.1 (by rw [h.1]; exact hj.2.1) hw hx.2.2).2 g hlen (by rw [h.1]; exact hg)
  obtain ⟨j1, j2⟩ := i9 n
  rw [h.1] at j2
  refine ⟨id, s1, zs.insertIdx y ((g, words, t, n), id), fr', i3, i1, ?_, i8⟩
  have hT : ∀ j, j ≠ 12 → j ≠ 13 → wt_u s1 (b + 17 + 2 * t) 12 (nI id) (b + 17 + 2 * t) j = s (b + 17 + 2 * t) j := fun j h1 h2 => by
    rw [wt_u_nk h1, i8 _ (by omega)]
  have h13 : wt_u s1 (b + 17 + 2 * t) 12 (nI id) (b + 17 + 2 * t) 13 = s (b + 17 + 2 * t) 13 := by
    rw [wt_u_nk (by omega), i8 _ (by omega)]
  have h12 : wt_u s1 (b + 17 + 2 * t) 12 (nI id) (b + 17 + 2 * t) 12 = nI id := wt_u_self
  have hC : ∀ c, c ≠ b + 17 + 2 * t → wt_u s1 (b + 17 + 2 * t) 12 (nI id) c = s1 c := fun c h1 => wt_u_ne h1
  have hto : TO b t s (wt_u s1 (b + 17 + 2 * t) 12 (nI id)) := (TO.pf i8).trans (TO.u (by omega) ht)
  generalize wt_u s1 (b + 17 + 2 * t) 12 (nI id) = s2 at *
  have hw' : ∀ i, i ≠ 4066 + t → (vs (vps V (vins (g, words, t, n) V.2.1)) (4066 + t) (nI (n + 1))).1 i = V.1 i := fun i hi => vs_ne hi
  have hot : OT t V (vs (vps V (vins (g, words, t, n) V.2.1)) (4066 + t) (nI (n + 1))) := (OT.ins rfl).trans (OT.vs ht (vown_t (by omega)))
  have hmem : ∀ z, z ∈ zs.insertIdx y ((g, words, t, n), id) ↔ z = ((g, words, t, n), id) ∨ z ∈ zs := fun z => List.mem_insertIdx i4
  refine h.op hx hj.1 hot ht hto hj.vfr (fun z hz => ?_) (fun z hz hzt => ?_) j2 (j1.eq (fun c hc => hC c (by omega))) ?_ ⟨?_, ?_, ⟨?_, ?_⟩, ⟨?_, ?_⟩, ?_, ?_⟩ ?_
  · rw [hmem]
    constructor
    · rintro (rfl | hz1)
      · exact absurd rfl hz
      · exact hz1
    · exact Or.inr
  · rw [hC _ (by omega), hC _ (by omega), i5, i6, mj_upd_ne (i2 z hz), mj_upd_ne (i2 z hz)]
    exact ⟨rfl, rfl⟩
  · exact h.2.2.1.keep (by rw [hC _ (by omega), i8 _ (by omega)]) (by rw [hC _ (by omega), i8 _ (by omega)]) (fun i i1 i2 => hw' i (by omega))
  · exact k1.keep hT (by rw [hC _ (by omega), i8 _ (by omega)]) ht (fun i i1 i2 => hw' i (by omega))
  · refine k2.keep hT rfl (hw' _ (by omega)) (fun h0 => vpl_find (ps' := vins (g, words, t, n) V.2.1) (vfind_ins_ne ?_) rfl)
    simp only [vkey, decide_eq_false_iff_not]
    intro e
    exact hno (V.2.2.1 t - 1) (by omega) e.2.symm
  · intro e
    rw [vs_at] at e
    have := congrArg Int32.toInt e
    rw [nI_int (by omega)] at this
    rw [ci0] at this
    omega
  · intro z hz hzt hzn
    rw [vs_at] at hzn
    rcases (hmem z).mp hz with rfl | hz1
    · exact h12
    · have := hnum _ (h.mem hz1) hzt
      have e2 := (nI_inj (by omega) (by omega)).mp hzn
      omega
  · intro z hz hzt hzn
    rw [h13]
    rcases (hmem z).mp hz with rfl | hz1
    · have hzn : n = 1000 := hzn
      omega
    · exact k4.1 z hz1 hzt hzn
  · intro hq
    rw [h13]
    exact k4.2 (fun q hq1 => hq q (vins_mem.mpr (Or.inr hq1)))
  · exact k5.keep hT ht (fun i i1 i2 => hw' i (by omega))
  · intro z hz hzt
    have hvu : ∀ m, vud (vs (vps V (vins (g, words, t, n) V.2.1)) (4066 + t) (nI (n + 1))).1 (V.2.2.2 t) m (V.2.2.1 t) = vud V.1 (V.2.2.2 t) m (V.2.2.1 t) := fun m => vud_pe hot.1 (hj.vfr t ht)
    show s2 (b + 5) z.2 = nI (vud (vs (vps V (vins (g, words, t, n) V.2.1)) (4066 + t) (nI (n + 1))).1 (V.2.2.2 t) z.1.2.2.2 (V.2.2.1 t)) ∧ _
    rw [hvu, hC _ (by omega), hC _ (by omega), i5, i6]
    rcases (hmem z).mp hz with rfl | hz1
    · show mj_upd (s (b + 5)) id 0 id = nI (vud V.1 (V.2.2.2 t) n (V.2.2.1 t)) ∧ (n = 0 → mj_upd (s (b + 6)) id (s (b + 17 + 2 * t) 12) id = -1) ∧ ∀ y' : vP × Nat, y' ∈ zs.insertIdx y ((g, words, t, n), id) → y'.1.2.2.1 = t → n = y'.1.2.2.2 + 1 → mj_upd (s (b + 6)) id (s (b + 17 + 2 * t) 12) id = nI y'.2
      rw [mj_upd_self, mj_upd_self, vud_zero hno]
      refine ⟨rfl, fun e => ?_, fun y' hy' hyt hyn => ?_⟩
      · subst e
        exact k3.1 hn
      · rcases (hmem y').mp hy' with rfl | hy1
        · have hyn : n = n + 1 := hyn
          omega
        · exact k3.2 y' hy1 hyt (by rw [hn, ← hyn])
    · have hne := i2 z hz1
      rw [mj_upd_ne hne, mj_upd_ne hne]
      obtain ⟨u1, u2, u3⟩ := k6 z hz1 hzt
      refine ⟨u1, u2, fun y' hy' hyt hyn => ?_⟩
      rcases (hmem y').mp hy' with rfl | hy1
      · have hyn : z.1.2.2.2 = n + 1 := hyn
        have := hnum _ (h.mem hz1) hzt
        omega
      · exact u3 y' hy1 hyt hyn
  · rw [hC _ (by omega), i8 _ (by omega)]
    exact VM_vs (Or.inr (by omega)) (VM.ins hj h.2.2.2.2.1 hno)
/-- there is an id left -/
theorem Vlen {lim z : Nat} {ps : List vP} (ho : vo lim ps) (hz : ∀ q ∈ ps, z ≤ q.2.1) (h8 : 8 ≤ z) (hl : lim ≤ 256 * z) {g words : Nat} (hw : z ≤ words) (hg : vgap lim 0 ps words = some g) : ps.length < 256 := by
  obtain ⟨g1, g2⟩ := vgap0 ho hg
  have ho' : vo lim (vins (g, words, 0, 0) ps) := vo_ins ho ⟨by show 1 ≤ words; omega, g1, by show (0 : Nat) < 6; omega, by show (0 : Nat) < 4294967296; omega⟩ (fun p hp => g2 p hp)
  have := vlen (z := z) ho' (fun q hq => by
    rcases vins_mem.mp hq with rfl | hq
    · exact hw
    · exact hz q hq)
  rw [vins_len] at this
  have h2 : (ps.length + 1) * z ≤ 256 * z := Nat.le_trans this hl
  have := Nat.le_of_mul_le_mul_right h2 (by omega)
  omega
theorem c_max {x y : Nat} (hx : x < 2147483648) (hy : y < 2147483648) : gJ9_max_7cf53 s (nI x) (nI y) = some (nI (max y x), s) := by
  unfold gJ9_max_7cf53
  rw [nI_int hx, nI_int hy]
  by_cases c : x < y
  · rw [if_pos (by omega), Nat.max_eq_left (by omega)]
  · rw [if_neg (by omega), Nat.max_eq_right (by omega)]
theorem inc3 {W : vV} {e a c : Nat} {E : Int32} (h1 : a ≠ e) (h2 : 2054 + c ≠ e) (h3 : 2067 ≠ e) : vlg1 (vcn (vs (vs W e E) a ((vs W e E).1 a + 1)) c 1) = vs (vlg1 (vcn (vinc W a) c 1)) e E := by
  rw [vad_c h1]
  show vlg1 (vs (vs (vs W a (W.1 a + 1)) e E) (2054 + c) ((vs (vs W a (W.1 a + 1)) e E).1 (2054 + c) + 1)) = _
  rw [vad_c h2]
  show vs (vs (vs (vs W a (W.1 a + 1)) (2054 + c) _) e E) 2067 ((vs (vs (vs W a (W.1 a + 1)) (2054 + c) _) e E).1 2067 + 1) = _
  rw [vad_c h3]
  rfl
theorem inc3_e {W : vV} {e a c : Nat} (h1 : a ≠ e) (h2 : 2054 + c ≠ e) (h3 : 2067 ≠ e) : (vlg1 (vcn (vinc W a) c 1)).1 e = W.1 e := by
  rw [vlg1_ne (Ne.symm h3), vcn_ne (Ne.symm h2), vinc_ne (Ne.symm h1)]
/-- split -/
theorem c_split (h : RC b lim s V zs fr) (hx : CX b lim) (hP : Vpre lim V t np z) (hn : 1 ≤ need ∧ need ≤ 100) : ∃ s' zs' fr', gX4_linkPiece_66 b (b + 17 + 2 * t) s (nI need) = some (rb ((vspl lim (vsp V t) t need).1 = true), s') ∧ RC b lim s' (vspl lim (vsp V t) t need).2 zs' fr' ∧ TO b t s s' := by
  have hb := hx.b
  obtain ⟨hj, hc, ht, hz, h8, hzl, hl, hl2, hq⟩ := hP
  obtain ⟨n1, n2, n3⟩ := hc.mn
  obtain ⟨s1, zs1, fr1, a1, a2, a3, a4⟩ := c_spare h hx hj ht (hc.nof (by omega))
  obtain ⟨hj1, hc1⟩ := vsp_J hj hc ht
  have hz1 : (vsp V t).1 2048 = nI z := by rw [vsp_w (by omega)]; exact hz
  have hq1 : ∀ q ∈ (vsp V t).2.1, z ≤ q.2.1 := fun q hq' => by
    rw [vsp_ps] at hq'
    exact hq q (List.mem_filter.mp hq').1
  obtain ⟨m1, m2, m3⟩ := hc1.mn
  unfold gX4_linkPiece_66
  have e0 : s1 (b + 1) 0 = nI z := by rw [a2.2.2.1.1 0 (by omega)]; exact hz1
  have et : s1 (b + 17 + 2 * t) 0 = nI t := (a2.2.2.2.1 t ht).1.1
  rw [a1, cl_some, e0, c_max (by omega) (by omega), cl_some, et]
  have hzn : ((vsp V t).1 2048).toInt.toNat = z := by rw [hz1, nI_int (by omega)]; omega
  cases e : vgap lim 0 (vsp V t).2.1 (max need z) with
  | none =>
    rw [vspl_none hzn e, (c_take a2.2.1 (by rw [a2.1]; exact hj1.2.1) ⟨by omega, by omega⟩ hx.2.2).1 (by rw [a2.1]; exact e), cl_some, if_neg (by decide)]
    exact ⟨s1, zs1, fr1, by rw [rb_neg (by simp)], a2, a3.to ht⟩
  | some g =>
    have hlen : zs1.length < 256 := by
      have := Vlen hj1.2.1 hq1 h8 hl2 (Nat.le_max_right need z) e
      rw [← a2.1, List.length_map] at this
      exact this
    obtain ⟨id, s2, zs2, fr2, b1, b2, b3, b4⟩ := c_new a2 hx hj1 ht m1 (by omega) (fun q hq' hqt => hc1.num hq' hqt) (hc1.nof (Nat.le_refl _)) (words := max need z) ⟨by omega, by omega⟩ hlen e
    rw [vspl_some hzn (vnp_of m1 (by omega)) e, b1, cl_some, if_pos (nI_m1 (by omega)), wr_eq]
    have hp2 : Ipr (vs (vps (vsp V t) (vins (g, max need z, t, np) (vsp V t).2.1)) (4066 + t) (nI (np + 1))).1 := Ipr.vs1 (V := vps (vsp V t) (vins (g, max need z, t, np) (vsp V t).2.1)) hj1.1 (by omega)
    have hf2 : VFR (vs (vps (vsp V t) (vins (g, max need z, t, np) (vsp V t).2.1)) (4066 + t) (nI (np + 1))) := hj1.vfr
    obtain ⟨s3, c1, c2, c3, -⟩ := c_adds b3 hx hp2 hf2 ht (e := (6, 4024)) (by decide) (v := 1)
    have c1 : gX9_add b (b + 17 + 2 * t) (wt_u s2 (b + 17 + 2 * t) 12 (nI id)) 6 1 = some ((), s3) := c1
    have hp3 : Ipr (vcn (vs (vs (vps (vsp V t) (vins (g, max need z, t, np) (vsp V t).2.1)) (4066 + t) (nI (np + 1))) (4024 + t) ((vs (vps (vsp V t) (vins (g, max need z, t, np) (vsp V t).2.1)) (4066 + t) (nI (np + 1))).1 (4024 + t) + 1)) 6 1).1 := Ipr.vs1 (Ipr.vs1 hp2 (by omega)) (by omega)
    obtain ⟨s4, d1, d2, d3⟩ := c_logs c2 hx hp3 hf2 (i1 := 2) b2
    rw [c1, cl_some, d1, cl_some]
    have e1 := inc3 (W := vps (vsp V t) (vins (g, max need z, t, np) (vsp V t).2.1)) (e := 4066 + t) (a := 4024 + t) (c := 6) (E := nI (np + 1)) (by omega) (by omega) (by omega)
    have e2 := inc3_e (W := vps (vsp V t) (vins (g, max need z, t, np) (vsp V t).2.1)) (e := 4066 + t) (a := 4024 + t) (c := 6) (by omega) (by omega) (by omega)
    have d2 : RC b lim s4 (vlg1 (vcn (vs (vs (vps (vsp V t) (vins (g, max need z, t, np) (vsp V t).2.1)) (4066 + t) (nI (np + 1))) (4024 + t) ((vs (vps (vsp V t) (vins (g, max need z, t, np) (vsp V t).2.1)) (4066 + t) (nI (np + 1))).1 (4024 + t) + 1)) 6 1)) zs2 fr2 := d2
    rw [e1] at d2
    refine ⟨s4, zs2, fr2, by rw [rb_pos rfl], ?_, ((((a3.to ht).trans (TO.pf b4)).trans (TO.u (by omega) ht)).trans c3).trans (TO.lf d3)⟩
    show RC b lim s4 (vs (vlg1 (vcn (vinc (vps (vsp V t) (vins (g, max need z, t, np) (vsp V t).2.1)) (4024 + t)) 6 1)) (4066 + t) ((vlg1 (vcn (vinc (vps (vsp V t) (vins (g, max need z, t, np) (vsp V t).2.1)) (4024 + t)) 6 1)).1 (4066 + t) + 1)) zs2 fr2
    rw [e2, show (vps (vsp V t) (vins (g, max need z, t, np) (vsp V t).2.1)).1 (4066 + t) = nI np from m1, show nI np + 1 = nI (np + 1) from nI_add np 1]
    exact d2
/-- LINKED: room is made -/
theorem c_link (h : RC b lim s V zs fr) (hx : CX b lim) (hP : Vpre lim V t np z) (hm : V.1 (3933 + t) = 1) (hn : 1 ≤ need ∧ need ≤ 100) : ∃ s' zs' fr', gX4_linkPiece b (b + 17 + 2 * t) s (nI need) = some (rb ((vgr lim V t need).1 = true), s') ∧ RC b lim s' (vgr lim V t need).2 zs' fr' ∧ TO b t s s' := by
  have hb := hx.b
  have hj := hP.1
  have hc := hP.2.1
  have ht := hP.2.2.1
  obtain ⟨n1, n2, n3⟩ := hc.mn
  obtain ⟨r1, r2⟩ := (h.2.2.2.1 t ht).2.2.2.1
  unfold gX4_linkPiece
  cases e : V.2.1.find? (vkey t 1000) with
  | none =>
    have hno : ∀ q ∈ V.2.1, ¬ (q.2.2.1 = t ∧ q.2.2.2 = 1000) := fun q hq hk => by
      have := List.find?_eq_none.mp e q hq
      simp [vkey, hk] at this
    rw [r2 hno, if_pos rfl, vgr_l0 hm e]
    have hs : vsp V t = V := by unfold vsp; rw [e]; rfl
    have := c_split h hx hP hn
    rw [hs] at this
    exact this
  | some q =>
    have hq1 := List.mem_of_find?_eq_some e
    have hq2 := List.find?_some e
    have hq2 : q.2.2.1 = t ∧ q.2.2.2 = 1000 := by simpa [vkey] using hq2
    obtain ⟨x, y, z1, z2, z3, z4, z5, z6, -, -⟩ := zfind h.1 hj.2.2.1 ⟨q, hq1, hq2⟩
    have hyq : y.1 = q := vuniq hj.2.2.1 y.1 (h.mem z2) q hq1 (z3.trans hq2.1.symm) (z4.trans hq2.2.symm)
    obtain ⟨y1, y2, y3, y4⟩ := h.2.1.mem z2
    have hyl := (hj.2.1.2 y.1 (h.mem z2)).2.1
    have hxm := hx.2.2
    rw [r1 y z2 z3 z4, if_neg (nI_m1 (by omega)), c_wordsOf y1, cl_some, y3, nI_int (by omega), nI_int (by omega)]
    by_cases c : need ≤ q.2.1
    · rw [if_neg (by rw [hyq]; omega), wr_eq, c_putOver y1, cl_some, wr_eq, vgr_l1 hm e (vnp_of n1 (by omega)) c]
      rw [wt_u_nk (show (12 : Nat) ≠ 13 by omega)]
      obtain ⟨zs1, a1⟩ := c_again h hx hP hm z1 ⟨z3, z4⟩
      have hp2 : Ipr (vs (vps V (vren t 1000 np V.2.1)) (4066 + t) (nI (np + 1))).1 := Ipr.vs1 (V := vps V (vren t 1000 np V.2.1)) hj.1 (by omega)
      have hf2 : VFR (vs (vps V (vren t 1000 np V.2.1)) (4066 + t) (nI (np + 1))) := hj.vfr
      obtain ⟨s3, c1, c2, c3, -⟩ := c_adds a1 hx hp2 hf2 ht (e := (8, 4038)) (by decide) (v := 1)
      have c1 : gX9_add b (b + 17 + 2 * t) (wt_u (wt_u (wt_u s (b + 17 + 2 * t) 13 (-1)) (b + 6) y.2 (s (b + 17 + 2 * t) 12)) (b + 17 + 2 * t) 12 (nI y.2)) 8 1 = some ((), s3) := c1
      have hp3 : Ipr (vcn (vs (vs (vps V (vren t 1000 np V.2.1)) (4066 + t) (nI (np + 1))) (4038 + t) ((vs (vps V (vren t 1000 np V.2.1)) (4066 + t) (nI (np + 1))).1 (4038 + t) + 1)) 8 1).1 := Ipr.vs1 (Ipr.vs1 hp2 (by omega)) (by omega)
      obtain ⟨s4, d1, d2, d3⟩ := c_logs c2 hx hp3 hf2 (i1 := 4) y1
      rw [c1, cl_some, d1, cl_some]
      have e1 := inc3 (W := vps V (vren t 1000 np V.2.1)) (e := 4066 + t) (a := 4038 + t) (c := 8) (E := nI (np + 1)) (by omega) (by omega) (by omega)
      have e2 := inc3_e (W := vps V (vren t 1000 np V.2.1)) (e := 4066 + t) (a := 4038 + t) (c := 8) (by omega) (by omega) (by omega)
      have d2 : RC b lim s4 (vlg1 (vcn (vs (vs (vps V (vren t 1000 np V.2.1)) (4066 + t) (nI (np + 1))) (4038 + t) ((vs (vps V (vren t 1000 np V.2.1)) (4066 + t) (nI (np + 1))).1 (4038 + t) + 1)) 8 1)) zs1 fr := d2
      rw [e1] at d2
      refine ⟨s4, zs1, fr, by rw [rb_pos rfl], ?_, ((((TO.u (by omega) ht).trans (TO.u (by omega) ht)).trans (TO.u (by omega) ht)).trans c3).trans (TO.lf d3)⟩
      show RC b lim s4 (vs (vlg1 (vcn (vinc (vps V (vren t 1000 np V.2.1)) (4038 + t)) 8 1)) (4066 + t) ((vlg1 (vcn (vinc (vps V (vren t 1000 np V.2.1)) (4038 + t)) 8 1)).1 (4066 + t) + 1)) zs1 fr
      rw [e2, show (vps V (vren t 1000 np V.2.1)).1 (4066 + t) = nI np from n1, show nI np + 1 = nI (np + 1) from nI_add np 1]
      exact d2
    · rw [if_pos (by rw [hyq]; omega), vgr_l2 hm e c]
      exact c_split h hx hP hn
end
