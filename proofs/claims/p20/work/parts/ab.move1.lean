section
/-! ===== the class: a copied stack moves, its words and its piece ===== -/
section
variable {b lim : Nat} {s s' : wt_S} {V V' : vV} {zs zs' : List (vP × Nat)} {fr fr' : List Nat} {t np z need : Nat}
theorem zuniq {ps : List vP} (h : zs.map Prod.fst = ps) (hu : ps.Pairwise (fun p q => ¬ (p.2.2.1 = q.2.2.1 ∧ p.2.2.2 = q.2.2.2))) {y z : vP × Nat} (hy : y ∈ zs) (hz : z ∈ zs) (h1 : y.1.2.2.1 = z.1.2.2.1) (h2 : y.1.2.2.2 = z.1.2.2.2) : y = z := by
  obtain ⟨i, hi⟩ := List.getElem?_of_mem hy
  obtain ⟨x, hx⟩ := List.getElem?_of_mem hz
  rw [← h, List.pairwise_iff_getElem] at hu
  have l1 := (List.getElem?_eq_some_iff.mp hi).1
  have l2 := (List.getElem?_eq_some_iff.mp hx).1
  rcases Nat.lt_trichotomy i x with c | c | c
  · have := hu i x (by rw [List.length_map]; exact l1) (by rw [List.length_map]; exact l2) c
    rw [List.getElem_map, List.getElem_map, (List.getElem?_eq_some_iff.mp hi).2, (List.getElem?_eq_some_iff.mp hx).2] at this
    exact absurd ⟨h1, h2⟩ this
  · subst c
    exact Option.some.inj (hi.symm.trans hx)
  · have := hu x i (by rw [List.length_map]; exact l2) (by rw [List.length_map]; exact l1) c
    rw [List.getElem_map, List.getElem_map, (List.getElem?_eq_some_iff.mp hi).2, (List.getElem?_eq_some_iff.mp hx).2] at this
    exact absurd ⟨h1.symm, h2.symm⟩ this
/-- another number -/
def vre0 (t : Nat) (p : vP) : vP := if p.2.2.1 = t ∧ p.2.2.2 = 5000 then (p.1, p.2.1, p.2.2.1, 0) else p
theorem vre0_p {p : vP} : (vre0 t p).1 = p.1 ∧ (vre0 t p).2.1 = p.2.1 ∧ (vre0 t p).2.2.1 = p.2.2.1 := by
  unfold vre0; split <;> exact ⟨rfl, rfl, rfl⟩
theorem vre0_n {p : vP} (h : p.2.2.1 = t → p.2.2.2 ≠ 5000) : vre0 t p = p := if_neg (fun e => h e.1 e.2)
/-- the picture as the words lie elsewhere, before anything is counted -/
def vmw (V : vV) (t g words : Nat) : vV := vps (vs V (3982 + t) (if V.2.2.1 t = 0 then V.1 (3982 + t) else nI (g + (V.2.2.2 t (V.2.2.1 t - 1)).2.2.1))) (vins (g, words, t, 0) (V.2.1.filter (fun q => !vkey t 0 q)))
theorem c_move1 (h : RC b lim s V zs fr) (hx : CX b lim) (hj : VJ lim V) (hc : Ico V t 1) (ht : t < 6) (hm : V.1 (3933 + t) = 0) {words g : Nat} {lg : Int32} (hw : 1 ≤ words ∧ words < 100000) (hu : vus V.1 (V.2.2.2 t) (V.2.2.1 t) ≤ words) (hlen : zs.length < 256) (hg : vgap lim 0 V.2.1 words = some g) :
    ∃ id s1 zs' fr', id < 256 ∧ gX4_moveInto b (b + 17 + 2 * t) s (nI words) lg = (wt_cl (gX9_add b (b + 17 + 2 * t) s1 5 (s1 (b + 17 + 2 * t) 5)) fun _ s11 => (if lg ≠ (0 : Int32) then gX4_moveInto_114 b (b + 17 + 2 * t) s11 lg (nI id) 7 else gX4_moveInto_114 b (b + 17 + 2 * t) s11 lg (nI id) 4)) ∧ RC b lim s1 (vmw V t g words) zs' fr' ∧ TO b t s s1 := by
  have hb := hx.b
  have hxm := hx.m
  obtain ⟨k1, k2, k3, k4, k5, k6⟩ := h.2.2.2.1 t ht
  obtain ⟨n1, -, -⟩ := hc.mn
  obtain ⟨hnf, hul⟩ := hc.n hj hx.2.2
  have hnos : ∀ q ∈ V.2.1, ¬ (q.2.2.1 = t ∧ q.2.2.2 = 1000) := by
    rcases hc.2.2.2.2.1 with e | e
    · exact e.2.2
    · rw [hm] at e; exact absurd e (by decide)
  have hnum : ∀ q ∈ V.2.1, q.2.2.1 = t → q.2.2.2 = 0 := fun q hq hqt => by
    rcases hc.num hq hqt with e | e
    · omega
    · exact absurd ⟨hqt, e⟩ (hnos q hq)
  obtain ⟨x, z, x1, x2, x3, x4, x5, x6, -, -⟩ := zfind h.1 hj.2.2.1 (hc.2.2.2.1.1 0 (by omega))
  have hzm := h.mem x2
  have hzo := hj.2.1.2 z.1 hzm
  obtain ⟨hid, -, -, -⟩ := h.2.1.mem x2
  have hlast : s (b + 17 + 2 * t) 12 = nI z.2 := k3.2 z x2 x3 (by rw [n1, x4])
  have hgg := vgap0 hj.2.1 hg
  -- the frames lie in this piece
  have hpc : ∀ i, i < V.2.2.1 t → (V.2.2.2 t i).2.1 = 0 := fun i hi => by
    obtain ⟨gg, -⟩ := hc.2.2.2.2.2.2.1 (by omega)
    have := (gg.1 i hi).1; omega
  have hof : ∀ i, i < V.2.2.1 t → (V.2.2.2 t i).2.2.1 + vwd V.1 (V.2.2.2 t i).1 ≤ vus V.1 (V.2.2.2 t) (V.2.2.1 t) ∧ (V.2.2.2 t i).2.2.1 + vwd V.1 (V.2.2.2 t i).1 ≤ z.1.2.1 := fun i hi => by
    obtain ⟨gg, -⟩ := hc.2.2.2.2.2.2.1 (by omega)
    have h2 := (gg.1 i hi).2
    rw [hpc i hi, x6] at h2
    refine ⟨?_, h2⟩
    rw [gg.one i hi]
    have := vus_mono (w := V.1) (fr := V.2.2.2 t) (show i + 1 ≤ V.2.2.1 t by omega)
    rw [vus] at this
    exact this
  have hpl : ∀ i, i < V.2.2.1 t → vpl V t i = z.1.1 + (V.2.2.2 t i).2.2.1 := fun i hi => by unfold vpl; rw [hpc i hi, x5]
  have huz : vus V.1 (V.2.2.2 t) (V.2.2.1 t) ≤ z.1.2.1 := by
    by_cases c : V.2.2.1 t = 0
    · rw [c, vus]; omega
    · obtain ⟨gg, -⟩ := hc.2.2.2.2.2.2.1 (by omega)
      have h2 := (hof (V.2.2.1 t - 1) (by omega)).2
      rw [gg.one _ (by omega)] at h2
      have : vus V.1 (V.2.2.2 t) (V.2.2.1 t) = vus V.1 (V.2.2.2 t) (V.2.2.1 t - 1) + vwd V.1 (V.2.2.2 t (V.2.2.1 t - 1)).1 := by
        have e : V.2.2.1 t = (V.2.2.1 t - 1) + 1 := by omega
        rw [e, vus, Nat.add_sub_cancel]
      omega
  have hus : V.1 (3961 + t) = nI (vus V.1 (V.2.2.2 t) (V.2.2.1 t)) := hc.2.2.2.2.2.1
  have hvu : vud V.1 (V.2.2.2 t) 0 (V.2.2.1 t) = vus V.1 (V.2.2.2 t) (V.2.2.1 t) := vud_us hpc
  generalize hU : vus V.1 (V.2.2.2 t) (V.2.2.1 t) = u at *
  -- taken
  obtain ⟨id, fr1, y, s1, -, i1, i2, i3, i4, i5, i6, i7, i8, i9⟩ := (c_take (un := -1) (t := t) h.2.1 (by rw [h.1]; exact hj.2.1) hw hx.2.2).2 g hlen (by rw [h.1]; exact hg)
  obtain ⟨j1, j2⟩ := i9 5000
  rw [h.1] at j2
  have hzid : z.2 ≠ id := i2 z x2
  have hmem : ∀ y', y' ∈ zs.insertIdx y ((g, words, t, 5000), id) ↔ y' = ((g, words, t, 5000), id) ∨ y' ∈ zs := fun y' => List.mem_insertIdx i4
  generalize hz5 : zs.insertIdx y ((g, words, t, 5000), id) = zs5 at *
  have ho5 : vo lim (zs5.map Prod.fst) := by
    rw [j2]
    exact vo_ins hj.2.1 ⟨hw.1, hgg.1, ht, by show (5000 : Nat) < 4294967296; omega⟩ hgg.2
  have hu5 : (zs5.map Prod.fst).Pairwise (fun p q => ¬ (p.2.2.1 = q.2.2.1 ∧ p.2.2.2 = q.2.2.2)) := by
    rw [j2]
    refine vkeys_pw (fun p q hpq e => hpq ⟨e.1.symm, e.2.symm⟩) hj.2.2.1 (fun p hp e => ?_)
    have e1 : t = p.2.2.1 := e.1
    have e2 : (5000 : Nat) = p.2.2.2 := e.2
    have := hnum p hp e1.symm
    omega
  have hn5 : ((g, words, t, 5000), id) ∈ zs5 := (hmem _).mpr (Or.inl rfl)
  have hz5m : z ∈ zs5 := (hmem _).mpr (Or.inr x2)
  have p3 : s1 (b + 3) id = nI g := (j1.mem hn5).2.1
  have p3z : s1 (b + 3) z.2 = nI z.1.1 := (j1.mem hz5m).2.1
  -- aimed
  generalize hs2 : wt_u s1 (b + 9) z.2 (nI g - nI z.1.1) = s2
  have f2 : ∀ c, c ≠ b + 9 → s2 c = s1 c := fun c hc => by rw [← hs2]; exact wt_u_ne hc
  have f2z : s2 (b + 9) z.2 = nI g - nI z.1.1 := by rw [← hs2]; exact wt_u_self
  have hT2 : s2 (b + 17 + 2 * t) = s (b + 17 + 2 * t) := by rw [f2 _ (by omega), i8 _ (by omega)]
  have hM2 : s2 (b + 15) = s (b + 15) := by rw [f2 _ (by omega), i8 _ (by omega)]
  have e4 : s2 (b + 17 + 2 * t) 4 = nI (V.2.2.1 t) := by rw [hT2, k1.2.1 (4, 3954) (by decide)]; exact hc.1
  have e11 : s2 (b + 17 + 2 * t) 11 = if V.2.2.1 t = 0 then -1 else nI (vpl V t (V.2.2.1 t - 1)) := by
    rw [hT2]
    by_cases c : V.2.2.1 t = 0
    · rw [if_pos c]; exact (k2.1 c).2
    · rw [if_neg c]; exact (k2.2 (by omega)).2
  have e9 : 0 < V.2.2.1 t → s2 (b + 17 + 2 * t) 9 = nI (V.2.2.2 t (V.2.2.1 t - 1)).1 := fun h0 => by
    rw [hT2, k1.2.1 (9, 3975) (by decide)]
    exact (hc.2.2.2.2.2.2.1 h0).2.2.2.2
  have hGC : GC b s2 V.1 (V.2.2.1 t) (V.2.2.2 t) (vpl V t) (fun i => g + (V.2.2.2 t i).2.2.1) := by
    intro s' hs' i hi j hj2
    have hP' : PC b lim s' zs5 fr1 := j1.eq (fun c hc => by rw [hs' c (by omega) (by omega), f2 c (by omega)])
    have h1 := (hof i hi).2
    have h2 := hpl i hi
    rw [c_turned hP' ho5 hx.2.2 hz5m ⟨by omega, by omega⟩, hs' _ (by omega) (by omega), f2z, nI_turn (by omega), h2, show g + (z.1.1 + (V.2.2.2 t i).2.2.1 + j - z.1.1) = g + (V.2.2.2 t i).2.2.1 + j by omega]
  have hRP2 : RP 5 s2 V.1 := h.2.2.2.2.2.eq hj.1 vpe.refl (fun c c1 c2 => by rw [f2 _ (by omega), i8 _ (by omega)])
  obtain ⟨s3, t1, t2, t3, t4, t5⟩ := c_turns (s := s2) hx (T := b + 17 + 2 * t) (by omega) (by omega) e4 e11 e9 (fun h0 => TH.of hj ht h0) hGC hRP2 (by rw [hM2]; exact h.2.2.2.2.1.q ht)
  have g3 : ∀ c, b + 2 ≤ c → c ≤ b + 8 → s3 c = s1 c := fun c h1 h2 => by rw [t2 c (by omega) (by omega) (by omega), f2 c (by omega)]
  -- brought over
  have u3 : s3 (b + 5) z.2 = nI u := by
    rw [g3 _ (by omega) (by omega), i5, mj_upd_ne hzid, (k6 z x2 x3).1, x4, hvu]
  obtain ⟨s4, b1, b2, b3, b4⟩ := c_bring (s := s3) (b := b) (from' := z.1.1) (to := g) (u := u) hx (by omega) (by omega)
  have hbr : gX4_bringOver b s3 (nI z.2) = some ((), s4) := by
    unfold gX4_bringOver
    rw [c_placeOf hid, cl_some, c_shiftOf hid, cl_some, c_usedOf hid, cl_some, u3, g3 _ (by omega) (by omega), p3z, t2 (b + 9) (by omega) (by omega) (by omega), f2z, nI_turn (Nat.le_refl _), Nat.sub_self, Nat.add_zero, b1, cl_some]
  have hT4 : s4 (b + 17 + 2 * t) = mj_upd (s (b + 17 + 2 * t)) 11 (if V.2.2.1 t = 0 then -1 else nI (g + (V.2.2.2 t (V.2.2.1 t - 1)).2.2.1)) := by
    rw [b2 _ (by omega), t3, hT2]
  have e45 : s4 (b + 17 + 2 * t) 5 = nI u := by
    rw [hT4, mj_upd_ne (by omega), k1.2.1 (5, 3961) (by decide)]; exact hus
  have e5i : s4 (b + 5) id = 0 := by rw [b2 _ (by omega), g3 _ (by omega) (by omega), i5, mj_upd_self]
  -- used, given back
  generalize hs5 : wt_u s4 (b + 5) id (nI u) = s5
  have f5 : ∀ c, c ≠ b + 5 → s5 c = s4 c := fun c hc => by rw [← hs5]; exact wt_u_ne hc
  have hP5 : PC b lim s5 zs5 fr1 := j1.eq (fun c hc => by rw [f5 c (by omega), b2 c (by omega), g3 c (by omega) (by omega)])
  obtain ⟨x5', z5, y1, y2, y3, y4, -, -, y5, y6⟩ := zfind (t := t) (n := 0) (rfl : zs5.map Prod.fst = _) hu5 ⟨z.1, List.mem_map.mpr ⟨z, hz5m, rfl⟩, x3, x4⟩
  have hzz : z5 = z := zuniq (rfl : zs5.map Prod.fst = _) hu5 y2 hz5m (y3.trans x3.symm) (y4.trans x4.symm)
  subst hzz
  obtain ⟨s6, q1, q2, q3, q4, q5, q6⟩ := c_give hP5 ho5 hx.2.2 y1
  refine ⟨id, wt_u s6 (b + 17 + 2 * t) 12 (nI id), (zs5.eraseIdx x5').map (fun y => (vre0 t y.1, y.2)), z5.2 :: fr1, i1, ?_, ?_, ?_⟩
  · unfold gX4_moveInto
    rw [k1.1, i3, cl_some, if_pos (nI_m1 (by omega)), c_placeOf i1, cl_some, p3, hlast, c_aimAt hid, cl_some, p3z, hs2, t1, cl_some, hbr, cl_some, c_use i1, cl_some, e5i, e45, Int32.zero_add, hs5, q1, cl_some, wr_eq]
  · have hT7 : ∀ j, j ≠ 11 → j ≠ 12 → wt_u s6 (b + 17 + 2 * t) 12 (nI id) (b + 17 + 2 * t) j = s (b + 17 + 2 * t) j := fun j h1 h2 => by
      rw [wt_u_nk h2, q6 _ (by omega), f5 _ (by omega), hT4, mj_upd_ne h1]
    have h11 : wt_u s6 (b + 17 + 2 * t) 12 (nI id) (b + 17 + 2 * t) 11 = if V.2.2.1 t = 0 then -1 else nI (g + (V.2.2.2 t (V.2.2.1 t - 1)).2.2.1) := by
      rw [wt_u_nk (by omega), q6 _ (by omega), f5 _ (by omega), hT4, mj_upd_self]
    have h12 : wt_u s6 (b + 17 + 2 * t) 12 (nI id) (b + 17 + 2 * t) 12 = nI id := wt_u_self
    have hC : ∀ c, c ≠ b + 17 + 2 * t → wt_u s6 (b + 17 + 2 * t) 12 (nI id) c = s6 c := fun c h1 => wt_u_ne h1
    have hO : ∀ c, ¬ (b + 2 ≤ c ∧ c ≤ b + 9) → c ≠ b + 15 → c ≠ b + 16 → c ≠ b + 17 + 2 * t → wt_u s6 (b + 17 + 2 * t) 12 (nI id) c = s c := fun c h1 h2 h3 h4 => by
      rw [hC c h4, q6 c h1, f5 c (by omega), b2 c h2, t2 c h2 h3 h4, f2 c (by omega), i8 c h1]
    have h5 : ∀ i, i ≠ id → wt_u s6 (b + 17 + 2 * t) 12 (nI id) (b + 5) i = s (b + 5) i := fun i hi => by
      rw [hC _ (by omega), q3, ← hs5, wt_u_nk hi, b2 _ (by omega), g3 _ (by omega) (by omega), i5, mj_upd_ne hi]
    have h5i : wt_u s6 (b + 17 + 2 * t) 12 (nI id) (b + 5) id = nI u := by
      rw [hC _ (by omega), q3, ← hs5, wt_u_self]
    have h6 : ∀ i, i ≠ id → wt_u s6 (b + 17 + 2 * t) 12 (nI id) (b + 6) i = s (b + 6) i := fun i hi => by
      rw [hC _ (by omega), q4, f5 _ (by omega), b2 _ (by omega), g3 _ (by omega) (by omega), i6, mj_upd_ne hi]
    have h6i : wt_u s6 (b + 17 + 2 * t) 12 (nI id) (b + 6) id = -1 := by
      rw [hC _ (by omega), q4, f5 _ (by omega), b2 _ (by omega), g3 _ (by omega) (by omega), i6, mj_upd_self]
    have hMm : wt_u s6 (b + 17 + 2 * t) 12 (nI id) (b + 15) = s4 (b + 15) := by
      rw [hC _ (by omega), q6 _ (by omega), f5 _ (by omega)]
    have hPC7 : PC b lim (wt_u s6 (b + 17 + 2 * t) 12 (nI id)) ((zs5.eraseIdx x5').map (fun y => (vre0 t y.1, y.2))) (z5.2 :: fr1) := (q2.eq (fun c hc => hC c (by omega))).map (fun y _ => ⟨rfl, vre0_p⟩)
    have hto : TO b t s (wt_u s6 (b + 17 + 2 * t) 12 (nI id)) := ⟨fun k hk hne => ⟨hO _ (by omega) (by omega) (by omega) (by omega), hO _ (by omega) (by omega) (by omega) (by omega)⟩, fun c hc => hO c (by omega) (by omega) (by omega) (by omega)⟩
    generalize wt_u s6 (b + 17 + 2 * t) 12 (nI id) = s7 at *
    have hcase : ∀ y', y' ∈ (zs5.eraseIdx x5').map (fun y => (vre0 t y.1, y.2)) ↔ y' = ((g, words, t, 0), id) ∨ (y' ∈ zs ∧ ¬ (y'.1.2.2.1 = t ∧ y'.1.2.2.2 = 0)) := fun y' => by
      rw [List.mem_map]
      constructor
      · rintro ⟨y0, hy0, rfl⟩
        obtain ⟨m1, m2⟩ := (y6 y0).mp hy0
        rcases (hmem y0).mp m1 with rfl | m3
        · left
          show (vre0 t (g, words, t, 5000), id) = _
          unfold vre0
          rw [if_pos ⟨rfl, rfl⟩]
        · right
          have hn : vre0 t y0.1 = y0.1 := vre0_n (fun e e2 => by
            have := hnum _ (h.mem m3) e
            omega)
          show (vre0 t y0.1, y0.2) ∈ zs ∧ _
          rw [hn]
          exact ⟨m3, m2⟩
      · rintro (rfl | ⟨m1, m2⟩)
        · refine ⟨((g, words, t, 5000), id), (y6 _).mpr ⟨hn5, fun e => ?_⟩, ?_⟩
          · have : (5000 : Nat) = 0 := e.2
            omega
          · show (vre0 t (g, words, t, 5000), id) = _
            unfold vre0
            rw [if_pos ⟨rfl, rfl⟩]
        · refine ⟨y', (y6 _).mpr ⟨(hmem _).mpr (Or.inr m1), m2⟩, ?_⟩
          rw [vre0_n (fun e e2 => by
            have := hnum _ (h.mem m1) e
            omega)]
    have hmap : ((zs5.eraseIdx x5').map (fun y => (vre0 t y.1, y.2))).map Prod.fst = vins (g, words, t, 0) (V.2.1.filter (fun q => !vkey t 0 q)) := by
      rw [List.map_map, show (Prod.fst ∘ fun y : vP × Nat => (vre0 t y.1, y.2)) = (vre0 t) ∘ Prod.fst from rfl, ← List.map_map, y5, j2, vins_flt (lim := lim) (by simp [vkey]) hj.2.1, vins_map (fun p => vre0_p.1)]
      have e1 : vre0 t (g, words, t, 5000) = (g, words, t, 0) := by
        unfold vre0
        rw [if_pos ⟨rfl, rfl⟩]
      have e2 : (V.2.1.filter (fun q => !vkey t 0 q)).map (vre0 t) = V.2.1.filter (fun q => !vkey t 0 q) := by
        conv => rhs; rw [← List.map_id (V.2.1.filter (fun q => !vkey t 0 q))]
        refine List.map_congr_left (fun p hp => vre0_n (fun e e2 => ?_))
        have := hnum p (List.mem_filter.mp hp).1 e
        omega
      rw [e1, e2]
    have hwv : ∀ i, i ≠ 3982 + t → (vmw V t g words).1 i = V.1 i := fun i hi => vs_ne hi
    have hot : OT t V (vmw V t g words) := ot_mvX ht
    have hva : vat (vmw V t g words).2.1 t 0 = g ∧ ∀ t' n, ¬ (t' = t ∧ n = 0) → vat (vmw V t g words).2.1 t' n = vat V.2.1 t' n := by
      obtain ⟨a1, -, a3⟩ := vmv_at (V := V) (t := t) (g := g) (words := words) hj
      exact ⟨a1, fun t' n hn => (a3 t' n hn).1⟩
    have hvp : ∀ i, i < V.2.2.1 t → vpl (vmw V t g words) t i = g + (V.2.2.2 t i).2.2.1 := fun i hi => by
      show vat (vmw V t g words).2.1 t (V.2.2.2 t i).2.1 + (V.2.2.2 t i).2.2.1 = _
      rw [hpc i hi, hva.1]
    refine h.op hx hj.1 hot ht hto hj.vfr (fun y' hy' => ?_) (fun y' hy' hyt => ?_) hmap hPC7 ?_ ⟨⟨?_, fun e he => ?_, fun e he => ?_⟩, ⟨?_, ?_⟩, ⟨?_, ?_⟩, ⟨?_, ?_⟩, ?_, ?_⟩ ?_
    · rw [hcase]
      constructor
      · rintro (rfl | m)
        · exact absurd rfl hy'
        · exact m.1
      · exact fun m => Or.inr ⟨m, fun e => hy' e.1⟩
    · have hne := i2 y' hy'
      exact ⟨h5 _ hne, h6 _ hne⟩
    · exact h.2.2.1.keep (hO _ (by omega) (by omega) (by omega) (by omega)) (hO _ (by omega) (by omega) (by omega) (by omega)) (fun i i1 i2 => hwv i (by omega))
    · rw [hT7 _ (by omega) (by omega)]; exact k1.1
    · have en := tf_n e he
      have ep := tf_p e he
      rw [hT7 _ (by omega) (by omega), hwv _ (by omega)]; exact k1.2.1 e he
    · have en := ts_n e he
      have ep := ts_p e he
      rw [hO _ (by omega) (by omega) (by omega) (by omega), hwv _ (by omega)]; exact k1.2.2 e he
    · intro h0
      have h0 : V.2.2.1 t = 0 := h0
      rw [hT7 _ (by omega) (by omega), h11, if_pos h0]
      exact ⟨(k2.1 h0).1, rfl⟩
    · intro h0
      have h0 : 0 < V.2.2.1 t := h0
      rw [hT7 _ (by omega) (by omega), h11, if_neg (by omega), hwv _ (by omega)]
      refine ⟨(k2.2 h0).1, ?_⟩
      show _ = nI (vpl (vmw V t g words) t (V.2.2.1 t - 1))
      rw [hvp _ (by omega)]
    · intro e
      rw [hwv _ (by omega), n1] at e
      exact absurd e (by decide)
    · intro y' hy' hyt hyn
      rw [hwv _ (by omega), n1] at hyn
      rcases (hcase y').mp hy' with rfl | m
      · exact h12
      · have := hnum _ (h.mem m.1) hyt
        exact absurd ⟨hyt, this⟩ m.2
    · intro y' hy' hyt hyn
      rcases (hcase y').mp hy' with rfl | m
      · have : (0 : Nat) = 1000 := hyn
        omega
      · exact absurd ⟨hyt, hyn⟩ (hnos _ (h.mem m.1))
    · intro _
      rw [hT7 _ (by omega) (by omega)]
      exact k4.2 hnos
    · unfold Kg
      rw [hT7 _ (by omega) (by omega), hwv _ (by omega), hwv _ (by omega)]; exact k5
    · intro y' hy' hyt
      rcases (hcase y').mp hy' with rfl | m
      · refine ⟨?_, fun _ => h6i, fun y'' hy'' hyt'' hyn => ?_⟩
        · show s7 (b + 5) id = nI (vud (vmw V t g words).1 (V.2.2.2 t) 0 (V.2.2.1 t))
          rw [h5i, vud_pe hot.1 (hj.vfr t ht), hvu]
        · have : (0 : Nat) = y''.1.2.2.2 + 1 := hyn
          omega
      · have := hnum _ (h.mem m.1) hyt
        exact absurd ⟨hyt, this⟩ m.2
    · rw [hMm]
      intro k hk
      by_cases e : k = t
      · subst e
        intro i hi
        have hi : i < V.2.2.1 k := hi
        obtain ⟨v1, v2, v3⟩ := t4 i hi
        have hofi := hof i hi
        have hcp : ∀ j, j < vwd V.1 (V.2.2.2 k i).1 → s4 (b + 15) (g + (V.2.2.2 k i).2.2.1 + j) = s3 (b + 15) (vpl V k i + j) := fun j hj2 => by
          have := b3 ((V.2.2.2 k i).2.2.1 + j) (by omega)
          rw [hpl i hi, Nat.add_assoc, this, Nat.add_assoc]
        show (V.2.2.2 k i).1 < 10 ∧ s4 (b + 15) (vpl (vmw V k g words) k i) = (if i = 0 then -1 else nI (vpl (vmw V k g words) k (i - 1))) ∧ s4 (b + 15) (vpl (vmw V k g words) k i + 1) = nI (V.2.2.2 k i).2.2.2.1 ∧ ∀ j, j < vsz (vmw V k g words).1 (V.2.2.2 k i).1 → s4 (b + 15) (vpl (vmw V k g words) k i + 2 + j) = vsw (vmw V k g words).1 (vpl (vmw V k g words) k) (V.2.2.2 k i) j
        have hf10 := hj.vfr k hk i hi
        have hsz := hot.1.sz hf10
        refine ⟨hf10, ?_, ?_, fun j hj2 => ?_⟩
        · have this : s4 (b + 15) (g + (V.2.2.2 k i).2.2.1) = s3 (b + 15) (vpl V k i) := hcp 0 (by unfold vwd; omega)
          rw [hvp i hi, this, v1]
          by_cases c : i = 0
          · rw [if_pos c, if_pos c]
          · rw [if_neg c, if_neg c, hvp _ (by omega)]
        · rw [hvp i hi, hcp 1 (by unfold vwd; omega), v2]
        · rw [hsz.1] at hj2
          rw [hvp i hi, Nat.add_assoc, hcp (2 + j) (by unfold vwd; omega), ← Nat.add_assoc, v3 j hj2]
          unfold vsw
          rw [hwv _ (by omega)]
          by_cases c : bt (V.1 (2238 + (V.2.2.2 k i).1)) j
          · rw [if_pos c, if_pos c]
            cases e : (V.2.2.2 k i).2.2.2.2.2 j with
            | none => rfl
            | some q =>
              have hq := (TH.of (pl' := fun i => g + (V.2.2.2 k i).2.2.1) hj hk (by omega)).2.2.2.1 i hi j hj2 c q e
              show nI (g + (V.2.2.2 k q.1).2.2.1 + 2 + q.2) = nI (vpl (vmw V k g words) k q.1 + 2 + q.2)
              rw [hvp q.1 (by omega)]
          · rw [if_neg c, if_neg c]
      · have hMR : MR (s (b + 15)) (vmw V t g words).1 (V.2.2.1 k) (V.2.2.2 k) (vpl V k) := MR_w (fun i i1 i2 => hwv i (by omega)) (h.2.2.2.2.1 k hk)
        have hpk : ∀ i, vpl (vmw V t g words) k i = vpl V k i := fun i => by
          show vat (vmw V t g words).2.1 k (V.2.2.2 k i).2.1 + _ = vat V.2.1 k (V.2.2.2 k i).2.1 + _
          rw [hva.2 k _ (fun c => e c.1)]
          rfl
        show MR (s4 (b + 15)) (vmw V t g words).1 (V.2.2.1 k) (V.2.2.2 k) (vpl (vmw V t g words) k)
        rw [show vpl (vmw V t g words) k = vpl V k from funext hpk]
        refine hMR.mem (fun i hi j hj2 => ?_)
        rw [(hot.1.sz (hj.vfr k hk i hi)).2.1] at hj2
        obtain ⟨npk, g1, g2, -⟩ := hj.geo hk (by omega)
        obtain ⟨qq, gq1, gq2, gq3, gq4, gq5⟩ := g2.pc g1 hi
        have hgap := hgg.2 qq gq1
        have hpe : vpl V k i = qq.1 + (V.2.2.2 k i).2.2.1 := by unfold vpl; rw [gq4]
        rw [b4 _ (by omega), t5 _ (fun j' hj' => ?_), hM2]
        have := hj.dj hk ht hi hj' (fun c => e c.1)
        omega
  · exact ⟨fun k hk hne => ⟨by rw [wt_u_ne (by omega), q6 _ (by omega), f5 _ (by omega), b2 _ (by omega), t2 _ (by omega) (by omega) (by omega), f2 _ (by omega), i8 _ (by omega)], by rw [wt_u_ne (by omega), q6 _ (by omega), f5 _ (by omega), b2 _ (by omega), t2 _ (by omega) (by omega) (by omega), f2 _ (by omega), i8 _ (by omega)]⟩, fun c hc => by rw [wt_u_ne (by omega), q6 _ (by omega), f5 _ (by omega), b2 _ (by omega), t2 _ (by omega) (by omega) (by omega), f2 _ (by omega), i8 _ (by omega)]⟩
end
end
section
/-! ===== the class: a move whole; all pieces of a task are given back ===== -/
section
variable {b lim : Nat} {s s' : wt_S} {V V' : vV} {zs zs' : List (vP × Nat)} {fr fr' : List Nat} {t np z need : Nat}
theorem c_move_n (h : RC b lim s V zs fr) (hx : CX b lim) (hj : VJ lim V) (ht : t < 6) {words : Nat} {lg : Int32} (hw : 1 ≤ words ∧ words < 100000) (hg : vgap lim 0 V.2.1 words = none) : gX4_moveInto b (b + 17 + 2 * t) s (nI words) lg = some (0, s) := by
  unfold gX4_moveInto
  rw [(h.2.2.2.1 t ht).1.1, (c_take h.2.1 (by rw [h.1]; exact hj.2.1) hw hx.2.2).1 (by rw [h.1]; exact hg), cl_some, if_neg (by decide)]
theorem c_move (h : RC b lim s V zs fr) (hx : CX b lim) (hj : VJ lim V) (hc : Ico V t 1) (ht : t < 6) (hm : V.1 (3933 + t) = 0) {words g : Nat} {lg : Int32} {e : Nat × Nat} (he : (lg = 0 ∧ e = (4, 4010)) ∨ (lg = 1 ∧ e = (7, 4031))) (hw : 1 ≤ words ∧ words < 100000) (hu : vus V.1 (V.2.2.2 t) (V.2.2.1 t) ≤ words) (hlen : zs.length < 256) (hg : vgap lim 0 V.2.1 words = some g) :
    ∃ s' zs' fr', gX4_moveInto b (b + 17 + 2 * t) s (nI words) lg = some (1, s') ∧ RC b lim s' (vlg1 (vcn (vinc (vmv V t g words) (e.2 + t)) e.1 1)) zs' fr' ∧ TO b t s s' := by
  obtain ⟨id, s1, zs1, fr1, a1, a2, a3, a4⟩ := c_move1 (lg := lg) h hx hj hc ht hm hw hu hlen hg
  have hw1 : vpe V.1 (vmw V t g words).1 := (ot_mvX ht : OT t V (vmw V t g words)).1
  have hp1 : Ipr (vmw V t g words).1 := hj.1.ww hw1
  have hf1 : VFR (vmw V t g words) := hj.vfr
  have e5 : s1 (b + 17 + 2 * t) 5 = (vmw V t g words).1 (3961 + t) := a3.at ht (e := (5, 3961)) (by decide)
  obtain ⟨s2, b1, b2, b3, -⟩ := c_adds a3 hx hp1 hf1 ht (e := (5, 4017)) (by decide) (v := (vmw V t g words).1 (3961 + t))
  have b1 : gX9_add b (b + 17 + 2 * t) s1 5 ((vmw V t g words).1 (3961 + t)) = some ((), s2) := b1
  have b2 : RC b lim s2 (vmv V t g words) zs1 fr1 := b2
  have hp2 : Ipr (vmv V t g words).1 := hj.1.ww vmv_w
  have hf2 : VFR (vmv V t g words) := hj.vfr
  have hts : e ∈ ts := by rcases he with ⟨-, rfl⟩ | ⟨-, rfl⟩ <;> decide
  obtain ⟨s3, c1, c2, c3, -⟩ := c_adds b2 hx hp2 hf2 ht hts (v := 1)
  have ep := ts_p e hts
  have hp3 : Ipr (vcn (vs (vmv V t g words) (e.2 + t) ((vmv V t g words).1 (e.2 + t) + 1)) e.1 1).1 := Ipr.vs1 (Ipr.vs1 hp2 (by omega)) (by rcases he with ⟨-, rfl⟩ | ⟨-, rfl⟩ <;> decide)
  obtain ⟨s4, d1, d2, d3⟩ := c_logs c2 hx hp3 hf2 (i1 := lg) a1
  refine ⟨s4, zs1, fr1, ?_, d2, ((a4.trans b3).trans c3).trans (TO.lf d3)⟩
  rw [a2, e5, b1, cl_some]
  rcases he with ⟨rfl, rfl⟩ | ⟨rfl, rfl⟩
  · have c1 : gX9_add b (b + 17 + 2 * t) s2 4 1 = some ((), s3) := c1
    rw [if_neg (by decide)]
    unfold gX4_moveInto_114
    rw [c1, cl_some, d1, cl_some]
  · have c1 : gX9_add b (b + 17 + 2 * t) s2 7 1 = some ((), s3) := c1
    rw [if_pos (by decide)]
    unfold gX4_moveInto_114
    rw [c1, cl_some, d1, cl_some]
theorem c_doubled {e : Nat} (he : e < 1000000) : ∀ (m n fu : Nat), m ≤ 16 → n < 3000000 → m < fu → gX4_doubled_4 fu s (nI e) (nI n) (nI (16 - m)) = some (nI (vdbl e m n), s) := by
  intro m
  induction m with
  | zero =>
    intro n fu _ hn hf
    obtain ⟨fu, rfl⟩ : ∃ k, fu = k + 1 := ⟨fu - 1, by omega⟩
    rw [gX4_doubled_4, if_pos (by decide)]
    rfl
  | succ m ih =>
    intro n fu hm hn hf
    obtain ⟨fu, rfl⟩ : ∃ k, fu = k + 1 := ⟨fu - 1, by omega⟩
    have c16 : (16 : Int32).toInt = 16 := by decide
    rw [gX4_doubled_4, if_neg (by rw [nI_int (by omega), c16]; omega), nI_int (by omega), nI_int (by omega)]
    show _ = some (nI (if n < e then vdbl e m (n * 2) else n), s)
    by_cases c : n < e
    · rw [if_neg (by omega), if_pos c, li_mul2, show nI (16 - (m + 1)) + 1 = nI (16 - m) by rw [show (16 - m : Nat) = 16 - (m + 1) + 1 by omega]; exact nI_add _ 1]
      exact ih (n * 2) fu (by omega) (by omega) (by omega)
    · rw [if_pos (by omega), if_neg c]
/-- COPIED: room is made -/
theorem c_growc (h : RC b lim s V zs fr) (hx : CX b lim) (hP : Vpre lim V t np z) (hm : V.1 (3933 + t) = 0) (hn : 1 ≤ need ∧ need ≤ 100) : ∃ W s' zs' fr', gX4_doubled s (2 * nI (vln V.2.1 t 0)) (nI (vus V.1 (V.2.2.2 t) (V.2.2.1 t)) + nI need) = some (nI W, s) ∧ gX4_moveInto b (b + 17 + 2 * t) s (nI W) 0 = some (rb ((vgr lim V t need).1 = true), s') ∧ RC b lim s' (vgr lim V t need).2 zs' fr' ∧ TO b t s s' := by
  obtain ⟨hj, hc, ht, hz, h8, hzl, hl, hl2, hq⟩ := hP
  have hnp : np = 1 := by
    rcases hc.2.2.2.2.1 with e | e
    · exact e.2.1
    · rw [hm] at e; exact absurd e (by decide)
  subst hnp
  obtain ⟨q, q1, q2, q3, q4, q5, -⟩ := vget (hc.2.2.2.1.1 0 (by omega))
  have hqz := hq q q1
  have hqo := hj.2.1.2 q q1
  obtain ⟨-, hul⟩ := hc.n hj hx.2.2
  have hus := hc.2.2.2.2.2.1
  have hvu : vuse V t = vus V.1 (V.2.2.2 t) (V.2.2.1 t) := vuse_of hus (by omega)
  have hd := vdbl_ge (e := vus V.1 (V.2.2.2 t) (V.2.2.1 t) + need) (m := 16) (n := 2 * vln V.2.1 t 0) (by rw [q5]; omega) (by rw [q5]; omega)
  refine ⟨vdbl (vus V.1 (V.2.2.2 t) (V.2.2.1 t) + need) 16 (2 * vln V.2.1 t 0), ?_⟩
  have hdb : gX4_doubled s (2 * nI (vln V.2.1 t 0)) (nI (vus V.1 (V.2.2.2 t) (V.2.2.1 t)) + nI need) = some (nI (vdbl (vus V.1 (V.2.2.2 t) (V.2.2.1 t) + need) 16 (2 * vln V.2.1 t 0)), s) := by
    unfold gX4_doubled
    rw [li_mul, nI_add]
    exact c_doubled (by omega) 16 (2 * vln V.2.1 t 0) wt_N (Nat.le_refl _) (by rw [q5]; omega) (by unfold wt_N; omega)
  generalize hWW : vdbl (vus V.1 (V.2.2.2 t) (V.2.2.1 t) + need) 16 (2 * vln V.2.1 t 0) = W at *
  rw [q5] at hd
  cases e : vgap lim 0 V.2.1 W with
  | none =>
    rw [vgr_c0 hm (by rw [hvu, hWW]; exact e)]
    exact ⟨s, zs, fr, hdb, by rw [c_move_n h hx hj ht ⟨by omega, by omega⟩ e, rb_neg (by simp)], h, TO.refl⟩
  | some g =>
    have hlen : zs.length < 256 := by
      have := Vlen hj.2.1 hq h8 hl2 (show z ≤ W by omega) e
      rw [← h.1, List.length_map] at this
      exact this
    obtain ⟨s', zs', fr', a1, a2, a3⟩ := c_move h hx hj hc ht hm (lg := 0) (e := (4, 4010)) (Or.inl ⟨rfl, rfl⟩) ⟨by omega, by omega⟩ (show vus V.1 (V.2.2.2 t) (V.2.2.1 t) ≤ W by omega) hlen e
    rw [vgr_c1 hm (by rw [hvu, hWW]; exact e), hvu, hWW]
    exact ⟨s', zs', fr', hdb, by rw [a1, rb_pos rfl], a2, a3⟩
theorem c_rank_m (h : PC b lim s zs fr) (ho : vo lim (zs.map Prod.fst)) (hl : lim ≤ 10000) : gX5_rankOf b s (-1) = some (0, s) := by
  have hn := h.len
  have loop : ∀ (m i fu : Nat), m < zs.length → i + m < 256 → m < fu → gX5_rankOf_12 b fu s (-1) (nI 0) (nI m) (nI i) = some (nI 0, s) := by
    intro m
    induction m using Nat.strongRecOn with
    | _ m ih =>
      intro i fu hm hi hf
      obtain ⟨fu, rfl⟩ : ∃ k, fu = k + 1 := ⟨fu - 1, by omega⟩
      rw [gX5_rankOf_12, if_neg (c_hi (by omega))]
      by_cases c : m = 0
      · subst c
        rw [if_pos (Int.le_refl _)]
      · rw [if_neg (by rw [nI_int (by omega), nI_int (by omega)]; omega), if_neg (c_hi (by omega)), nI_add, show nI (0 + m) + 1 = nI (0 + m + 1) from nI_add _ 1, nI_half2 (by omega)]
        generalize hd : (0 + m + 1) / 2 = d
        have hd1 : 1 ≤ d ∧ d ≤ m := by omega
        have hz : zs[d]? = some zs[d] := List.getElem?_eq_getElem (by omega)
        generalize zs[d] = z at hz
        obtain ⟨g1, g2, g3, g4, g5, -, -⟩ := h.at hz
        have hzo := (ho.2 z.1 (List.mem_map.mpr ⟨z, List.mem_of_getElem? hz, rfl⟩)).2.1
        rw [ix_nI (by omega) (by omega), g1, if_neg (c_lo (by omega)), if_neg (c_hi g2), ix_nI g2 (by omega), g5, if_pos (by rw [nI_int (by omega), m1_int]; omega)]
        unfold gX5_rankOf_80
        rw [show nI d - 1 = nI (d - 1) by rw [show d = (d - 1) + 1 by omega, i_sub1, nI_pred2]; rfl, show nI i + 1 = nI (i + 1) from nI_add i 1]
        exact ih (d - 1) (by omega) (i + 1) fu (by omega) (by omega) (by omega)
  unfold gX5_rankOf
  rw [h.1]
  by_cases c : zs.length = 0
  · rw [c]
    have : ∃ k, wt_N = k + 1 := ⟨2099999999, rfl⟩
    obtain ⟨k, hk⟩ := this
    rw [hk, gX5_rankOf_12, if_neg (by decide), if_pos (by decide)]
  · rw [show nI zs.length - 1 = nI (zs.length - 1) by rw [show zs.length = (zs.length - 1) + 1 by omega, i_sub1, nI_pred2]; rfl]
    exact loop (zs.length - 1) 0 wt_N (by omega) (by omega) (by unfold wt_N; omega)
theorem c_give_m (h : PC b lim s zs fr) (ho : vo lim (zs.map Prod.fst)) (hl : lim ≤ 10000) : gX5_giveBack b s (-1) = some ((), s) := by
  unfold gX5_giveBack
  rw [c_placeOf_m, cl_some, c_rank_m h ho hl, cl_some, if_pos rfl]
/-- pieces of a task by their chain: last, spare, which is below -/
def Ch (b : Nat) (s : wt_S) (zs : List (vP × Nat)) (t np : Nat) : Prop := ((np = 0 → s (b + 17 + 2 * t) 12 = -1) ∧ ∀ z ∈ zs, z.1.2.2.1 = t → z.1.2.2.2 + 1 = np → s (b + 17 + 2 * t) 12 = nI z.2) ∧ ((∀ z ∈ zs, z.1.2.2.1 = t → z.1.2.2.2 = 1000 → s (b + 17 + 2 * t) 13 = nI z.2) ∧ ((∀ z ∈ zs, ¬ (z.1.2.2.1 = t ∧ z.1.2.2.2 = 1000)) → s (b + 17 + 2 * t) 13 = -1)) ∧ ∀ z ∈ zs, z.1.2.2.1 = t → (z.1.2.2.2 = 0 → s (b + 6) z.2 = -1) ∧ ∀ y ∈ zs, y.1.2.2.1 = t → z.1.2.2.2 = y.1.2.2.2 + 1 → s (b + 6) z.2 = nI y.2
theorem RC.ch (h : RC b lim s V zs fr) (ht : t < 6) (hn : V.1 (4066 + t) = nI np) : Ch b s zs t np := by
  obtain ⟨-, -, k3, k4, -, k6⟩ := h.2.2.2.1 t ht
  refine ⟨⟨fun e => k3.1 (by rw [hn, e]; rfl), fun z hz hzt hzn => k3.2 z hz hzt (by rw [hn, hzn])⟩, ⟨k4.1, fun hq => k4.2 (fun q hq1 hq2 => ?_)⟩, fun z hz hzt => (k6 z hz hzt).2⟩
  obtain ⟨z, hz, rfl⟩ := h.mm hq1
  exact hq z hz hq2
/-- the pieces from a number on have gone -/
def vPm (t m : Nat) (q : vP) : Bool := decide (¬ (q.2.2.1 = t ∧ m ≤ q.2.2.2 ∧ q.2.2.2 ≠ 1000))
theorem c_rel_loop {ps : List vP} (hx : CX b lim) (hm : zs.map Prod.fst = ps) (ho : vo lim ps) (hu : ps.Pairwise (fun p q => ¬ (p.2.2.1 = q.2.2.1 ∧ p.2.2.2 = q.2.2.2))) (hit : Itp ps t np) (hnp : np ≤ 256) (hch : Ch b s zs t np) : ∀ (m i fu : Nat) (s1 : wt_S) (zs1 : List (vP × Nat)) (fr1 : List Nat) (p : Int32), m ≤ np → i + m ≤ 256 → m < fu → PC b lim s1 zs1 fr1 → zs1.map Prod.fst = ps.filter (vPm t m) → (∀ y, y ∈ zs1 ↔ y ∈ zs ∧ vPm t m y.1 = true) → PF b s s1 → s1 (b + 5) = s (b + 5) → s1 (b + 6) = s (b + 6) → (m = 0 → p = -1) → (∀ z ∈ zs, z.1.2.2.1 = t → z.1.2.2.2 + 1 = m → p = nI z.2) →
    ∃ s2 zs2 fr2, gX9_releasePieces_7 b (b + 17 + 2 * t) fu s1 p (nI i) = gX9_releasePieces_42 b (b + 17 + 2 * t) s2 ∧ PC b lim s2 zs2 fr2 ∧ zs2.map Prod.fst = ps.filter (vPm t 0) ∧ (∀ y, y ∈ zs2 ↔ y ∈ zs ∧ vPm t 0 y.1 = true) ∧ PF b s s2 ∧ s2 (b + 5) = s (b + 5) ∧ s2 (b + 6) = s (b + 6) := by
  have hb := hx.b
  intro m
  induction m with
  | zero =>
    intro i fu s1 zs1 fr1 p _ him hf h1 h2 h3 h4 h5 h6 h7 _
    obtain ⟨fu, rfl⟩ : ∃ k, fu = k + 1 := ⟨fu - 1, by omega⟩
    refine ⟨s1, zs1, fr1, ?_, h1, h2, h3, h4, h5, h6⟩
    rw [gX9_releasePieces_7, h7 rfl]
    by_cases c : (256 : Int32).toInt ≤ (nI i).toInt
    · rw [if_pos c]
    · rw [if_neg c, if_pos rfl]
  | succ m ih =>
    intro i fu s1 zs1 fr1 p hmn him hf h1 h2 h3 h4 h5 h6 _ h8
    obtain ⟨fu, rfl⟩ : ∃ k, fu = k + 1 := ⟨fu - 1, by omega⟩
    have hu1 : (zs1.map Prod.fst).Pairwise (fun p q => ¬ (p.2.2.1 = q.2.2.1 ∧ p.2.2.2 = q.2.2.2)) := by rw [h2]; exact hu.sublist List.filter_sublist
    have ho1 : vo lim (zs1.map Prod.fst) := by rw [h2]; exact vo_sub ho List.filter_sublist
    obtain ⟨q, q1, q2, q3⟩ := hit.1 m (by omega)
    obtain ⟨z0, z0m, z0q⟩ : ∃ z ∈ zs, z.1 = q := by rw [← hm] at q1; obtain ⟨z, hz, e⟩ := List.mem_map.mp q1; exact ⟨z, hz, e⟩
    have z0t : z0.1.2.2.1 = t := by rw [z0q]; exact q2
    have z0n : z0.1.2.2.2 = m := by rw [z0q]; exact q3
    have z0m1 : z0 ∈ zs1 := (h3 z0).mpr ⟨z0m, by unfold vPm; rw [decide_eq_true_eq]; omega⟩
    obtain ⟨x, z, x1, x2, x3, x4, -, -, x5, x6⟩ := zfind (t := t) (n := m) (rfl : zs1.map Prod.fst = _) hu1 ⟨z0.1, List.mem_map.mpr ⟨z0, z0m1, rfl⟩, z0t, z0n⟩
    have hzz : z = z0 := zuniq (rfl : zs1.map Prod.fst = _) hu1 x2 z0m1 (x3.trans z0t.symm) (x4.trans z0n.symm)
    subst hzz
    have hid := (h1.mem x2).1
    have hp := h8 z z0m x3 (by omega)
    obtain ⟨s2, g1, g2, g3, g4, g5, g6⟩ := c_give h1 ho1 hx.2.2 x1
    have hc := hch.2.2 z z0m x3
    have hfil : (zs1.eraseIdx x).map Prod.fst = ps.filter (vPm t m) := by
      rw [x5, h2, List.filter_filter]
      refine List.filter_congr (fun q _ => ?_)
      unfold vPm vkey
      rw [Bool.eq_iff_iff, Bool.and_eq_true, Bool.not_eq_true', decide_eq_false_iff_not, decide_eq_true_eq, decide_eq_true_eq]
      omega
    have hmem : ∀ y, y ∈ zs1.eraseIdx x ↔ y ∈ zs ∧ vPm t m y.1 = true := fun y => by
      rw [x6, h3]
      unfold vPm
      rw [decide_eq_true_eq, decide_eq_true_eq]
      constructor
      · rintro ⟨⟨a1, a2⟩, a3⟩; exact ⟨a1, by omega⟩
      · rintro ⟨a1, a2⟩; exact ⟨⟨a1, by omega⟩, by omega⟩
    have e6 : s2 (b + 6) = s (b + 6) := by rw [g4, h6]
    rw [gX9_releasePieces_7, hp, if_neg (c_hi (by omega)), if_neg (nI_m1 (by omega)), g1, cl_some, c_belowOf hid, cl_some, e6, show nI i + 1 = nI (i + 1) from nI_add i 1]
    refine ih (i + 1) fu s2 (zs1.eraseIdx x) (z.2 :: fr1) (s (b + 6) z.2) (by omega) (by omega) (by omega) g2 hfil hmem (h4.trans g6) (by rw [g3, h5]) e6 (fun e => hc.1 (by omega)) (fun y hy hyt hyn => hc.2 y hy hyt (by omega))
theorem c_rel {ps : List vP} (hx : CX b lim) (ht : t < 6) (hP : PC b lim s zs fr) (hm : zs.map Prod.fst = ps) (ho : vo lim ps) (hu : ps.Pairwise (fun p q => ¬ (p.2.2.1 = q.2.2.1 ∧ p.2.2.2 = q.2.2.2))) (hit : Itp ps t np) (hnp : np ≤ 256) (hch : Ch b s zs t np) : ∃ s' zs' fr', gX9_releasePieces b (b + 17 + 2 * t) s = some ((), s') ∧ PC b lim s' zs' fr' ∧ zs'.map Prod.fst = ps.filter (fun q => decide (q.2.2.1 ≠ t)) ∧ (∀ y, y ∈ zs' ↔ y ∈ zs ∧ y.1.2.2.1 ≠ t) ∧ s' (b + 5) = s (b + 5) ∧ s' (b + 6) = s (b + 6) ∧ (∀ c, ¬ (b + 2 ≤ c ∧ c ≤ b + 9) → c ≠ b + 17 + 2 * t → s' c = s c) ∧ s' (b + 17 + 2 * t) = mj_upd (s (b + 17 + 2 * t)) 13 (-1) := by
  have hb := hx.b
  have hall : ∀ y ∈ zs, vPm t np y.1 = true := fun y hy => by
    unfold vPm
    rw [decide_eq_true_eq]
    intro c
    have := hit.2 y.1 (by rw [← hm]; exact List.mem_map.mpr ⟨y, hy, rfl⟩) c.1
    omega
  have hfil : zs.map Prod.fst = ps.filter (vPm t np) := by
    rw [← hm, List.filter_eq_self.mpr (fun q hq => ?_)]
    obtain ⟨y, hy, rfl⟩ := List.mem_map.mp hq
    exact hall y hy
  obtain ⟨s2, zs2, fr2, a1, a2, a3, a4, a5, a6, a7⟩ := c_rel_loop hx hm ho hu hit hnp hch np 0 wt_N s zs fr (s (b + 17 + 2 * t) 12) (Nat.le_refl _) (by omega) (by unfold wt_N; omega) hP hfil (fun y => ⟨fun q => ⟨q, hall y q⟩, fun q => q.1⟩) PF.refl rfl rfl hch.1.1 hch.1.2
  unfold gX9_releasePieces
  rw [show (0 : Int32) = nI 0 from rfl, a1]
  unfold gX9_releasePieces_42
  have hT2 : s2 (b + 17 + 2 * t) = s (b + 17 + 2 * t) := a5 _ (by omega)
  rw [hT2]
  have ho2 : vo lim (zs2.map Prod.fst) := by rw [a3]; exact vo_sub ho List.filter_sublist
  by_cases c : ∃ z ∈ zs, z.1.2.2.1 = t ∧ z.1.2.2.2 = 1000
  · obtain ⟨z0, z0m, z0t, z0n⟩ := c
    have hu2 : (zs2.map Prod.fst).Pairwise (fun p q => ¬ (p.2.2.1 = q.2.2.1 ∧ p.2.2.2 = q.2.2.2)) := by rw [a3]; exact hu.sublist List.filter_sublist
    have z02 : z0 ∈ zs2 := (a4 z0).mpr ⟨z0m, by unfold vPm; rw [decide_eq_true_eq]; omega⟩
    obtain ⟨x, z, x1, x2, x3, x4, -, -, x5, x6⟩ := zfind (t := t) (n := 1000) (rfl : zs2.map Prod.fst = _) hu2 ⟨z0.1, List.mem_map.mpr ⟨z0, z02, rfl⟩, z0t, z0n⟩
    have hzz : z = z0 := zuniq (rfl : zs2.map Prod.fst = _) hu2 x2 z02 (x3.trans z0t.symm) (x4.trans z0n.symm)
    subst hzz
    obtain ⟨s3, g1, g2, g3, g4, g5, g6⟩ := c_give a2 ho2 hx.2.2 x1
    rw [hch.2.1.1 z z0m x3 x4, g1, cl_some, wr_eq]
    refine ⟨_, zs2.eraseIdx x, z.2 :: fr2, rfl, g2.eq (fun c hc => wt_u_ne (by omega)), ?_, fun y => ?_, by rw [wt_u_ne (by omega), g3, a6], by rw [wt_u_ne (by omega), g4, a7], fun c h1 h2 => by rw [wt_u_ne h2, g6 c h1, a5 c h1], by rw [wt_u_at, g6 _ (by omega), hT2]⟩
    · rw [x5, a3, List.filter_filter]
      refine List.filter_congr (fun q hq => ?_)
      unfold vPm vkey
      rw [Bool.eq_iff_iff, Bool.and_eq_true, Bool.not_eq_true', decide_eq_false_iff_not, decide_eq_true_eq, decide_eq_true_eq]
      omega
    · rw [x6, a4]
      unfold vPm
      rw [decide_eq_true_eq]
      constructor
      · rintro ⟨⟨b1, b2⟩, b3⟩; exact ⟨b1, by omega⟩
      · rintro ⟨b1, b2⟩; exact ⟨⟨b1, by omega⟩, by omega⟩
  · have hno : ∀ z ∈ zs, ¬ (z.1.2.2.1 = t ∧ z.1.2.2.2 = 1000) := fun z hz hq => c ⟨z, hz, hq⟩
    rw [hch.2.1.2 hno, c_give_m a2 ho2 hx.2.2, cl_some, wr_eq]
    refine ⟨_, zs2, fr2, rfl, a2.eq (fun c hc => wt_u_ne (by omega)), ?_, fun y => ?_, by rw [wt_u_ne (by omega), a6], by rw [wt_u_ne (by omega), a7], fun c h1 h2 => by rw [wt_u_ne h2, a5 c h1], by rw [wt_u_at, hT2]⟩
    · rw [a3]
      refine List.filter_congr (fun q hq => ?_)
      rw [← hm] at hq
      obtain ⟨y, hy, rfl⟩ := List.mem_map.mp hq
      have := hno y hy
      unfold vPm
      rw [Bool.eq_iff_iff, decide_eq_true_eq, decide_eq_true_eq]
      omega
    · rw [a4]
      unfold vPm
      rw [decide_eq_true_eq]
      constructor
      · rintro ⟨b1, b2⟩
        have := hno y b1
        exact ⟨b1, by omega⟩
      · rintro ⟨b1, b2⟩; exact ⟨b1, by omega⟩
end
end
section
/-! ===== the class: a task ends ===== -/
/-- a task without its stack -/
def dst (f : Nat → Int32) : Nat → Int32 := fun j => if j = 4 ∨ j = 5 ∨ j = 8 then 0 else if j = 7 ∨ (9 ≤ j ∧ j ≤ 13) then -1 else f j
section
variable {b lim : Nat} {s s' : wt_S} {V V' : vV} {zs zs' : List (vP × Nat)} {fr fr' : List Nat} {t np z need : Nat}
theorem c_drop {T : Nat} : ∃ s', gX7_dropStack T s = some ((), s') ∧ (∀ c, c ≠ T → s' c = s c) ∧ s' T = dst (s T) := by
  unfold gX7_dropStack
  refine ⟨_, rfl, fun c hc => ?_, ?_⟩
  · rw [wt_u_ne hc, wt_u_ne hc, wt_u_ne hc, wt_u_ne hc, wt_u_ne hc, wt_u_ne hc, wt_u_ne hc, wt_u_ne hc, wt_u_ne hc]
  · rw [wt_u_at, wt_u_at, wt_u_at, wt_u_at, wt_u_at, wt_u_at, wt_u_at, wt_u_at, wt_u_at]
    funext j
    unfold dst
    by_cases c1 : j = 13
    · subst c1; rw [mj_upd_self]; rfl
    rw [mj_upd_ne c1]
    by_cases c2 : j = 12
    · subst c2; rw [mj_upd_self]; rfl
    rw [mj_upd_ne c2]
    by_cases c3 : j = 11
    · subst c3; rw [mj_upd_self]; rfl
    rw [mj_upd_ne c3]
    by_cases c4 : j = 10
    · subst c4; rw [mj_upd_self]; rfl
    rw [mj_upd_ne c4]
    by_cases c5 : j = 9
    · subst c5; rw [mj_upd_self]; rfl
    rw [mj_upd_ne c5]
    by_cases c6 : j = 8
    · subst c6; rw [mj_upd_self]; rfl
    rw [mj_upd_ne c6]
    by_cases c7 : j = 7
    · subst c7; rw [mj_upd_self]; rfl
    rw [mj_upd_ne c7]
    by_cases c8 : j = 5
    · subst c8; rw [mj_upd_self]; rfl
    rw [mj_upd_ne c8]
    by_cases c9 : j = 4
    · subst c9; rw [mj_upd_self]; rfl
    rw [mj_upd_ne c9, if_neg (by omega), if_neg (by omega)]
theorem vga_i {i : Nat} (hsd : V.1 (3989 + t) = -1 ∨ ∃ k, k < 3 ∧ V.1 (3989 + t) = nI k) : (3926 ≤ i → (vga V t).1 i = if i = 3975 + t ∨ i = 3989 + t then -1 else if i = 3961 + t ∨ i = 3954 + t ∨ i = 4066 + t ∨ i = 3996 + t then 0 else V.1 i) ∧ (i < 3923 → (vga V t).1 i = V.1 i) := by
  have hbase : i < 3923 ∨ 3926 ≤ i → (if V.1 (3989 + t) = -1 then V.1 else mj_upd V.1 (3923 + (V.1 (3989 + t)).toInt.toNat) (-1)) i = V.1 i := fun hi => by
    rcases hsd with e | ⟨k, hk, e⟩
    · rw [if_pos e]
    · rw [if_neg (by rw [e]; exact nI_m1 (by omega)), e, nI_int (by omega), mj_upd_ne (by omega)]
  constructor
  · intro hi
    rw [vga_1]
    by_cases c1 : i = 3975 + t
    · rw [c1, mj_upd_self, if_pos (Or.inl rfl)]
    rw [mj_upd_ne c1]
    by_cases c2 : i = 3961 + t
    · rw [c2, mj_upd_self, if_neg (by omega), if_pos (by omega)]
    rw [mj_upd_ne c2]
    by_cases c3 : i = 3954 + t
    · rw [c3, mj_upd_self, if_neg (by omega), if_pos (by omega)]
    rw [mj_upd_ne c3]
    by_cases c4 : i = 4066 + t
    · rw [c4, mj_upd_self, if_neg (by omega), if_pos (by omega)]
    rw [mj_upd_ne c4]
    by_cases c5 : i = 3996 + t
    · rw [c5, mj_upd_self, if_neg (by omega), if_pos (by omega)]
    rw [mj_upd_ne c5]
    by_cases c6 : i = 3989 + t
    · rw [c6, mj_upd_self, if_pos (by omega)]
    rw [mj_upd_ne c6, hbase (Or.inr hi), if_neg (by omega), if_neg (by omega)]
  · intro hi
    rw [vga_1, mj_upd_ne (by omega), mj_upd_ne (by omega), mj_upd_ne (by omega), mj_upd_ne (by omega), mj_upd_ne (by omega), mj_upd_ne (by omega), hbase (Or.inl hi)]
theorem ot_ga0 (ht : t < 6) (hsd : V.1 (3989 + t) = -1 ∨ ∃ k, k < 3 ∧ V.1 (3989 + t) = nI k ∧ V.1 (3923 + k) = nI t) : OT t V (vga V t) := by
  have hsd' : V.1 (3989 + t) = -1 ∨ ∃ k, k < 3 ∧ V.1 (3989 + t) = nI k := by
    rcases hsd with e | ⟨k, e1, e2, -⟩
    · exact Or.inl e
    · exact Or.inr ⟨k, e1, e2⟩
  refine ⟨fun i hi => (vga_i hsd').2 (by omega), fun i h1 h2 => (vga_i hsd').2 (by omega), fun t' ht' hne => ⟨fun j hj => ?_, ?_, ?_⟩, fun q hq => ?_, fun t' n hne => ?_, fun k hk t' ht' hne => ?_⟩
  · rw [(vga_i hsd').1 (by omega), if_neg (by omega), if_neg (by omega)]
  · rw [vga_2]; exact mj_upd_ne hne
  · rw [vga_2]
  · rw [vga_2, List.mem_filter]
    simp [hq]
  · rw [vga_2]
    refine vfind_filter (fun q hq hk => ?_)
    have hk : q.2.2.1 = t' ∧ q.2.2.2 = n := by simpa [vkey] using hk
    rw [decide_eq_true_eq]; omega
  · rw [vga_1, mj_upd_ne (by omega), mj_upd_ne (by omega), mj_upd_ne (by omega), mj_upd_ne (by omega), mj_upd_ne (by omega), mj_upd_ne (by omega)]
    rcases hsd with e | ⟨k', e1, e2, e3⟩
    · rw [if_pos e]
    · rw [if_neg (by rw [e2]; exact nI_m1 (by omega)), e2, nI_int (by omega), Int.toNat_natCast]
      by_cases c : k = k'
      · subst c
        rw [mj_upd_self, e3]
        constructor
        · intro h
          exact absurd h.symm (nI_m1 (by omega))
        · intro h
          have := (nI_inj (by omega) (by omega)).mp h
          omega
      · rw [mj_upd_ne (by omega)]
end
end
section
/-! ===== the class: a task ends, whole ===== -/
section
variable {b lim : Nat} {s s' : wt_S} {V V' : vV} {zs zs' : List (vP × Nat)} {fr fr' : List Nat} {t np z need : Nat}
theorem c_end {ps : List vP} {st : Int32} {k : Nat} (hst : (st = 3 ∧ k = 0) ∨ (st = 4 ∧ k = 1)) (hx : CX b lim) (ht : t < 6) (hp : Ipr V.1) (hf : VFR V) (hP : PC b lim s zs fr) (hm : zs.map Prod.fst = ps) (ho : vo lim ps) (hu : ps.Pairwise (fun p q => ¬ (p.2.2.1 = q.2.2.1 ∧ p.2.2.2 = q.2.2.2))) (hit : Itp ps t np) (hnp : np ≤ 256) (hch : Ch b s zs t np) (hps : ps.filter (fun q => decide (q.2.2.1 ≠ t)) = V.2.1.filter (fun q => decide (q.2.2.1 ≠ t))) (hg : CG b s V.1) (hoth : ∀ k, k < 6 → k ≠ t → RCk b s V zs k) (hks : Ks b s V.1 t) (hkg : s (b + 17 + 2 * t) 15 = V.1 (4052 + t)) (hvm : VM (s (b + 15)) (vga V t)) (hrp : RP 5 s V.1) (hsd : V.1 (3989 + t) = -1 ∨ ∃ k, k < 3 ∧ V.1 (3989 + t) = nI k ∧ V.1 (3923 + k) = nI t) :
    ∃ s' zs' fr', gX2_end b (b + 17 + 2 * t) s st = some ((), s') ∧ RC b lim s' (vlg1 (vcn (vs (vga V t) (3926 + t) st) k 1)) zs' fr' ∧ TO b t s s' := by
  have hb := hx.b
  have hsd' : V.1 (3989 + t) = -1 ∨ ∃ k, k < 3 ∧ V.1 (3989 + t) = nI k := by
    rcases hsd with e | ⟨k, e1, e2, -⟩
    · exact Or.inl e
    · exact Or.inr ⟨k, e1, e2⟩
  have hst0 : st ≠ 0 := by rcases hst with ⟨rfl, -⟩ | ⟨rfl, -⟩ <;> decide
  obtain ⟨s1, zs1, fr1, a1, a2, a3, a4, a5, a6, a7, a8⟩ := c_rel hx ht hP hm ho hu hit hnp hch
  obtain ⟨s2, d1, d2, d3⟩ := c_drop (s := s1) (T := b + 17 + 2 * t)
  generalize hs3 : wt_u s2 (b + 17 + 2 * t) 1 st = s3
  have f3 : ∀ c, ¬ (b + 2 ≤ c ∧ c ≤ b + 9) → c ≠ b + 17 + 2 * t → s3 c = s c := fun c h1 h2 => by
    rw [← hs3, wt_u_ne h2, d2 c h2, a7 c h1 h2]
  have f3p : ∀ c, c ≠ b + 17 + 2 * t → s3 c = s1 c := fun c h2 => by rw [← hs3, wt_u_ne h2, d2 c h2]
  have fT : ∀ j, j ≠ 1 → s3 (b + 17 + 2 * t) j = dst (mj_upd (s (b + 17 + 2 * t)) 13 (-1)) j := fun j hj => by
    rw [← hs3, wt_u_nk hj, d3, a8]
  have fTk : ∀ j, j ≠ 1 → j ≠ 4 → j ≠ 5 → ¬ (7 ≤ j ∧ j ≤ 13) → s3 (b + 17 + 2 * t) j = s (b + 17 + 2 * t) j := fun j h1 h2 h3 h4 => by
    rw [fT j h1]
    unfold dst
    rw [if_neg (by omega), if_neg (by omega), mj_upd_ne (by omega)]
  have fTm : ∀ j, j = 7 ∨ (9 ≤ j ∧ j ≤ 13) → s3 (b + 17 + 2 * t) j = -1 := fun j h1 => by
    rw [fT j (by omega)]
    unfold dst
    rw [if_neg (by omega), if_pos h1]
  have fTz : ∀ j, j = 4 ∨ j = 5 ∨ j = 8 → s3 (b + 17 + 2 * t) j = 0 := fun j h1 => by
    rw [fT j (by omega)]
    unfold dst
    rw [if_pos h1]
  have fT1 : s3 (b + 17 + 2 * t) 1 = st := by rw [← hs3]; exact wt_u_self
  have hv : ∀ i, 3926 ≤ i → i ≠ 3926 + t → (vs (vga V t) (3926 + t) st).1 i = if i = 3975 + t ∨ i = 3989 + t then -1 else if i = 3961 + t ∨ i = 3954 + t ∨ i = 4066 + t ∨ i = 3996 + t then 0 else V.1 i := fun i h1 h2 => by
    rw [vs_ne h2]; exact (vga_i hsd').1 h1
  have hvl : ∀ i, i < 3923 → (vs (vga V t) (3926 + t) st).1 i = V.1 i := fun i h1 => by
    rw [vs_ne (by omega)]; exact (vga_i hsd').2 h1
  have hot : OT t V (vs (vga V t) (3926 + t) st) := (ot_ga0 ht hsd).trans (OT.vs ht (vown_t (by omega)))
  have hps2 : (vs (vga V t) (3926 + t) st).2.1 = V.2.1.filter (fun q => decide (q.2.2.1 ≠ t)) := by
    show (vga V t).2.1 = _
    rw [vga_2]
  have hn0 : (vs (vga V t) (3926 + t) st).2.2.1 t = 0 := by
    show (vga V t).2.2.1 t = 0
    rw [vga_2]; exact mj_upd_self
  have h0 : RC b lim s3 (vs (vga V t) (3926 + t) st) zs1 fr1 := by
    refine ⟨by rw [a3, hps, hps2], a2.eq (fun c hc => f3p c (by omega)), ⟨fun j hj => ?_, fun j hj => ?_⟩, fun k hk => ?_, ?_, hrp.eq hp hot.1 (fun c c1 c2 => f3 c (by omega) (by omega))⟩
    · rw [f3 _ (by omega) (by omega), hvl _ (by omega)]; exact hg.1 j hj
    · rw [f3 _ (by omega) (by omega), hvl _ (by omega)]; exact hg.2 j hj
    · by_cases e : k = t
      · subst e
        refine ⟨⟨?_, fun e he => ?_, fun e he => ?_⟩, ⟨fun _ => ⟨fTm _ (by omega), fTm _ (by omega)⟩, fun h1 => by omega⟩, ⟨fun _ => fTm _ (by omega), fun y hy hyt => absurd hyt ((a4 y).mp hy).2⟩, ⟨fun y hy hyt => absurd hyt ((a4 y).mp hy).2, fun _ => fTm _ (by omega)⟩, fun _ => ?_, fun y hy hyt => absurd hyt ((a4 y).mp hy).2⟩
        · rw [fTk _ (by omega) (by omega) (by omega) (by omega)]; exact hks.1
        · have hk1 := hks.2.1 e he
          simp only [tf, List.mem_cons, List.not_mem_nil, or_false] at he
          rcases he with rfl | rfl | rfl | rfl | rfl | rfl | rfl | rfl | rfl | rfl
          · rw [vs_at]; exact fT1
          · rw [hv _ (by omega) (by omega), if_neg (by omega), if_neg (by omega), fTk _ (by omega) (by omega) (by omega) (by omega)]; exact hk1
          · rw [hv _ (by omega) (by omega), if_neg (by omega), if_neg (by omega), fTk _ (by omega) (by omega) (by omega) (by omega)]; exact hk1
          · rw [hv _ (by omega) (by omega), if_neg (by omega), if_pos (by omega)]; exact fTz _ (by omega)
          · rw [hv _ (by omega) (by omega), if_neg (by omega), if_pos (by omega)]; exact fTz _ (by omega)
          · rw [hv _ (by omega) (by omega), if_neg (by omega), if_neg (by omega), fTk _ (by omega) (by omega) (by omega) (by omega)]; exact hk1
          · rw [hv _ (by omega) (by omega), if_pos (by omega)]; exact fTm _ (by omega)
          · rw [hv _ (by omega) (by omega), if_neg (by omega), if_pos (by omega)]; exact fTz _ (by omega)
          · rw [hv _ (by omega) (by omega), if_pos (by omega)]; exact fTm _ (by omega)
          · rw [hv _ (by omega) (by omega), if_neg (by omega), if_neg (by omega), fTk _ (by omega) (by omega) (by omega) (by omega)]; exact hk1
        · have hk1 := hks.2.2 e he
          have ep := ts_p e he
          have hne : e.2 ≠ 3975 ∧ e.2 ≠ 3989 ∧ e.2 ≠ 3961 ∧ e.2 ≠ 3954 ∧ e.2 ≠ 4066 ∧ e.2 ≠ 3996 ∧ e.2 ≠ 3926 := by
            have : ∀ e ∈ ts, e.2 ≠ 3975 ∧ e.2 ≠ 3989 ∧ e.2 ≠ 3961 ∧ e.2 ≠ 3954 ∧ e.2 ≠ 4066 ∧ e.2 ≠ 3996 ∧ e.2 ≠ 3926 := by decide
            exact this e he
          rw [hv _ (by omega) (by omega), if_neg (by omega), if_neg (by omega), f3 _ (by omega) (by omega)]; exact hk1
        · rw [hv _ (by omega) (by omega), if_neg (by omega), if_neg (by omega), fTk _ (by omega) (by omega) (by omega) (by omega)]; exact hkg
      · refine (hoth k hk e).ot hot hk e (hf k hk) ⟨f3 _ (by omega) (by omega), f3 _ (by omega) (by omega)⟩ (fun y hy => ?_) (fun y hy hyt => ⟨by rw [f3p _ (by omega), a5], by rw [f3p _ (by omega), a6]⟩)
        rw [a4]
        exact ⟨fun q => q.1, fun q => ⟨q, hy⟩⟩
    · rw [f3 _ (by omega) (by omega)]
      exact VM_vs (Or.inr (by omega)) hvm
  have hp1 : Ipr (vs (vga V t) (3926 + t) st).1 := hp.ww hot.1
  have hf1 : VFR (vs (vga V t) (3926 + t) st) := fun k hk i hi => by
    show ((vga V t).2.2.2 k i).1 < 10
    rw [vga_2]
    refine hf k hk i ?_
    have hi : i < (vga V t).2.2.1 k := hi
    rw [vga_2] at hi
    by_cases e : k = t
    · subst e
      have : i < 0 := by simpa [mj_upd_self] using hi
      omega
    · have hi : i < mj_upd V.2.2.1 t 0 k := hi
      rw [mj_upd_ne e] at hi
      exact hi
  obtain ⟨s4, c1, c2, c3, c4⟩ := c_addn h0 hx hp1 hf1 ht (k := k) (by omega) (v := 1)
  have hto3 : TO b t s s3 := ⟨fun k hk hne => ⟨f3 _ (by omega) (by omega), f3 _ (by omega) (by omega)⟩, fun c hc => f3 c (by omega) (by omega)⟩
  obtain ⟨r, s5, w1, w2⟩ := c_write (b := b) (s := s4) (i1 := if st = 3 then 9 else 8) (i2 := s4 (b + 17 + 2 * t) 0) (i3 := -1) (i4 := -1)
  have hp2 : Ipr (vcn (vs (vga V t) (3926 + t) st) k 1).1 := Ipr.vs1 hp1 (by omega)
  refine ⟨s5, zs1, fr1, ?_, (c2.lf hx w2).v hx hp2 hf1 (by omega), (hto3.trans c3).trans (TO.lf w2)⟩
  unfold gX2_end
  rw [a1, cl_some, d1, cl_some, wr_eq, hs3]
  unfold gX2_end_32 gX2_end_55
  rcases hst with ⟨rfl, rfl⟩ | ⟨rfl, rfl⟩
  · have c1 : gX9_add b (b + 17 + 2 * t) s3 0 1 = some ((), s4) := c1
    rw [if_pos rfl] at w1
    rw [if_neg (by decide), c1, cl_some, if_neg (by decide), w1, cl_some]
  · have c1 : gX9_add b (b + 17 + 2 * t) s3 1 1 = some ((), s4) := c1
    rw [if_neg (by decide)] at w1
    rw [if_pos (by decide), c1, cl_some, if_pos (by decide), w1, cl_some]
/-- out -/
theorem c_out (h : RC b lim s V zs fr) (hx : CX b lim) (hj : VJ lim V) (ht : t < 6) (hn : V.1 (4066 + t) = nI np) (hnp : np ≤ 256) (hit : Itp V.2.1 t np) (hst : V.1 (3926 + t) ≠ 0) (hsd : V.1 (3989 + t) = -1 ∨ ∃ k, k < 3 ∧ V.1 (3989 + t) = nI k ∧ V.1 (3923 + k) = nI t) : ∃ s' zs' fr', gX2_end b (b + 17 + 2 * t) s 4 = some ((), s') ∧ RC b lim s' (vot V t) zs' fr' ∧ TO b t s s' := by
  have hsd' : V.1 (3989 + t) = -1 ∨ ∃ k, k < 3 ∧ V.1 (3989 + t) = nI k := by
    rcases hsd with e | ⟨k, e1, e2, -⟩
    · exact Or.inl e
    · exact Or.inr ⟨k, e1, e2⟩
  exact c_end (V := V) (st := 4) (k := 1) (Or.inr ⟨rfl, rfl⟩) hx ht hj.1 hj.vfr h.2.1 h.1 hj.2.1 hj.2.2.1 hit hnp (h.ch ht hn) rfl h.2.2.1 (fun k hk _ => h.2.2.2.1 k hk) (h.2.2.2.1 t ht).1 ((h.2.2.2.1 t ht).2.2.2.2.1 hst) (VM.ga hj ht h.2.2.2.2.1 hsd') h.2.2.2.2.2 hsd
end
end
section
/-! ===== the class: room for a call ===== -/
section
variable {b lim : Nat} {s s' : wt_S} {V V' : vV} {zs zs' : List (vP × Nat)} {fr fr' : List Nat} {t np z need k : Nat}
theorem c_lastCovered (h : RC b lim s V zs fr) (hx : CX b lim) (hj : VJ lim V) (hc : Ico V t np) (ht : t < 6) : gX9_lastCovered b (b + 17 + 2 * t) s = some (rb (vlc V t = true), s) := by
  have hxm := hx.m
  obtain ⟨hn, -⟩ := hc.n hj hx.2.2
  have e4 : s (b + 17 + 2 * t) 4 = nI (V.2.2.1 t) := by rw [h.at ht (e := (4, 3954)) (by decide)]; exact hc.1
  unfold gX9_lastCovered vlc
  rw [e4, nI_int (by omega), ci0]
  by_cases c : V.2.2.1 t = 0
  · rw [if_pos (by omega), rb_neg (by simp [c])]
  · rw [if_neg (by omega)]
    have h0 : 0 < V.2.2.1 t := by omega
    have e11 := ((h.2.2.2.1 t ht).2.1.2 h0).2
    have hfit := hj.fit ht (show V.2.2.1 t - 1 < V.2.2.1 t by omega)
    have hM := (h.2.2.2.2.1 t ht (V.2.2.1 t - 1) (by omega)).2.2.1
    obtain ⟨-, -, ff, -⟩ := hc.2.2.2.2.2.2.1 h0
    have hbk := ff.bk (show V.2.2.1 t - 1 < V.2.2.1 t by omega)
    have hw : 2 ≤ vwd V.1 (V.2.2.2 t (V.2.2.1 t - 1)).1 := by unfold vwd; omega
    rw [e11, show nI (vpl V t (V.2.2.1 t - 1)) + 1 = nI (vpl V t (V.2.2.1 t - 1) + 1) from nI_add _ 1, c_word (by omega), cl_some, hM]
    have hq := (bk_at hbk).1
    by_cases c2 : (V.2.2.2 t (V.2.2.1 t - 1)).2.2.2.1 / 1024 % 2 = 0
    · rw [if_pos (hq.mpr c2), rb_neg (by simp; omega)]
    · rw [if_neg (fun e => c2 (hq.mp e)), rb_pos (by simp; omega)]
theorem c_roomc {f z2 : Nat} (h : RC b lim s V zs fr) (hx : CX b lim) (hp : Ipr V.1) (hv : VFR V) (hf : f < 10) (hs1 : 1 ≤ vsz V.1 f) (hmg : V.1 2050 = 0 ∨ V.1 2050 = 1) (hr : V.1 2051 = nI z2) (hz2 : z2 ≤ 80) {T : Nat} : gX2_roomFor_150 b T s (nI f) = some (if vmg V.1 f = true then 1024 else 0, s) := by
  unfold gX2_roomFor_150
  rw [c_covers h.2.2.2.2.2 h.2.2.1 hp hf hs1 hmg hr hz2, cl_some, if_rb]
  by_cases c : vmg V.1 f = true
  · rw [if_pos c, if_pos c]
  · rw [if_neg c, if_neg c]
theorem c_room {f z2 : Nat} (h : RC b lim s V zs fr) (hx : CX b lim) (hP : Vpre lim V t np z) (hf : f < 10) (hs1 : 1 ≤ vsz V.1 f) (hmg : V.1 2050 = 0 ∨ V.1 2050 = 1) (hr : V.1 2051 = nI z2) (hz2 : z2 ≤ 80) (hk : V.1 2067 = nI k) (hst : V.1 (3926 + t) ≠ 0) (hsd : V.1 (3989 + t) = -1 ∨ ∃ k, k < 3 ∧ V.1 (3989 + t) = nI k ∧ V.1 (3923 + k) = nI t) :
    ∃ s' zs' fr', gX2_roomFor b (b + 17 + 2 * t) s (nI f) = some (if vlc V t = true then 1024 else if (vrm lim V t f).1 = true then (if vmg V.1 f = true then 1024 else 0) else -1, s') ∧ RC b lim s' (if vlc V t = true then vcn V 11 1 else (vrm lim V t f).2) zs' fr' ∧ TO b t s s' := by
  have hb := hx.b
  have hxm := hx.m
  obtain ⟨hj, hc, ht, hz, h8, hzl, hl, hl2, hq⟩ := hP
  obtain ⟨n1, n2, n3⟩ := hc.mn
  unfold gX2_roomFor
  rw [c_lastCovered h hx hj hc ht, cl_some, if_rb]
  by_cases cv : vlc V t = true
  · simp only [if_pos cv]
    obtain ⟨s1, a1, a2, a3, -⟩ := c_addn h hx hj.1 hj.vfr ht (k := 11) (by omega) (v := 1)
    have a1 : gX9_add b (b + 17 + 2 * t) s 11 1 = some ((), s1) := a1
    rw [a1, cl_some]
    exact ⟨s1, zs, fr, rfl, a2, a3⟩
  simp only [if_neg cv]
  have hnc := (vlc_iff hj hc).1 (by simpa using cv)
  have hnd1 := vnd_ge hj.1 hf
  have hnd2 := vnd_le hj.1 hf
  have hwd : 2 ≤ vwd V.1 f := by unfold vwd; omega
  rw [c_needOf h.2.2.2.2.2 h.2.2.1 hj.1 hf hs1 hmg hr hz2, cl_some]
  obtain ⟨s1, a1, a2, a3, -⟩ := c_adds h hx hj.1 hj.vfr ht (e := (3, 4003)) (by decide) (v := 1)
  have a1 : gX9_add b (b + 17 + 2 * t) s 3 1 = some ((), s1) := a1
  have a2 : RC b lim s1 (vcn (vinc V (4003 + t)) 3 1) zs fr := a2
  rw [a1, cl_some]
  have hmax : ∀ (s : wt_S) (x y : Int32), ∃ v, gJ9_max_7cf53 s x y = some (v, s) := fun s x y => by
    unfold gJ9_max_7cf53
    split
    · exact ⟨y, rfl⟩
    · exact ⟨x, rfl⟩
  obtain ⟨v, hv⟩ := hmax s1 (s1 (b + 17 + 2 * t) 14) (s1 (b + 17 + 2 * t) 5 + nI (vnd V.1 f))
  rw [hv, cl_some, wr_eq]
  have hP1 : Vpre lim (vcn (vinc V (4003 + t)) 3 1) t np z := Vpre.vs (V := vinc V (4003 + t)) (Vpre.vs ⟨hj, hc, ht, hz, h8, hzl, hl, hl2, hq⟩ (by omega) (by omega)) (by omega) (by omega)
  have hw1 : vpe V.1 (vcn (vinc V (4003 + t)) 3 1).1 := (vpe.upd (by omega)).trans (vpe.upd (by omega))
  have hp1 := hj.1.ww hw1
  have hf1 : VFR (vcn (vinc V (4003 + t)) 3 1) := hj.vfr
  have b1 := a2.ux hx hp1 hf1 ht (c := b + 17 + 2 * t) (j := 14) (v := v) (Or.inl ⟨rfl, rfl⟩)
  have bto : TO b t s (wt_u s1 (b + 17 + 2 * t) 14 v) := a3.trans (TO.u (by omega) ht)
  generalize wt_u s1 (b + 17 + 2 * t) 14 v = s2 at *
  have hV1 : ∀ i, i ≠ 4003 + t → i ≠ 2057 → (vcn (vinc V (4003 + t)) 3 1).1 i = V.1 i := fun i i1 i2 => by rw [vcn_ne (by omega), vinc_ne i1]
  -- the last piece
  obtain ⟨x, y, -, y2, y3, y4, y5, y6, -, -⟩ := zfind (t := t) (n := np - 1) h.1 hj.2.2.1 (hc.2.2.2.1.1 (np - 1) (by omega))
  have hch := b1.ch ht (np := np) (by rw [hV1 _ (by omega) (by omega)]; exact n1)
  have e12 := hch.1.2 y y2 y3 (by omega)
  obtain ⟨i1, -, i3, -⟩ := b1.2.1.mem y2
  have e5 := ((b1.2.2.2.1 t ht).2.2.2.2.2 y y2 y3).1
  have e5 : s2 (b + 5) y.2 = nI (vud V.1 (V.2.2.2 t) (np - 1) (V.2.2.1 t)) := by
    rw [e5, y4]
    show nI (vud (vcn (vinc V (4003 + t)) 3 1).1 (V.2.2.2 t) (np - 1) (V.2.2.1 t)) = _
    rw [vud_pe hw1 (hj.vfr t ht)]
  have hyo := (hj.2.1.2 y.1 (h.mem y2)).2.1
  have hud : vud V.1 (V.2.2.2 t) (np - 1) (V.2.2.1 t) ≤ y.1.2.1 := by
    by_cases c : V.2.2.1 t = 0
    · rw [c, vud]; omega
    · obtain ⟨g, p, -⟩ := hc.2.2.2.2.2.2.1 (by omega)
      have h1 := g.ud (V.2.2.1 t - 1) (by omega)
      have h2 := (g.1 (V.2.2.1 t - 1) (by omega)).2
      rw [p, show V.2.2.1 t - 1 + 1 = V.2.2.1 t by omega] at h1
      rw [p, y6] at h2
      omega
  have htv : vtop V t = y.1.1 + vud V.1 (V.2.2.2 t) (np - 1) (V.2.2.1 t) := by rw [hc.top, y5]
  have hvend : vend V t = y.1.1 + y.1.2.1 := by unfold vend; rw [vnp_of n1 n3, y5, y6]
  rw [e12, c_wordsOf i1, cl_some, e12, c_usedOf i1, cl_some, i3, e5, nI_sub hud, nI_int (by omega), nI_int (by omega)]
  have hcov := fun (s : wt_S) (V1 : vV) (zs : List (vP × Nat)) (fr : List Nat) (h1 : RC b lim s V1 zs fr) (hw : vpe V.1 V1.1) (hv1 : VFR V1) => c_roomc (T := b + 17 + 2 * t) h1 hx (hj.1.ww hw) hv1 hf (by rw [(hw.sz hf).1]; exact hs1) (by rw [hw _ (Or.inr (Or.inl rfl))]; exact hmg) (by rw [hw _ (Or.inr (Or.inr rfl))]; exact hr) hz2
  unfold vrm
  rw [htv, hvend]
  by_cases c : y.1.1 + vud V.1 (V.2.2.2 t) (np - 1) (V.2.2.1 t) + vnd V.1 f ≤ y.1.1 + y.1.2.1
  · simp only [if_pos c]
    rw [if_pos (by omega), hcov _ _ _ _ b1 hw1 hf1, (hw1.mg hj.1 hf).1]
    exact ⟨s2, zs, fr, by rw [if_pos trivial], b1, bto⟩
  · simp only [if_neg c]
    rw [if_neg (by omega)]
    have hkk : (vcn (vinc V (4003 + t)) 3 1).1 2067 = nI k := by rw [hV1 _ (by omega) (by omega)]; exact hk
    have hneed : 1 ≤ vnd V.1 f ∧ vnd V.1 f ≤ 100 := ⟨by omega, hnd2⟩
    obtain ⟨v1, v2, v3, -, v5, np2, v6, v7⟩ := vgr_inv (need := vnd V.1 f) hP1 hneed hkk hnc
    have hw2 : vpe V.1 (vgr lim (vcn (vinc V (4003 + t)) 3 1) t (vnd V.1 f)).2.1 := hw1.trans (fun i hi => v5 i (fun h => by unfold vgs at h; omega))
    -- what both ways of growing come to
    have key : ∀ s3 zs3 fr3, RC b lim s3 (vgr lim (vcn (vinc V (4003 + t)) 3 1) t (vnd V.1 f)).2 zs3 fr3 → TO b t s2 s3 → ∃ s' zs' fr', gX2_roomFor_135 b (b + 17 + 2 * t) s3 (nI f) (rb ((vgr lim (vcn (vinc V (4003 + t)) 3 1) t (vnd V.1 f)).1 = true)) = some (if (match vgr lim (vcn (vinc V (4003 + t)) 3 1) t (vnd V.1 f) with
        | (true, V2) => (true, V2)
        | (false, V2) => (false, vot V2 t)).1 = true then (if vmg V.1 f = true then 1024 else 0) else -1, s') ∧ RC b lim s' (match vgr lim (vcn (vinc V (4003 + t)) 3 1) t (vnd V.1 f) with
        | (true, V2) => (true, V2)
        | (false, V2) => (false, vot V2 t)).2 zs' fr' ∧ TO b t s s' := by
      intro s3 zs3 fr3 hR hto
      have hvf : VFR (vgr lim (vcn (vinc V (4003 + t)) 3 1) t (vnd V.1 f)).2 := v1.vfr
      have hcv := hcov _ _ _ _ hR hw2 hvf
      generalize hres : vgr lim (vcn (vinc V (4003 + t)) 3 1) t (vnd V.1 f) = res at *
      obtain ⟨bb, V2⟩ := res
      unfold gX2_roomFor_135
      rw [if_rbn]
      cases bb with
      | true =>
        rw [if_pos rfl, hcv, (hw2.mg hj.1 hf).1]
        exact ⟨s3, zs3, fr3, by simp, hR, bto.trans hto⟩
      | false =>
        rw [if_neg (by simp)]
        have g1 : ∀ i, ¬ vgs t i → V2.1 i = (vcn (vinc V (4003 + t)) 3 1).1 i := v5
        have e26 : V2.1 (3926 + t) = V.1 (3926 + t) := by rw [g1 _ (fun h => by unfold vgs at h; omega), hV1 _ (by omega) (by omega)]
        have e89 : V2.1 (3989 + t) = V.1 (3989 + t) := by rw [g1 _ (fun h => by unfold vgs at h; omega), hV1 _ (by omega) (by omega)]
        have e23 : ∀ k, k < 3 → V2.1 (3923 + k) = V.1 (3923 + k) := fun k hk => by rw [g1 _ (fun h => by unfold vgs at h; omega), hV1 _ (by omega) (by omega)]
        obtain ⟨s4, zs4, fr4, o1, o2, o3⟩ := c_out hR hx v1 ht v6.2.1 v6.2.2.1.2 v6.2.2.2.1 (by rw [e26]; exact hst) (by
          rw [e89]
          rcases hsd with e | ⟨k, k1, k2, k3⟩
          · exact Or.inl e
          · exact Or.inr ⟨k, k1, k2, by rw [e23 k k1]; exact k3⟩)
        rw [o1, cl_some]
        exact ⟨s4, zs4, fr4, by simp, o2, (bto.trans hto).trans o3⟩
    have e2 : s2 (b + 17 + 2 * t) 2 = V.1 (3933 + t) := by rw [b1.at ht (e := (2, 3933)) (by decide), hV1 _ (by omega) (by omega)]
    have eu : s2 (b + 17 + 2 * t) 5 = nI (vus V.1 (V.2.2.2 t) (V.2.2.1 t)) := by rw [b1.at ht (e := (5, 3961)) (by decide), hV1 _ (by omega) (by omega)]; exact hc.2.2.2.2.2.1
    rw [e2]
    rcases hc.2.2.2.2.1 with hm | hm
    · have hnp := hm.2.1
      subst hnp
      rw [hm.1, if_pos (by decide), eu]
      have hm1 : (vcn (vinc V (4003 + t)) 3 1).1 (3933 + t) = 0 := by rw [hV1 _ (by omega) (by omega)]; exact hm.1
      obtain ⟨W, s3, zs3, fr3, d1, d2, d3, d4⟩ := c_growc b1 hx hP1 hm1 hneed
      have d1 : gX4_doubled s2 (2 * nI (vln V.2.1 t 0)) (nI (vus (vcn (vinc V (4003 + t)) 3 1).1 (V.2.2.2 t) (V.2.2.1 t)) + nI (vnd V.1 f)) = some (nI W, s2) := d1
      rw [(hw1.us (k := 0) (fun i hi => (hj.fit ht hi).1)).1, show vln V.2.1 t 0 = y.1.2.1 from y6] at d1
      rw [d1, cl_some, d2, cl_some]
      exact key s3 zs3 fr3 d3 d4
    · rw [hm, if_neg (by decide)]
      have hm1 : (vcn (vinc V (4003 + t)) 3 1).1 (3933 + t) = 1 := by rw [hV1 _ (by omega) (by omega)]; exact hm
      obtain ⟨s3, zs3, fr3, d1, d2, d3⟩ := c_link b1 hx hP1 hm1 hneed
      rw [d1, cl_some]
      exact key s3 zs3 fr3 d2 d3
end
end
