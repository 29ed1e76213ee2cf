/-! ===== the class: a copied stack moves, its words and its piece ===== -/
section
variable {b lim : Nat} {s s' : wt_S} {V V' : vV} {zs zs' : List (vP × Nat)} {fr fr' : List Nat} {t np z need : Nat}
theorem zuniq {ps : List vP} (h : zs.map Prod.fst = ps) (hu : ps.Pairwise (fun p q => ¬ (p.2.2.1 = q.2.2.1 ∧ p.2.2.2 = q.2.2.2))) {y z : vP × Nat} (hy : y ∈ zs) (hz : z ∈ zs) (h1 : y.1.2.2.1 = z.1.2.2.1) (h2 : y.1.2.2.2 = z.1.2.2.2) : y = z := by
  obtain ⟨i, hi⟩ := List.getElem?_of_mem hy
  obtain ⟨x, hx⟩ := List.getElem?_of_mem hz
  rw [← h, List.pairwise_iff_getElem] at hu
  have l1 := (List.getElem?_eq_some_iff.mp hi).1
  have l2 := (List.getElem?_eq_some_iff.mp hx).1
  rcases Nat.lt_trichotomy i x with c | c | c
  · have := hu i x (by rw [List.length_map]; exact l1) (by rw [List.length_map]; exact l2) c
    rw [List.getElem_map, List.getElem_map, (List.getElem?_eq_some_iff.mp hi).2, (List.getElem?_eq_some_iff.mp hx).2] at this
    exact absurd ⟨h1, h2⟩ this
  · subst c
    exact Option.some.inj (hi.symm.trans hx)
  · have := hu x i (by rw [List.length_map]; exact l2) (by rw [List.length_map]; exact l1) c
    rw [List.getElem_map, List.getElem_map, (List.getElem?_eq_some_iff.mp hi).2, (List.getElem?_eq_some_iff.mp hx).2] at this
    exact absurd ⟨h1.symm, h2.symm⟩ this
/-- another number -/
def vre0 (t : Nat) (p : vP) : vP := if p.2.2.1 = t ∧ p.2.2.2 = 5000 then (p.1, p.2.1, p.2.2.1, 0) else p
theorem vre0_p {p : vP} : (vre0 t p).1 = p.1 ∧ (vre0 t p).2.1 = p.2.1 ∧ (vre0 t p).2.2.1 = p.2.2.1 := by
  unfold vre0; split <;> exact ⟨rfl, rfl, rfl⟩
theorem vre0_n {p : vP} (h : p.2.2.1 = t → p.2.2.2 ≠ 5000) : vre0 t p = p := if_neg (fun e => h e.1 e.2)
/-- the picture as the words lie elsewhere, before anything is counted -/
def vmw (V : vV) (t g words : Nat) : vV := vps (vs V (3982 + t) (if V.2.2.1 t = 0 then V.1 (3982 + t) else nI (g + (V.2.2.2 t (V.2.2.1 t - 1)).2.2.1))) (vins (g, words, t, 0) (V.2.1.filter (fun q => !vkey t 0 q)))
theorem c_move1 (h : RC b lim s V zs fr) (hx : CX b lim) (hj : VJ lim V) (hc : Ico V t 1) (ht : t < 6) (hm : V.1 (3933 + t) = 0) {words g : Nat} {lg : Int32} (hw : 1 ≤ words ∧ words < 100000) (hu : vus V.1 (V.2.2.2 t) (V.2.2.1 t) ≤ words) (hlen : zs.length < 256) (hg : vgap lim 0 V.2.1 words = some g) :
    ∃ id s1 zs' fr', id < 256 ∧ gX4_moveInto b (b + 17 + 2 * t) s (nI words) lg = (wt_cl (gX9_add b (b + 17 + 2 * t) s1 5 (s1 (b + 17 + 2 * t) 5)) fun _ s11 => (if lg ≠ (0 : Int32) then gX4_moveInto_114 b (b + 17 + 2 * t) s11 lg (nI id) 7 else gX4_moveInto_114 b (b + 17 + 2 * t) s11 lg (nI id) 4)) ∧ RC b lim s1 (vmw V t g words) zs' fr' ∧ TO b t s s1 := by
  have hb := hx.b
  have hxm := hx.m
  obtain ⟨k1, k2, k3, k4, k5, k6⟩ := h.2.2.2.1 t ht
  obtain ⟨n1, -, -⟩ := hc.mn
  obtain ⟨hnf, hul⟩ := hc.n hj hx.2.2
  have hnos : ∀ q ∈ V.2.1, ¬ (q.2.2.1 = t ∧ q.2.2.2 = 1000) := by
    rcases hc.2.2.2.2.1 with e | e
    · exact e.2.2
    · rw [hm] at e; exact absurd e (by decide)
  have hnum : ∀ q ∈ V.2.1, q.2.2.1 = t → q.2.2.2 = 0 := fun q hq hqt => by
    rcases hc.num hq hqt with e | e
    · omega
    · exact absurd ⟨hqt, e⟩ (hnos q hq)
  obtain ⟨x, z, x1, x2, x3, x4, x5, x6, -, -⟩ := zfind h.1 hj.2.2.1 (hc.2.2.2.1.1 0 (by omega))
  have hzm := h.mem x2
  have hzo := hj.2.1.2 z.1 hzm
  obtain ⟨hid, -, -, -⟩ := h.2.1.mem x2
  have hlast : s (b + 17 + 2 * t) 12 = nI z.2 := k3.2 z x2 x3 (by rw [n1, x4])
  have hgg := vgap0 hj.2.1 hg
  -- the frames lie in this piece
  have hpc : ∀ i, i < V.2.2.1 t → (V.2.2.2 t i).2.1 = 0 := fun i hi => by
    obtain ⟨gg, -⟩ := hc.2.2.2.2.2.2.1 (by omega)
    have := (gg.1 i hi).1; omega
  have hof : ∀ i, i < V.2.2.1 t → (V.2.2.2 t i).2.2.1 + vwd V.1 (V.2.2.2 t i).1 ≤ vus V.1 (V.2.2.2 t) (V.2.2.1 t) ∧ (V.2.2.2 t i).2.2.1 + vwd V.1 (V.2.2.2 t i).1 ≤ z.1.2.1 := fun i hi => by
    obtain ⟨gg, -⟩ := hc.2.2.2.2.2.2.1 (by omega)
    have h2 := (gg.1 i hi).2
    rw [hpc i hi, x6] at h2
    refine ⟨?_, h2⟩
    rw [gg.one i hi]
    have := vus_mono (w := V.1) (fr := V.2.2.2 t) (show i + 1 ≤ V.2.2.1 t by omega)
    rw [vus] at this
    exact this
  have hpl : ∀ i, i < V.2.2.1 t → vpl V t i = z.1.1 + (V.2.2.2 t i).2.2.1 := fun i hi => by unfold vpl; rw [hpc i hi, x5]
  have huz : vus V.1 (V.2.2.2 t) (V.2.2.1 t) ≤ z.1.2.1 := by
    by_cases c : V.2.2.1 t = 0
    · rw [c, vus]; omega
    · obtain ⟨gg, -⟩ := hc.2.2.2.2.2.2.1 (by omega)
      have h2 := (hof (V.2.2.1 t - 1) (by omega)).2
      rw [gg.one _ (by omega)] at h2
      have : vus V.1 (V.2.2.2 t) (V.2.2.1 t) = vus V.1 (V.2.2.2 t) (V.2.2.1 t - 1) + vwd V.1 (V.2.2.2 t (V.2.2.1 t - 1)).1 := by
        have e : V.2.2.1 t = (V.2.2.1 t - 1) + 1 := by omega
        rw [e, vus, Nat.add_sub_cancel]
      omega
  have hus : V.1 (3961 + t) = nI (vus V.1 (V.2.2.2 t) (V.2.2.1 t)) := hc.2.2.2.2.2.1
  have hvu : vud V.1 (V.2.2.2 t) 0 (V.2.2.1 t) = vus V.1 (V.2.2.2 t) (V.2.2.1 t) := vud_us hpc
  generalize hU : vus V.1 (V.2.2.2 t) (V.2.2.1 t) = u at *
  -- taken
  obtain ⟨id, fr1, y, s1, -, i1, i2, i3, i4, i5, i6, i7, i8, i9⟩ := (c_take (un := -1) (t := t) h.2.1 (by rw [h.1]; exact hj.2.1) hw hx.2.2).2 g hlen (by rw [h.1]; exact hg)
  obtain ⟨j1, j2⟩ := i9 5000
  rw [h.1] at j2
  have hzid : z.2 ≠ id := i2 z x2
  have hmem : ∀ y', y' ∈ zs.insertIdx y ((g, words, t, 5000), id) ↔ y' = ((g, words, t, 5000), id) ∨ y' ∈ zs := fun y' => List.mem_insertIdx i4
  generalize hz5 : zs.insertIdx y ((g, words, t, 5000), id) = zs5 at *
  have ho5 : vo lim (zs5.map Prod.fst) := by
    rw [j2]
    exact vo_ins hj.2.1 ⟨hw.1, hgg.1, ht, by show (5000 : Nat) < 4294967296; omega⟩ hgg.2
  have hu5 : (zs5.map Prod.fst).Pairwise (fun p q => ¬ (p.2.2.1 = q.2.2.1 ∧ p.2.2.2 = q.2.2.2)) := by
    rw [j2]
    refine vkeys_pw (fun p q hpq e => hpq ⟨e.1.symm, e.2.symm⟩) hj.2.2.1 (fun p hp e => ?_)
    have e1 : t = p.2.2.1 := e.1
    have e2 : (5000 : Nat) = p.2.2.2 := e.2
    have := hnum p hp e1.symm
    omega
  have hn5 : ((g, words, t, 5000), id) ∈ zs5 := (hmem _).mpr (Or.inl rfl)
  have hz5m : z ∈ zs5 := (hmem _).mpr (Or.inr x2)
  have p3 : s1 (b + 3) id = nI g := (j1.mem hn5).2.1
  have p3z : s1 (b + 3) z.2 = nI z.1.1 := (j1.mem hz5m).2.1
  -- aimed
  generalize hs2 : wt_u s1 (b + 9) z.2 (nI g - nI z.1.1) = s2
  have f2 : ∀ c, c ≠ b + 9 → s2 c = s1 c := fun c hc => by rw [← hs2]; exact wt_u_ne hc
  have f2z : s2 (b + 9) z.2 = nI g - nI z.1.1 := by rw [← hs2]; exact wt_u_self
  have hT2 : s2 (b + 17 + 2 * t) = s (b + 17 + 2 * t) := by rw [f2 _ (by omega), i8 _ (by omega)]
  have hM2 : s2 (b + 15) = s (b + 15) := by rw [f2 _ (by omega), i8 _ (by omega)]
  have e4 : s2 (b + 17 + 2 * t) 4 = nI (V.2.2.1 t) := by rw [hT2, k1.2.1 (4, 3954) (by decide)]; exact hc.1
  have e11 : s2 (b + 17 + 2 * t) 11 = if V.2.2.1 t = 0 then -1 else nI (vpl V t (V.2.2.1 t - 1)) := by
    rw [hT2]
    by_cases c : V.2.2.1 t = 0
    · rw [if_pos c]; exact (k2.1 c).2
    · rw [if_neg c]; exact (k2.2 (by omega)).2
  have e9 : 0 < V.2.2.1 t → s2 (b + 17 + 2 * t) 9 = nI (V.2.2.2 t (V.2.2.1 t - 1)).1 := fun h0 => by
    rw [hT2, k1.2.1 (9, 3975) (by decide)]
    exact (hc.2.2.2.2.2.2.1 h0).2.2.2.2
  have hGC : GC b s2 V.1 (V.2.2.1 t) (V.2.2.2 t) (vpl V t) (fun i => g + (V.2.2.2 t i).2.2.1) := by
    intro s' hs' i hi j hj2
    have hP' : PC b lim s' zs5 fr1 := j1.eq (fun c hc => by rw [hs' c (by omega) (by omega), f2 c (by omega)])
    have h1 := (hof i hi).2
    have h2 := hpl i hi
    rw [c_turned hP' ho5 hx.2.2 hz5m ⟨by omega, by omega⟩, hs' _ (by omega) (by omega), f2z, nI_turn (by omega), h2, show g + (z.1.1 + (V.2.2.2 t i).2.2.1 + j - z.1.1) = g + (V.2.2.2 t i).2.2.1 + j by omega]
  have hRP2 : RP 5 s2 V.1 := h.2.2.2.2.2.eq hj.1 vpe.refl (fun c c1 c2 => by rw [f2 _ (by omega), i8 _ (by omega)])
  obtain ⟨s3, t1, t2, t3, t4, t5⟩ := c_turns (s := s2) hx (T := b + 17 + 2 * t) (by omega) (by omega) e4 e11 e9 (fun h0 => TH.of hj ht h0) hGC hRP2 (by rw [hM2]; exact h.2.2.2.2.1.q ht)
  have g3 : ∀ c, b + 2 ≤ c → c ≤ b + 8 → s3 c = s1 c := fun c h1 h2 => by rw [t2 c (by omega) (by omega) (by omega), f2 c (by omega)]
  -- brought over
  have u3 : s3 (b + 5) z.2 = nI u := by
    rw [g3 _ (by omega) (by omega), i5, mj_upd_ne hzid, (k6 z x2 x3).1, x4, hvu]
  obtain ⟨s4, b1, b2, b3, b4⟩ := c_bring (s := s3) (b := b) (from' := z.1.1) (to := g) (u := u) hx (by omega) (by omega)
  have hbr : gX4_bringOver b s3 (nI z.2) = some ((), s4) := by
    unfold gX4_bringOver
    rw [c_placeOf hid, cl_some, c_shiftOf hid, cl_some, c_usedOf hid, cl_some, u3, g3 _ (by omega) (by omega), p3z, t2 (b + 9) (by omega) (by omega) (by omega), f2z, nI_turn (Nat.le_refl _), Nat.sub_self, Nat.add_zero, b1, cl_some]
  have hT4 : s4 (b + 17 + 2 * t) = mj_upd (s (b + 17 + 2 * t)) 11 (if V.2.2.1 t = 0 then -1 else nI (g + (V.2.2.2 t (V.2.2.1 t - 1)).2.2.1)) := by
    rw [b2 _ (by omega), t3, hT2]
  have e45 : s4 (b + 17 + 2 * t) 5 = nI u := by
    rw [hT4, mj_upd_ne (by omega), k1.2.1 (5, 3961) (by decide)]; exact hus
  have e5i : s4 (b + 5) id = 0 := by rw [b2 _ (by omega), g3 _ (by omega) (by omega), i5, mj_upd_self]
  -- used, given back
  generalize hs5 : wt_u s4 (b + 5) id (nI u) = s5
  have f5 : ∀ c, c ≠ b + 5 → s5 c = s4 c := fun c hc => by rw [← hs5]; exact wt_u_ne hc
  have hP5 : PC b lim s5 zs5 fr1 := j1.eq (fun c hc => by rw [f5 c (by omega), b2 c (by omega), g3 c (by omega) (by omega)])
  obtain ⟨x5', z5, y1, y2, y3, y4, -, -, y5, y6⟩ := zfind (t := t) (n := 0) (rfl : zs5.map Prod.fst = _) hu5 ⟨z.1, List.mem_map.mpr ⟨z, hz5m, rfl⟩, x3, x4⟩
  have hzz : z5 = z := zuniq (rfl : zs5.map Prod.fst = _) hu5 y2 hz5m (y3.trans x3.symm) (y4.trans x4.symm)
  subst hzz
  obtain ⟨s6, q1, q2, q3, q4, q5, q6⟩ := c_give hP5 ho5 hx.2.2 y1
  refine ⟨id, wt_u s6 (b + 17 + 2 * t) 12 (nI id), (zs5.eraseIdx x5').map (fun y => (vre0 t y.1, y.2)), z5.2 :: fr1, i1, ?_, ?_, ?_⟩
  · unfold gX4_moveInto
    rw [k1.1, i3, cl_some, if_pos (nI_m1 (by omega)), c_placeOf i1, cl_some, p3, hlast, c_aimAt hid, cl_some, p3z, hs2, t1, cl_some, hbr, cl_some, c_use i1, cl_some, e5i, e45, Int32.zero_add, hs5, q1, cl_some, wr_eq]
  · have hT7 : ∀ j, j ≠ 11 → j ≠ 12 → wt_u s6 (b + 17 + 2 * t) 12 (nI id) (b + 17 + 2 * t) j = s (b + 17 + 2 * t) j := fun j h1 h2 => by
      rw [wt_u_nk h2, q6 _ (by omega), f5 _ (by omega), hT4, mj_upd_ne h1]
    have h11 : wt_u s6 (b + 17 + 2 * t) 12 (nI id) (b + 17 + 2 * t) 11 = if V.2.2.1 t = 0 then -1 else nI (g + (V.2.2.2 t (V.2.2.1 t - 1)).2.2.1) := by
      rw [wt_u_nk (by omega), q6 _ (by omega), f5 _ (by omega), hT4, mj_upd_self]
    have h12 : wt_u s6 (b + 17 + 2 * t) 12 (nI id) (b + 17 + 2 * t) 12 = nI id := wt_u_self
    have hC : ∀ c, c ≠ b + 17 + 2 * t → wt_u s6 (b + 17 + 2 * t) 12 (nI id) c = s6 c := fun c h1 => wt_u_ne h1
    have hO : ∀ c, ¬ (b + 2 ≤ c ∧ c ≤ b + 9) → c ≠ b + 15 → c ≠ b + 16 → c ≠ b + 17 + 2 * t → wt_u s6 (b + 17 + 2 * t) 12 (nI id) c = s c := fun c h1 h2 h3 h4 => by
      rw [hC c h4, q6 c h1, f5 c (by omega), b2 c h2, t2 c h2 h3 h4, f2 c (by omega), i8 c h1]
    have h5 : ∀ i, i ≠ id → wt_u s6 (b + 17 + 2 * t) 12 (nI id) (b + 5) i = s (b + 5) i := fun i hi => by
      rw [hC _ (by omega), q3, ← hs5, wt_u_nk hi, b2 _ (by omega), g3 _ (by omega) (by omega), i5, mj_upd_ne hi]
    have h5i : wt_u s6 (b + 17 + 2 * t) 12 (nI id) (b + 5) id = nI u := by
      rw [hC _ (by omega), q3, ← hs5, wt_u_self]
    have h6 : ∀ i, i ≠ id → wt_u s6 (b + 17 + 2 * t) 12 (nI id) (b + 6) i = s (b + 6) i := fun i hi => by
      rw [hC _ (by omega), q4, f5 _ (by omega), b2 _ (by omega), g3 _ (by omega) (by omega), i6, mj_upd_ne hi]
    have h6i : wt_u s6 (b + 17 + 2 * t) 12 (nI id) (b + 6) id = -1 := by
      rw [hC _ (by omega), q4, f5 _ (by omega), b2 _ (by omega), g3 _ (by omega) (by omega), i6, mj_upd_self]
    have hMm : wt_u s6 (b + 17 + 2 * t) 12 (nI id) (b + 15) = s4 (b + 15) := by
      rw [hC _ (by omega), q6 _ (by omega), f5 _ (by omega)]
    have hPC7 : PC b lim (wt_u s6 (b + 17 + 2 * t) 12 (nI id)) ((zs5.eraseIdx x5').map (fun y => (vre0 t y.1, y.2))) (z5.2 :: fr1) := (q2.eq (fun c hc => hC c (by omega))).map (fun y _ => ⟨rfl, vre0_p⟩)
    have hto : TO b t s (wt_u s6 (b + 17 + 2 * t) 12 (nI id)) := ⟨fun k hk hne => ⟨hO _ (by omega) (by omega) (by omega) (by omega), hO _ (by omega) (by omega) (by omega) (by omega)⟩, fun c hc => hO c (by omega) (by omega) (by omega) (by omega)⟩
    generalize wt_u s6 (b + 17 + 2 * t) 12 (nI id) = s7 at *
    have hcase : ∀ y', y' ∈ (zs5.eraseIdx x5').map (fun y => (vre0 t y.1, y.2)) ↔ y' = ((g, words, t, 0), id) ∨ (y' ∈ zs ∧ ¬ (y'.1.2.2.1 = t ∧ y'.1.2.2.2 = 0)) := fun y' => by
      rw [List.mem_map]
      constructor
      · rintro ⟨y0, hy0, rfl⟩
        obtain ⟨m1, m2⟩ := (y6 y0).mp hy0
        rcases (hmem y0).mp m1 with rfl | m3
        · left
          show (vre0 t (g, words, t, 5000), id) = _
          unfold vre0
          rw [if_pos ⟨rfl, rfl⟩]
        · right
          have hn : vre0 t y0.1 = y0.1 := vre0_n (fun e e2 => by
            have := hnum _ (h.mem m3) e
            omega)
          show (vre0 t y0.1, y0.2) ∈ zs ∧ _
          rw [hn]
          exact ⟨m3, m2⟩
      · rintro (rfl | ⟨m1, m2⟩)
        · refine ⟨((g, words, t, 5000), id), (y6 _).mpr ⟨hn5, fun e => ?_⟩, ?_⟩
          · have : (5000 : Nat) = 0 := e.2
            omega
          · show (vre0 t (g, words, t, 5000), id) = _
            unfold vre0
            rw [if_pos ⟨rfl, rfl⟩]
        · refine ⟨y', (y6 _).mpr ⟨(hmem _).mpr (Or.inr m1), m2⟩, ?_⟩
          rw [vre0_n (fun e e2 => by
            have := hnum _ (h.mem m1) e
            omega)]
    have hmap : ((zs5.eraseIdx x5').map (fun y => (vre0 t y.1, y.2))).map Prod.fst = vins (g, words, t, 0) (V.2.1.filter (fun q => !vkey t 0 q)) := by
      rw [List.map_map, show (Prod.fst ∘ fun y : vP × Nat => (vre0 t y.1, y.2)) = (vre0 t) ∘ Prod.fst from rfl, ← List.map_map, y5, j2, vins_flt (lim := lim) (by simp [vkey]) hj.2.1, vins_map (fun p => vre0_p.1)]
      have e1 : vre0 t (g, words, t, 5000) = (g, words, t, 0) := by
        unfold vre0
        rw [if_pos ⟨rfl, rfl⟩]
      have e2 : (V.2.1.filter (fun q => !vkey t 0 q)).map (vre0 t) = V.2.1.filter (fun q => !vkey t 0 q) := by
        conv => rhs; rw [← List.map_id (V.2.1.filter (fun q => !vkey t 0 q))]
        refine List.map_congr_left (fun p hp => vre0_n (fun e e2 => ?_))
        have := hnum p (List.mem_filter.mp hp).1 e
        omega
      rw [e1, e2]
    have hwv : ∀ i, i ≠ 3982 + t → (vmw V t g words).1 i = V.1 i := fun i hi => vs_ne hi
    have hot : OT t V (vmw V t g words) := ot_mvX ht
    have hva : vat (vmw V t g words).2.1 t 0 = g ∧ ∀ t' n, ¬ (t' = t ∧ n = 0) → vat (vmw V t g words).2.1 t' n = vat V.2.1 t' n := by
      obtain ⟨a1, -, a3⟩ := vmv_at (V := V) (t := t) (g := g) (words := words) hj
      exact ⟨a1, fun t' n hn => (a3 t' n hn).1⟩
    have hvp : ∀ i, i < V.2.2.1 t → vpl (vmw V t g words) t i = g + (V.2.2.2 t i).2.2.1 := fun i hi => by
      show vat (vmw V t g words).2.1 t (V.2.2.2 t i).2.1 + (V.2.2.2 t i).2.2.1 = _
      rw [hpc i hi, hva.1]
    refine h.op hx hj.1 hot ht hto hj.vfr (fun y' hy' => ?_) (fun y' hy' hyt => ?_) hmap hPC7 ?_ ⟨⟨?_, fun e he => ?_, fun e he => ?_⟩, ⟨?_, ?_⟩, ⟨?_, ?_⟩, ⟨?_, ?_⟩, ?_, ?_⟩ ?_
    · rw [hcase]
      constructor
      · rintro (rfl | m)
        · exact absurd rfl hy'
        · exact m.1
      · exact fun m => Or.inr ⟨m, fun e => hy' e.1⟩
    · have hne := i2 y' hy'
      exact ⟨h5 _ hne, h6 _ hne⟩
    · exact h.2.2.1.keep (hO _ (by omega) (by omega) (by omega) (by omega)) (hO _ (by omega) (by omega) (by omega) (by omega)) (fun i i1 i2 => hwv i (by omega))
    · rw [hT7 _ (by omega) (by omega)]; exact k1.1
    · have en := tf_n e he
      have ep := tf_p e he
      rw [hT7 _ (by omega) (by omega), hwv _ (by omega)]; exact k1.2.1 e he
    · have en := ts_n e he
      have ep := ts_p e he
      rw [hO _ (by omega) (by omega) (by omega) (by omega), hwv _ (by omega)]; exact k1.2.2 e he
    · intro h0
      have h0 : V.2.2.1 t = 0 := h0
      rw [hT7 _ (by omega) (by omega), h11, if_pos h0]
      exact ⟨(k2.1 h0).1, rfl⟩
    · intro h0
      have h0 : 0 < V.2.2.1 t := h0
      rw [hT7 _ (by omega) (by omega), h11, if_neg (by omega), hwv _ (by omega)]
      refine ⟨(k2.2 h0).1, ?_⟩
      show _ = nI (vpl (vmw V t g words) t (V.2.2.1 t - 1))
      rw [hvp _ (by omega)]
    · intro e
      rw [hwv _ (by omega), n1] at e
      exact absurd e (by decide)
    · intro y' hy' hyt hyn
      rw [hwv _ (by omega), n1] at hyn
      rcases (hcase y').mp hy' with rfl | m
      · exact h12
      · have := hnum _ (h.mem m.1) hyt
        exact absurd ⟨hyt, this⟩ m.2
    · intro y' hy' hyt hyn
      rcases (hcase y').mp hy' with rfl | m
      · have : (0 : Nat) = 1000 := hyn
        omega
      · exact absurd ⟨hyt, hyn⟩ (hnos _ (h.mem m.1))
    · intro _
      rw [hT7 _ (by omega) (by omega)]
      exact k4.2 hnos
    · unfold Kg
      rw [hT7 _ (by omega) (by omega), hwv _ (by omega), hwv _ (by omega)]; exact k5
    · intro y' hy' hyt
      rcases (hcase y').mp hy' with rfl | m
      · refine ⟨?_, fun _ => h6i, fun y'' hy'' hyt'' hyn => ?_⟩
        · show s7 (b + 5) id = nI (vud (vmw V t g words).1 (V.2.2.2 t) 0 (V.2.2.1 t))
          rw [h5i, vud_pe hot.1 (hj.vfr t ht), hvu]
        · have : (0 : Nat) = y''.1.2.2.2 + 1 := hyn
          omega
      · have := hnum _ (h.mem m.1) hyt
        exact absurd ⟨hyt, this⟩ m.2
    · rw [hMm]
      intro k hk
      by_cases e : k = t
      · subst e
        intro i hi
        have hi : i < V.2.2.1 k := hi
        obtain ⟨v1, v2, v3⟩ := t4 i hi
        have hofi := hof i hi
        have hcp : ∀ j, j < vwd V.1 (V.2.2.2 k i).1 → s4 (b + 15) (g + (V.2.2.2 k i).2.2.1 + j) = s3 (b + 15) (vpl V k i + j) := fun j hj2 => by
          have := b3 ((V.2.2.2 k i).2.2.1 + j) (by omega)
          rw [hpl i hi, Nat.add_assoc, this, Nat.add_assoc]
        show (V.2.2.2 k i).1 < 10 ∧ s4 (b + 15) (vpl (vmw V k g words) k i) = (if i = 0 then -1 else nI (vpl (vmw V k g words) k (i - 1))) ∧ s4 (b + 15) (vpl (vmw V k g words) k i + 1) = nI (V.2.2.2 k i).2.2.2.1 ∧ ∀ j, j < vsz (vmw V k g words).1 (V.2.2.2 k i).1 → s4 (b + 15) (vpl (vmw V k g words) k i + 2 + j) = vsw (vmw V k g words).1 (vpl (vmw V k g words) k) (V.2.2.2 k i) j
        have hf10 := hj.vfr k hk i hi
        have hsz := hot.1.sz hf10
        refine ⟨hf10, ?_, ?_, fun j hj2 => ?_⟩
        · have this : s4 (b + 15) (g + (V.2.2.2 k i).2.2.1) = s3 (b + 15) (vpl V k i) := hcp 0 (by unfold vwd; omega)
          rw [hvp i hi, this, v1]
          by_cases c : i = 0
          · rw [if_pos c, if_pos c]
          · rw [if_neg c, if_neg c, hvp _ (by omega)]
        · rw [hvp i hi, hcp 1 (by unfold vwd; omega), v2]
        · rw [hsz.1] at hj2
          rw [hvp i hi, Nat.add_assoc, hcp (2 + j) (by unfold vwd; omega), ← Nat.add_assoc, v3 j hj2]
          unfold vsw
          rw [hwv _ (by omega)]
          by_cases c : bt (V.1 (2238 + (V.2.2.2 k i).1)) j
          · rw [if_pos c, if_pos c]
            cases e : (V.2.2.2 k i).2.2.2.2.2 j with
            | none => rfl
            | some q =>
              have hq := (TH.of (pl' := fun i => g + (V.2.2.2 k i).2.2.1) hj hk (by omega)).2.2.2.1 i hi j hj2 c q e
              show nI (g + (V.2.2.2 k q.1).2.2.1 + 2 + q.2) = nI (vpl (vmw V k g words) k q.1 + 2 + q.2)
              rw [hvp q.1 (by omega)]
          · rw [if_neg c, if_neg c]
      · have hMR : MR (s (b + 15)) (vmw V t g words).1 (V.2.2.1 k) (V.2.2.2 k) (vpl V k) := MR_w (fun i i1 i2 => hwv i (by omega)) (h.2.2.2.2.1 k hk)
        have hpk : ∀ i, vpl (vmw V t g words) k i = vpl V k i := fun i => by
          show vat (vmw V t g words).2.1 k (V.2.2.2 k i).2.1 + _ = vat V.2.1 k (V.2.2.2 k i).2.1 + _
          rw [hva.2 k _ (fun c => e c.1)]
          rfl
        show MR (s4 (b + 15)) (vmw V t g words).1 (V.2.2.1 k) (V.2.2.2 k) (vpl (vmw V t g words) k)
        rw [show vpl (vmw V t g words) k = vpl V k from funext hpk]
        refine hMR.mem (fun i hi j hj2 => ?_)
        rw [(hot.1.sz (hj.vfr k hk i hi)).2.1] at hj2
        obtain ⟨npk, g1, g2, -⟩ := hj.geo hk (by omega)
        obtain ⟨qq, gq1, gq2, gq3, gq4, gq5⟩ := g2.pc g1 hi
        have hgap := hgg.2 qq gq1
        have hpe : vpl V k i = qq.1 + (V.2.2.2 k i).2.2.1 := by unfold vpl; rw [gq4]
        rw [b4 _ (by omega), t5 _ (fun j' hj' => ?_), hM2]
        have := hj.dj hk ht hi hj' (fun c => e c.1)
        omega
  · exact ⟨fun k hk hne => ⟨by rw [wt_u_ne (by omega), q6 _ (by omega), f5 _ (by omega), b2 _ (by omega), t2 _ (by omega) (by omega) (by omega), f2 _ (by omega), i8 _ (by omega)], by rw [wt_u_ne (by omega), q6 _ (by omega), f5 _ (by omega), b2 _ (by omega), t2 _ (by omega) (by omega) (by omega), f2 _ (by omega), i8 _ (by omega)]⟩, fun c hc => by rw [wt_u_ne (by omega), q6 _ (by omega), f5 _ (by omega), b2 _ (by omega), t2 _ (by omega) (by omega) (by omega), f2 _ (by omega), i8 _ (by omega)]⟩
end
