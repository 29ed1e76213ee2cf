/-! ===== the class: JOINED ===== -/
section
variable {b lim B : Nat} {s s' : wt_S} {V V' : vV} {zs zs' : List (vP × Nat)} {fr fr' : List Nat} {t np z g words : Nat}
theorem Ch.eq (h : Ch b s zs t np) (h12 : s' (b + 17 + 2 * t) 12 = s (b + 17 + 2 * t) 12) (h13 : s' (b + 17 + 2 * t) 13 = s (b + 17 + 2 * t) 13) (h6 : s' (b + 6) = s (b + 6)) : Ch b s' zs t np := by
  unfold Ch at h ⊢
  rw [h12, h13, h6]
  exact h
/-- the picture behind it, before anything is counted, holds -/
theorem c_join2 (h : RC b 2048 s V zs fr) (hx : CX b 2048) (hI : VI 2048 B V) (ht : t < 6) (hc : Ico V t np) (h0 : 0 < V.2.2.1 t) {id : Nat} {s6 : wt_S} (hid : id < 256) (hgg : g + words ≤ 2048 ∧ ∀ q ∈ V.2.1, g + words ≤ q.1 ∨ q.1 + q.2.1 ≤ g) (hu : vus V.1 (V.2.2.2 t) (V.2.2.1 t) ≤ words)
    (hmap : zs'.map Prod.fst = vins (g, words, t, 0) (V.2.1.filter (fun q => decide (q.2.2.1 ≠ t)))) (hcase : ∀ y, y ∈ zs' ↔ y = ((g, words, t, 0), id) ∨ (y ∈ zs ∧ y.1.2.2.1 ≠ t)) (hP6 : PC b 2048 s6 zs' fr') (hne : ∀ y ∈ zs, y.2 ≠ id)
    (hO : ∀ c, ¬ (b + 2 ≤ c ∧ c ≤ b + 9) → c ≠ b + 15 → c ≠ b + 16 → c ≠ b + 17 + 2 * t → s6 c = s c) (h5 : ∀ i, i ≠ id → s6 (b + 5) i = s (b + 5) i) (h5i : s6 (b + 5) id = nI (vus V.1 (V.2.2.2 t) (V.2.2.1 t))) (h6 : ∀ i, i ≠ id → s6 (b + 6) i = s (b + 6) i) (h6i : s6 (b + 6) id = -1)
    (hT : ∀ j, j ≠ 2 → j ≠ 11 → j ≠ 12 → j ≠ 13 → s6 (b + 17 + 2 * t) j = s (b + 17 + 2 * t) j) (hT2 : s6 (b + 17 + 2 * t) 2 = 0) (hT11 : s6 (b + 17 + 2 * t) 11 = nI (g + vus V.1 (V.2.2.2 t) (V.2.2.1 t - 1))) (hT12 : s6 (b + 17 + 2 * t) 12 = nI id) (hT13 : s6 (b + 17 + 2 * t) 13 = -1)
    (hmo : ∀ x, x < g ∨ g + words ≤ x → (∀ j, j < V.2.2.1 t → x < vpl V t j ∨ vpl V t j + vwd V.1 (V.2.2.2 t j).1 ≤ x) → s6 (b + 15) x = s (b + 15) x) (hmq : ∀ i, i < V.2.2.1 t → s6 (b + 15) (g + vus V.1 (V.2.2.2 t) i) = (if i = 0 then -1 else nI (g + vus V.1 (V.2.2.2 t) (i - 1))) ∧ s6 (b + 15) (g + vus V.1 (V.2.2.2 t) i + 1) = nI (V.2.2.2 t i).2.2.2.1 ∧ ∀ k, k < vsz V.1 (V.2.2.2 t i).1 → s6 (b + 15) (g + vus V.1 (V.2.2.2 t) i + 2 + k) = vsw V.1 (fun i => g + vus V.1 (V.2.2.2 t) i) (V.2.2.2 t i) k) :
    RC b 2048 s6 (vj2 (vj1 V t g words) t) zs' fr' ∧ TO b t s s6 := by
  have hb := hx.b
  have hj := hI.J
  obtain ⟨k1, k2, k3, k4, k5, k6⟩ := h.2.2.2.1 t ht
  have hv : ∀ i, i ≠ 3982 + t → i ≠ 4066 + t → i ≠ 3933 + t → (vj2 (vj1 V t g words) t).1 i = V.1 i := fun i i1 i2 i3 => (vj2_ne i2 i3).trans (mj_upd_ne i1)
  have h66 : (vj2 (vj1 V t g words) t).1 (4066 + t) = 1 := (vs_ne (by omega)).trans vs_at
  have h33 : (vj2 (vj1 V t g words) t).1 (3933 + t) = 0 := vs_at
  have hot : OT t V (vj2 (vj1 V t g words) t) := (OT.j1 ht hj.2.1).trans (OT.trans (OT.vs ht (vown_t (c := 4066) (by omega))) (OT.vs ht (vown_t (c := 3933) (by omega))))
  have hn : (vj2 (vj1 V t g words) t).2.2.1 = V.2.2.1 := rfl
  have hfr : (vj2 (vj1 V t g words) t).2.2.2 t = vjf V.1 (V.2.2.2 t) := if_pos rfl
  have hpl : vpl (vj2 (vj1 V t g words) t) t = fun i => g + vus V.1 (V.2.2.2 t) i := vj1_pl (t := t) (g := g) (words := words) hj.2.1
  have hto : TO b t s s6 := ⟨fun k hk hne => ⟨hO _ (by omega) (by omega) (by omega) (by omega), hO _ (by omega) (by omega) (by omega) (by omega)⟩, fun c hc => hO c (by omega) (by omega) (by omega) (by omega)⟩
  have hnew : ∀ y ∈ zs', y.1.2.2.1 = t → y = ((g, words, t, 0), id) := fun y hy hyt => by
    rcases (hcase y).mp hy with e | e
    · exact e
    · exact absurd hyt e.2
  refine ⟨h.op hx hj.1 hot ht hto hj.vfr (fun y hy => ?_) (fun y hy hyt => ⟨h5 _ (hne y hy), h6 _ (hne y hy)⟩) hmap hP6 (h.2.2.1.keep (hO _ (by omega) (by omega) (by omega) (by omega)) (hO _ (by omega) (by omega) (by omega) (by omega)) (fun i i1 i2 => hv i (by omega) (by omega) (by omega))) ⟨⟨?_, fun e he => ?_, fun e he => ?_⟩, ⟨fun e => ?_, fun _ => ⟨?_, ?_⟩⟩, ⟨fun e => ?_, fun y hy hyt hyn => ?_⟩, ⟨fun y hy e1 e2 => ?_, fun _ => hT13⟩, fun e => ?_, fun y hy hyt => ?_⟩ ?_, hto⟩
  · rw [hcase]
    constructor
    · rintro (rfl | m)
      · exact absurd rfl hy
      · exact m.1
    · exact fun m => Or.inr ⟨m, hy⟩
  · rw [hT _ (by omega) (by omega) (by omega) (by omega)]; exact k1.1
  · have en := tf_n e he
    have ep := tf_p e he
    by_cases c : e.1 = 2
    · have c2 : e.2 = 3933 := (tf_i e he (2, 3933) (by decide)).mp c
      rw [c, c2, hT2, h33]
    · have c2 : e.2 ≠ 3933 := fun q => c ((tf_i e he (2, 3933) (by decide)).mpr q)
      rw [hT _ c (by omega) (by omega) (by omega), hv _ (by omega) (by omega) (by omega)]; exact k1.2.1 e he
  · have en := ts_n e he
    have ep := ts_p e he
    have : e.2 ≠ 3933 := fun q => ft_i (2, 3933) (by decide) e he q.symm
    rw [hO _ (by omega) (by omega) (by omega) (by omega), hv _ (by omega) (by omega) (by omega)]; exact k1.2.2 e he
  · have e : V.2.2.1 t = 0 := e
    omega
  · rw [hT _ (by omega) (by omega) (by omega) (by omega), hv _ (by omega) (by omega) (by omega)]
    exact (k2.2 h0).1
  · rw [hT11, hpl]
    rfl
  · rw [h66] at e; exact absurd e (by decide)
  · have := hnew y hy hyt
    rw [hT12, this]
  · have := hnew y hy e1
    rw [this] at e2
    have e2 : (0 : Nat) = 1000 := e2
    omega
  · have e : (vj2 (vj1 V t g words) t).1 (3926 + t) ≠ 0 := e
    rw [hv _ (by omega) (by omega) (by omega)] at e
    rw [hT _ (by omega) (by omega) (by omega) (by omega), hv _ (by omega) (by omega) (by omega)]
    exact k5 e
  · have := hnew y hy hyt
    subst this
    refine ⟨?_, fun _ => h6i, fun y' _ _ e => ?_⟩
    · show s6 (b + 5) id = nI (vud (vj2 (vj1 V t g words) t).1 ((vj2 (vj1 V t g words) t).2.2.2 t) 0 (V.2.2.1 t))
      have hw : vpe V.1 (vj2 (vj1 V t g words) t).1 := hot.1
      rw [h5i, hfr, vud_us (fun i _ => rfl), (hw.us (k := 0) (fr := vjf V.1 (V.2.2.2 t)) (fun i hi => hj.vfr t ht i hi)).1, vus_jf]
    · have e : (0 : Nat) = y'.1.2.2.2 + 1 := e
      omega
  · intro k hk
    by_cases e : k = t
    · subst e
      rw [hpl, hfr]
      intro i hi
      have hi : i < V.2.2.1 k := hi
      obtain ⟨q1, q2, q3⟩ := hmq i hi
      have hf10 := hj.vfr k hk i hi
      have hsz := hot.1.sz hf10
      refine ⟨hf10, q1, q2, fun j hj2 => ?_⟩
      have hj2 : j < vsz (vj2 (vj1 V k g words) k).1 (V.2.2.2 k i).1 := hj2
      rw [hsz.1] at hj2
      have q3 := q3 j hj2
      show s6 (b + 15) (g + vus V.1 (V.2.2.2 k) i + 2 + j) = _
      rw [q3]
      unfold vsw
      show (if bt (V.1 (2238 + (V.2.2.2 k i).1)) j then _ else _) = (if bt ((vj2 (vj1 V k g words) k).1 (2238 + (V.2.2.2 k i).1)) j then _ else _)
      rw [hsz.2.2.2]
      rfl
    · have hMR : MR (s (b + 15)) (vj2 (vj1 V t g words) t).1 (V.2.2.1 k) (V.2.2.2 k) (vpl V k) := MR_w (fun i i1 i2 => hv i (by omega) (by omega) (by omega)) (h.2.2.2.2.1 k hk)
      have hpk : ∀ i, vpl (vj2 (vj1 V t g words) t) k i = vpl V k i := fun i => ot_vpl hot hk e
      rw [show vpl (vj2 (vj1 V t g words) t) k = vpl V k from funext hpk, show (vj2 (vj1 V t g words) t).2.2.2 k = V.2.2.2 k from if_neg e]
      show MR (s6 (b + 15)) (vj2 (vj1 V t g words) t).1 (V.2.2.1 k) (V.2.2.2 k) (vpl V k)
      refine hMR.mem (fun i hi j hj2 => ?_)
      rw [(hot.1.sz (hj.vfr k hk i hi)).2.1] at hj2
      obtain ⟨npk, g1, g2, -⟩ := hj.geo hk (by omega)
      obtain ⟨qq, gq1, gq2, gq3, gq4, gq5⟩ := g2.pc g1 hi
      have hgap := hgg.2 qq gq1
      have hpe : vpl V k i = qq.1 + (V.2.2.2 k i).2.2.1 := by unfold vpl; rw [gq4]
      refine hmo _ (by omega) (fun j' hj' => ?_)
      have := hj.dj hk ht hi hj' (fun c => e c.1)
      omega
theorem c_join (h : RC b 2048 s V zs fr) (hx : CX b 2048) (hI : VI 2048 B V) (ht : t < 6) (hb : vbz V.1 t) : ∃ s' zs' fr', gX4_joinPieces b (b + 17 + 2 * t) s = some (rb ((vjo 2048 V t).1 = true), s') ∧ RC b 2048 s' (vjo 2048 V t).2 zs' fr' ∧ TO b t s s' := by
  have hb' := hx.b
  have hxm := hx.m
  obtain ⟨np, z, z2, z3, k, l, hP, h0, -, ⟨r1, r2, r3⟩, -, -, -, -, -, -⟩ := hI.opn ht hb (by omega)
  obtain ⟨hj, hc, -, hz, h8, hzl, -, hl2, hq⟩ := hP
  obtain ⟨n1, n2, n3⟩ := hc.mn
  have hzz : (V.1 2048).toInt.toNat = z := by rw [hz, nI_int (by omega)]; rfl
  obtain ⟨d1, d2, d3, d4, d5⟩ := hc.2.2.2.2.2.2.1 h0
  have hN := hc.n hj (by omega)
  have huse : vuse V t = vus V.1 (V.2.2.2 t) (V.2.2.1 t) := by unfold vuse; rw [hc.2.2.2.2.2.1, nI_int (by omega)]; rfl
  have hku : vus V.1 (V.2.2.2 t) (V.2.2.1 t) ≤ vkp V t := by unfold vkp; rw [huse]; omega
  obtain ⟨kk1, kk2⟩ := c_kept h hx hj hc ht r1 r3
  obtain ⟨w1, w2, w3⟩ := vdbl_gj (e := vkp V t) (k := 16) (n := z) (by omega) (by omega)
  have hdb : gX4_doubled s (nI z) (nI (vkp V t)) = some (nI (vdbl (vkp V t) 16 z), s) := by
    unfold gX4_doubled
    exact c_doubled (e := vkp V t) (by omega) 16 z wt_N (by omega) (by omega) (by unfold wt_N; omega)
  generalize hW : vdbl (vkp V t) 16 z = words at *
  have hWz : vdbl (vkp V t) 16 (V.1 2048).toInt.toNat = words := by rw [hzz]; exact hW
  have e0 : s (b + 1) 0 = nI z := (h.2.2.1.1 0 (by omega)).trans hz
  obtain ⟨k1, k2, k3, k4, k5, k6⟩ := h.2.2.2.1 t ht
  unfold gX4_joinPieces
  rw [kk1, cl_some, e0, hdb, cl_some, k1.1]
  cases e : vgap 2048 0 V.2.1 words with
  | none =>
    rw [vjo_0 hWz e, (c_take h.2.1 (by rw [h.1]; exact hj.2.1) ⟨by omega, by omega⟩ hx.2.2).1 (by rw [h.1]; exact e), cl_some, if_neg (by simp), rb_neg (by simp)]
    exact ⟨s, zs, fr, rfl, h, TO.refl⟩
  | some g =>
    have hgg := vgap0 hj.2.1 e
    have hlen : zs.length < 256 := by
      have := Vlen hj.2.1 hq h8 hl2 (show z ≤ words by omega) e
      rw [← h.1, List.length_map] at this
      exact this
    have hnum : ∀ q ∈ V.2.1, q.2.2.1 = t → q.2.2.2 < np ∨ q.2.2.2 = 1000 := hc.2.2.2.1.2
    obtain ⟨id, fr1, y, s1, -, i1, i2, i3, i4, i5, i6, i7, i8, i9⟩ := (c_take (un := -1) (t := t) h.2.1 (by rw [h.1]; exact hj.2.1) ⟨show 1 ≤ words by omega, by omega⟩ hx.2.2).2 g hlen (by rw [h.1]; exact e)
    obtain ⟨j1, j2⟩ := i9 5000
    rw [h.1] at j2
    have hmem : ∀ y', y' ∈ zs.insertIdx y ((g, words, t, 5000), id) ↔ y' = ((g, words, t, 5000), id) ∨ y' ∈ zs := fun y' => List.mem_insertIdx i4
    generalize hz5 : zs.insertIdx y ((g, words, t, 5000), id) = zs5 at *
    have ho5 : vo 2048 (zs5.map Prod.fst) := by
      rw [j2]
      exact vo_ins hj.2.1 ⟨by show 1 ≤ words; omega, hgg.1, ht, by show (5000 : Nat) < 4294967296; omega⟩ hgg.2
    have hu5 : (zs5.map Prod.fst).Pairwise (fun p q => ¬ (p.2.2.1 = q.2.2.1 ∧ p.2.2.2 = q.2.2.2)) := by
      rw [j2]
      refine vkeys_pw (fun p q hpq e => hpq ⟨e.1.symm, e.2.symm⟩) hj.2.2.1 (fun p hp e => ?_)
      have e1 : t = p.2.2.1 := e.1
      have e2 : (5000 : Nat) = p.2.2.2 := e.2
      have := hnum p hp e1.symm
      omega
    have hn5 : ((g, words, t, 5000), id) ∈ zs5 := (hmem _).mpr (Or.inl rfl)
    have p3 : s1 (b + 3) id = nI g := (j1.mem hn5).2.1
    have hT1 : s1 (b + 17 + 2 * t) = s (b + 17 + 2 * t) := i8 _ (by omega)
    have hold : ∀ y ∈ zs5, y.1.2.2.1 = t → y.1.2.2.2 < np ∨ y.1.2.2.2 = 1000 → y ∈ zs := fun y hy hyt hyn => by
      rcases (hmem y).mp hy with rfl | m
      · have hyn : (5000 : Nat) < np ∨ (5000 : Nat) = 1000 := hyn
        omega
      · exact m
    have hnz : ∀ y ∈ zs, y.1.2.2.1 = t → y.1.2.2.2 < np ∨ y.1.2.2.2 = 1000 := fun y hy hyt => hnum _ (h.mem hy) hyt
    have hch := h.ch ht (np := np) n1
    have hch1 : Ch b s1 zs5 t np := by
      refine ⟨⟨fun e => by omega, fun y hy hyt hyn => ?_⟩, ⟨fun y hy hyt hyn => ?_, fun hno => ?_⟩, fun y hy hyt => ⟨fun hyn => ?_, fun y' hy' hyt' hyn => ?_⟩⟩
      · rw [hT1]
        exact hch.1.2 y (hold y hy hyt (by omega)) hyt hyn
      · rw [hT1]
        exact hch.2.1.1 y (hold y hy hyt (by omega)) hyt hyn
      · rw [hT1]
        exact hch.2.1.2 (fun y hy => hno y ((hmem y).mpr (Or.inr hy)))
      · have hyz := hold y hy hyt (by omega)
        rw [i6, mj_upd_ne (i2 y hyz)]
        exact (hch.2.2 y hyz hyt).1 hyn
      · have hyz : y ∈ zs := by
          rcases (hmem y).mp hy with rfl | m
          · exfalso
            have hyn : (5000 : Nat) = y'.1.2.2.2 + 1 := hyn
            rcases (hmem y').mp hy' with rfl | m'
            · have hyn : (5000 : Nat) = 5000 + 1 := hyn
              omega
            · have := hnz y' m' hyt'
              omega
          · exact m
        have hyz' : y' ∈ zs := by
          rcases (hmem y').mp hy' with rfl | m
          · exfalso
            have hyn : y.1.2.2.2 = 5000 + 1 := hyn
            have := hnz y hyz hyt
            omega
          · exact m
        rw [i6, mj_upd_ne (i2 y hyz)]
        exact (hch.2.2 y hyz hyt).2 y' hyz' hyt' hyn
    have hit5 : ∀ k, k < np → ∃ q ∈ zs5.map Prod.fst, q.2.2.1 = t ∧ q.2.2.2 = k := fun k hk => by
      obtain ⟨q, q1, q2⟩ := hc.2.2.2.1.1 k hk
      rw [j2]
      exact ⟨q, vins_mem.mpr (Or.inr q1), q2⟩
    have hU1 : ∀ y ∈ zs5, y.1.2.2.1 = t → y.1.2.2.2 < np → s1 (b + 5) y.2 = nI ((fun k => vud V.1 (V.2.2.2 t) k (V.2.2.1 t)) y.1.2.2.2) := fun y hy hyt hyn => by
      have hyz := hold y hy hyt (Or.inl hyn)
      rw [i5, mj_upd_ne (i2 y hyz)]
      exact (k6 y hyz hyt).1
    have hsum : vsum (fun k => vud V.1 (V.2.2.2 t) k (V.2.2.1 t)) np = vus V.1 (V.2.2.2 t) (V.2.2.1 t) := by
      obtain ⟨n, hn⟩ : ∃ n, V.2.2.1 t = n + 1 := ⟨V.2.2.1 t - 1, by omega⟩
      rw [hn] at d1 d2 ⊢
      rw [Nat.add_sub_cancel] at d2
      exact d1.sumn (by omega)
    have hsums := d1.sum
    have hudi := fun i (hi : i < V.2.2.1 t) => d1.udi hi
    have hudl := fun k => d1.udl (k := k)
    have hus : V.1 (3961 + t) = nI (vus V.1 (V.2.2.2 t) (V.2.2.1 t)) := hc.2.2.2.2.2.1
    have e5 : s1 (b + 17 + 2 * t) 5 = nI (vus V.1 (V.2.2.2 t) (V.2.2.1 t)) := by rw [hT1, k1.2.1 (5, 3961) (by decide)]; exact hus
    have hvs : vus V.1 (V.2.2.2 t) (V.2.2.1 t) ≤ words := by omega
    obtain ⟨s2, m1, m2, m3⟩ := c_aim_loop (U := fun k => vud V.1 (V.2.2.2 t) k (V.2.2.1 t)) (g := g) (l2 := nI id) j1 rfl hu5 hit5 (by omega) hch1 hU1 np 0 wt_N s1 (s1 (b + 17 + 2 * t) 12) (Nat.le_refl _) (by omega) (by unfold wt_N; omega) (fun _ _ => rfl) (fun y _ _ q1 q2 => by omega) hch1.1.1 hch1.1.2
    rw [hsum] at m1
    rw [i3, cl_some, if_pos (nI_m1 (by omega)), c_placeOf i1, cl_some, p3, e5, nI_add, show (0 : Int32) = nI 0 from rfl, m1]
    unfold gX4_joinPieces_113
    -- turned
    have hT2 : s2 (b + 17 + 2 * t) = s (b + 17 + 2 * t) := by rw [m2 _ (by omega), hT1]
    have hM2 : s2 (b + 15) = s (b + 15) := by rw [m2 _ (by omega), i8 _ (by omega)]
    have e4 : s2 (b + 17 + 2 * t) 4 = nI (V.2.2.1 t) := by rw [hT2, k1.2.1 (4, 3954) (by decide)]; exact hc.1
    have e11 : s2 (b + 17 + 2 * t) 11 = if V.2.2.1 t = 0 then -1 else nI (vpl V t (V.2.2.1 t - 1)) := by
      rw [hT2, if_neg (by omega)]; exact (k2.2 h0).2
    have e9 : 0 < V.2.2.1 t → s2 (b + 17 + 2 * t) 9 = nI (V.2.2.2 t (V.2.2.1 t - 1)).1 := fun _ => by
      rw [hT2, k1.2.1 (9, 3975) (by decide)]
      exact d5
    have hpc : ∀ i, i < V.2.2.1 t → ∃ y ∈ zs5, y ∈ zs ∧ y.1.2.2.1 = t ∧ y.1.2.2.2 = (V.2.2.2 t i).2.1 ∧ (V.2.2.2 t i).2.1 < np ∧ vpl V t i = y.1.1 + (V.2.2.2 t i).2.2.1 ∧ (V.2.2.2 t i).2.2.1 + vwd V.1 (V.2.2.2 t i).1 ≤ y.1.2.1 ∧ y.1.1 + y.1.2.1 ≤ 2048 := fun i hi => by
      have hnpi := (d1.1 i hi).1
      have hfit := (d1.1 i hi).2
      obtain ⟨-, y, -, y2, y3, y4, y5, y6, -⟩ := zfind (t := t) (n := (V.2.2.2 t i).2.1) h.1 hj.2.2.1 (hc.2.2.2.1.1 _ hnpi)
      refine ⟨y, (hmem y).mpr (Or.inr y2), y2, y3, y4, hnpi, ?_, ?_, (hj.2.1.2 y.1 (h.mem y2)).2.1⟩
      · unfold vpl; rw [y5]
      · rw [y6] at hfit; exact hfit
    have hGC : GC b s2 V.1 (V.2.2.1 t) (V.2.2.2 t) (vpl V t) (fun i => g + vus V.1 (V.2.2.2 t) i) := by
      intro s' hs' i hi j hj2
      have hP' : PC b 2048 s' zs5 fr1 := j1.eq (fun c hc => by rw [hs' c (by omega) (by omega), m2 c (by omega)])
      obtain ⟨y, ya, yb, y3, y4, y5, y6, y7, y8⟩ := hpc i hi
      have hsi := hsums i hi
      rw [c_turned hP' ho5 hx.2.2 ya ⟨by omega, by omega⟩, hs' _ (by omega) (by omega), m3 y ya y3 (by omega), nI_turn (by omega), y6, y4]
      have hsi : vus V.1 (V.2.2.2 t) i = vsum (fun k => vud V.1 (V.2.2.2 t) k (V.2.2.1 t)) (V.2.2.2 t i).2.1 + (V.2.2.2 t i).2.2.1 := hsi
      have e : g + vsum (fun k => vud V.1 (V.2.2.2 t) k (V.2.2.1 t)) (V.2.2.2 t i).2.1 + (y.1.1 + (V.2.2.2 t i).2.2.1 + j - y.1.1) = g + vus V.1 (V.2.2.2 t) i + j := by omega
      show some (nI _, s') = some (nI (g + vus V.1 (V.2.2.2 t) i + j), s')
      rw [← e]
    have hRP2 : RP 5 s2 V.1 := h.2.2.2.2.2.eq hj.1 vpe.refl (fun c c1 c2 => by rw [m2 _ (by omega), i8 _ (by omega)])
    obtain ⟨s3, t1, t2, t3, t4, t5⟩ := c_turns (s := s2) hx (T := b + 17 + 2 * t) (by omega) (by omega) e4 e11 e9 (fun h0 => TH.of hj ht h0) hGC hRP2 (by rw [hM2]; exact h.2.2.2.2.1.q ht)
    rw [if_neg (by omega), hT2] at t3
    rw [t1, cl_some]
    -- brought over
    have f3 : ∀ c, b + 2 ≤ c → c ≤ b + 9 → s3 c = s2 c := fun c h1 h2 => t2 c (by omega) (by omega) (by omega)
    have hP3 : PC b 2048 s3 zs5 fr1 := j1.eq (fun c hc => by rw [f3 c (by omega) (by omega), m2 c (by omega)])
    have hch3 : Ch b s3 zs5 t np := hch1.eq (by rw [t3, mj_upd_ne (by omega), hT1]) (by rw [t3, mj_upd_ne (by omega), hT1]) (by rw [f3 _ (by omega) (by omega), m2 _ (by omega)])
    have hdd : ∀ y ∈ zs5, y.1.2.2.1 = t → y.1.2.2.2 < np → y.1.1 + vud V.1 (V.2.2.2 t) y.1.2.2.2 (V.2.2.1 t) ≤ 2048 ∧ (g + vsum (fun k => vud V.1 (V.2.2.2 t) k (V.2.2.1 t)) np ≤ y.1.1 ∨ y.1.1 + vud V.1 (V.2.2.2 t) y.1.2.2.2 (V.2.2.1 t) ≤ g) := fun y hy hyt hyn => by
      have hyz := hold y hy hyt (Or.inl hyn)
      have hin := h.mem hyz
      have h1 := (hj.2.1.2 y.1 hin).2.1
      have h2 := hgg.2 y.1 hin
      have h3 := hudl y.1.2.2.2
      obtain ⟨-, y', -, y2, y3, y4, y5, y6, -⟩ := zfind (t := t) (n := y.1.2.2.2) h.1 hj.2.2.1 ⟨y.1, hin, hyt, rfl⟩
      have hyy : y' = y := zuniq h.1 hj.2.2.1 y2 hyz (y3.trans hyt.symm) y4
      rw [y6, hyy] at h3
      rw [hsum]
      omega
    obtain ⟨s4, o1, o2, o3, o4⟩ := c_over_loop (U := fun k => vud V.1 (V.2.2.2 t) k (V.2.2.1 t)) (g := g) (l2 := nI id) hx hP3 rfl hu5 hit5 (by omega) hch3 (fun y hy hyt hyn => by rw [f3 _ (by omega) (by omega), m2 _ (by omega)]; exact hU1 y hy hyt hyn) (fun y hy hyt hyn => by rw [f3 _ (by omega) (by omega)]; exact m3 y hy hyt hyn) hdd (by rw [hsum]; omega) np 0 wt_N s3 (s3 (b + 17 + 2 * t) 12) (Nat.le_refl _) (by omega) (by unfold wt_N; omega) (fun _ _ => rfl) (fun _ _ => rfl) (fun y _ _ q1 q2 => by omega) hch3.1.1 hch3.1.2
    rw [hsum] at o3
    rw [show (0 : Int32) = nI 0 from rfl, o1]
    unfold gX4_joinPieces_164
    -- the old ones go
    have hP4 : PC b 2048 s4 zs5 fr1 := hP3.eq (fun c hc => o2 c (by omega))
    have hch4 : Ch b s4 zs5 t np := hch3.eq (by rw [o2 _ (by omega)]) (by rw [o2 _ (by omega)]) (by rw [o2 _ (by omega)])
    have hit6 : ∀ q ∈ zs5.map Prod.fst, q.2.2.1 = t → q.2.2.2 < np ∨ q.2.2.2 = 1000 ∨ q.2.2.2 = 5000 := fun q hq hqt => by
      rw [j2] at hq
      rcases vins_mem.mp hq with rfl | hq
      · exact Or.inr (Or.inr rfl)
      · have := hnum q hq hqt
        omega
    obtain ⟨s5, zs6, fr6, x1, x2, x3, x4, x5, x6, x7, x8⟩ := c_rel5 hx ht hP4 rfl ho5 hu5 ⟨hit5, hit6⟩ (by omega) hch4
    have hT5 : s5 (b + 17 + 2 * t) = mj_upd (mj_upd (s (b + 17 + 2 * t)) 11 (nI (g + vus V.1 (V.2.2.2 t) (V.2.2.1 t - 1)))) 13 (-1) := by
      rw [x8, o2 _ (by omega), t3]
    have e55 : s5 (b + 17 + 2 * t) 5 = nI (vus V.1 (V.2.2.2 t) (V.2.2.1 t)) := by
      rw [hT5, mj_upd_ne (by omega), mj_upd_ne (by omega), k1.2.1 (5, 3961) (by decide)]; exact hus
    have e5i : s5 (b + 5) id = 0 := by rw [x5, o2 _ (by omega), f3 _ (by omega) (by omega), m2 _ (by omega), i5, mj_upd_self]
    rw [x1, cl_some, c_use i1, cl_some, wr_eq, wr_eq, e55, e5i, Int32.zero_add]
    generalize hS6 : wt_u (wt_u (wt_u s5 (b + 5) id (nI (vus V.1 (V.2.2.2 t) (V.2.2.1 t)))) (b + 17 + 2 * t) 12 (nI id)) (b + 17 + 2 * t) 2 0 = s6
    have f6 : ∀ c, c ≠ b + 5 → c ≠ b + 17 + 2 * t → s6 c = s5 c := fun c h1 h2 => by rw [← hS6, wt_u_ne h2, wt_u_ne h2, wt_u_ne h1]
    have f6T : s6 (b + 17 + 2 * t) = mj_upd (mj_upd (s5 (b + 17 + 2 * t)) 12 (nI id)) 2 0 := by rw [← hS6, wt_u_at, wt_u_at, wt_u_ne (by omega)]
    have f65 : s6 (b + 5) = mj_upd (s5 (b + 5)) id (nI (vus V.1 (V.2.2.2 t) (V.2.2.1 t))) := by rw [← hS6, wt_u_ne (by omega), wt_u_ne (by omega), wt_u_at]
    have hre : ∀ y ∈ zs6, (vre0 t y.1, y.2) = if y.1.2.2.1 = t then ((g, words, t, 0), id) else y := fun y hy => by
      obtain ⟨q1, q2⟩ := (x4 y).mp hy
      rcases (hmem y).mp q1 with rfl | m
      · rw [if_pos rfl]
        show (vre0 t (g, words, t, 5000), id) = _
        unfold vre0
        rw [if_pos ⟨rfl, rfl⟩]
      · by_cases c : y.1.2.2.1 = t
        · exfalso
          have := hnz y m c
          omega
        · rw [if_neg c, vre0_n (fun e => absurd e c)]
    have hP6 : PC b 2048 s6 (zs6.map (fun y => (vre0 t y.1, y.2))) fr6 := (x2.eq (fun c hc => f6 c (by omega) (by omega))).map (fun y _ => ⟨rfl, vre0_p⟩)
    have hcase : ∀ y', y' ∈ zs6.map (fun y => (vre0 t y.1, y.2)) ↔ y' = ((g, words, t, 0), id) ∨ (y' ∈ zs ∧ y'.1.2.2.1 ≠ t) := fun y' => by
      rw [List.mem_map]
      constructor
      · rintro ⟨y0, hy0, rfl⟩
        rw [hre y0 hy0]
        obtain ⟨q1, q2⟩ := (x4 y0).mp hy0
        by_cases c : y0.1.2.2.1 = t
        · rw [if_pos c]; exact Or.inl rfl
        · rw [if_neg c]
          rcases (hmem y0).mp q1 with rfl | m
          · exact absurd rfl c
          · exact Or.inr ⟨m, c⟩
      · rintro (rfl | ⟨q1, q2⟩)
        · have hin : ((g, words, t, 5000), id) ∈ zs6 := (x4 _).mpr ⟨hn5, Or.inr rfl⟩
          exact ⟨_, hin, (hre _ hin).trans (if_pos rfl)⟩
        · have hin : y' ∈ zs6 := (x4 _).mpr ⟨(hmem _).mpr (Or.inr q1), Or.inl q2⟩
          exact ⟨_, hin, (hre _ hin).trans (if_neg q2)⟩
    have hmap : (zs6.map (fun y => (vre0 t y.1, y.2))).map Prod.fst = vins (g, words, t, 0) (V.2.1.filter (fun q => decide (q.2.2.1 ≠ t))) := by
      have hfl : V.2.1.filter (fun q => decide (q.2.2.1 ≠ t ∨ q.2.2.2 = 5000)) = V.2.1.filter (fun q => decide (q.2.2.1 ≠ t)) := by
        refine List.filter_congr (fun q hq => ?_)
        rw [Bool.eq_iff_iff, decide_eq_true_eq, decide_eq_true_eq]
        constructor
        · rintro (e | e)
          · exact e
          · intro e2
            have := hnum q hq e2
            omega
        · exact Or.inl
      rw [List.map_map, show (Prod.fst ∘ fun y : vP × Nat => (vre0 t y.1, y.2)) = (vre0 t) ∘ Prod.fst from rfl, ← List.map_map, x3, j2, vins_flt (lim := 2048) (by simp) hj.2.1, hfl, vins_map (fun p => vre0_p.1)]
      have e1 : vre0 t (g, words, t, 5000) = (g, words, t, 0) := by
        unfold vre0
        rw [if_pos ⟨rfl, rfl⟩]
      have e2 : (V.2.1.filter (fun q => decide (q.2.2.1 ≠ t))).map (vre0 t) = V.2.1.filter (fun q => decide (q.2.2.1 ≠ t)) := by
        conv => rhs; rw [← List.map_id (V.2.1.filter (fun q => decide (q.2.2.1 ≠ t)))]
        refine List.map_congr_left (fun p hp => vre0_n (fun e => ?_))
        have := (List.mem_filter.mp hp).2
        exact absurd e (by simpa using this)
      rw [e1, e2]
    generalize zs6.map (fun y => (vre0 t y.1, y.2)) = zs7 at *
    have hcp : ∀ i, i < V.2.2.1 t → ∀ j, j < vwd V.1 (V.2.2.2 t i).1 → s6 (b + 15) (g + vus V.1 (V.2.2.2 t) i + j) = s3 (b + 15) (vpl V t i + j) := fun i hi j hj2 => by
      obtain ⟨y, ya, yb, y3, y4, y5, y6, y7, y8⟩ := hpc i hi
      have hsi : vus V.1 (V.2.2.2 t) i = vsum (fun k => vud V.1 (V.2.2.2 t) k (V.2.2.1 t)) (V.2.2.2 t i).2.1 + (V.2.2.2 t i).2.2.1 := hsums i hi
      have hdi := hudi i hi
      have := o4 y ya y3 (by omega) ((V.2.2.2 t i).2.2.1 + j) (by rw [y4]; show _ < vud V.1 (V.2.2.2 t) (V.2.2.2 t i).2.1 (V.2.2.1 t); omega)
      rw [y4] at this
      rw [f6 _ (by omega) (by omega), x7 _ (by omega) (by omega), hsi, y6, Nat.add_assoc y.1.1, ← this]
      congr 1
      omega
    obtain ⟨R6, T6⟩ := c_join2 (s6 := s6) h hx hI ht hc h0 i1 hgg hvs hmap hcase hP6 i2 (fun c h1 h2 h3 h4 => by rw [f6 c (by omega) h4, x7 c h1 h4, o2 c h2, t2 c h2 h3 h4, m2 c (by omega), i8 c h1]) (fun i hi => by rw [f65, mj_upd_ne hi, x5, o2 _ (by omega), f3 _ (by omega) (by omega), m2 _ (by omega), i5, mj_upd_ne hi]) (by rw [f65, mj_upd_self]) (fun i hi => by rw [f6 _ (by omega) (by omega), x6, o2 _ (by omega), f3 _ (by omega) (by omega), m2 _ (by omega), i6, mj_upd_ne hi]) (by rw [f6 _ (by omega) (by omega), x6, o2 _ (by omega), f3 _ (by omega) (by omega), m2 _ (by omega), i6, mj_upd_self])
      (fun j h1 h2 h3 h4 => by rw [f6T, mj_upd_ne h1, mj_upd_ne h3, hT5, mj_upd_ne h4, mj_upd_ne h2]) (by rw [f6T, mj_upd_self]) (by rw [f6T, mj_upd_ne (by omega), mj_upd_ne (by omega), hT5, mj_upd_ne (by omega), mj_upd_self]) (by rw [f6T, mj_upd_ne (by omega), mj_upd_self]) (by rw [f6T, mj_upd_ne (by omega), mj_upd_ne (by omega), hT5, mj_upd_self])
      (fun x hxg hxo => by rw [f6 _ (by omega) (by omega), x7 _ (by omega) (by omega), o3 x (by omega), t5 x hxo, hM2]) (fun i hi => by
        obtain ⟨v1, v2, v3⟩ := t4 i hi
        refine ⟨?_, ?_, fun j hj2 => ?_⟩
        · have this : s6 (b + 15) (g + vus V.1 (V.2.2.2 t) i) = s3 (b + 15) (vpl V t i) := hcp i hi 0 (by unfold vwd; omega)
          rw [this, v1]
        · rw [hcp i hi 1 (by unfold vwd; omega), v2]
        · rw [Nat.add_assoc, hcp i hi (2 + j) (by unfold vwd; omega), ← Nat.add_assoc, v3 j hj2])
    have hot2 : OT t V (vj2 (vj1 V t g words) t) := (OT.j1 ht hj.2.1).trans (OT.trans (OT.vs ht (vown_t (c := 4066) (by omega))) (OT.vs ht (vown_t (c := 3933) (by omega))))
    have hp2 : Ipr (vj2 (vj1 V t g words) t).1 := hj.1.ww hot2.1
    have hf2 : VFR (vj2 (vj1 V t g words) t) := fun k hk i hi => by
      have hi : i < V.2.2.1 k := hi
      by_cases e : k = t
      · subst e
        rw [show (vj2 (vj1 V k g words) k).2.2.2 k = vjf V.1 (V.2.2.2 k) from if_pos rfl]
        exact hj.vfr k hk i hi
      · rw [show (vj2 (vj1 V t g words) t).2.2.2 k = V.2.2.2 k from if_neg e]
        exact hj.vfr k hk i hi
    have e65 : s6 (b + 17 + 2 * t) 5 = (vj2 (vj1 V t g words) t).1 (3961 + t) := R6.at ht (e := (5, 3961)) (by decide)
    obtain ⟨s8, c1, c2, c3, -⟩ := c_adds R6 hx hp2 hf2 ht (e := (5, 4017)) (by decide) (v := s6 (b + 17 + 2 * t) 5)
    have c1 : gX9_add b (b + 17 + 2 * t) s6 5 (s6 (b + 17 + 2 * t) 5) = some ((), s8) := c1
    have hp3 : Ipr (vcn (vs (vj2 (vj1 V t g words) t) (4017 + t) ((vj2 (vj1 V t g words) t).1 (4017 + t) + s6 (b + 17 + 2 * t) 5)) 5 (s6 (b + 17 + 2 * t) 5)).1 := Ipr.vs1 (Ipr.vs1 hp2 (by omega)) (by omega)
    obtain ⟨s9, q1, q2, q3⟩ := c_logs c2 hx hp3 hf2 (i1 := 6) i1
    rw [c1, cl_some, q1, cl_some, vjo_1 hWz e, rb_pos rfl]
    refine ⟨s9, zs7, fr6, rfl, ?_, (T6.trans c3).trans (TO.lf q3)⟩
    rw [e65] at q2
    exact q2
end
