/-! ===== JOINED: what is behind it ===== -/
section
variable {s : wt_S} {V : vV} {t B g words np lim : Nat}
theorem vj1_at {lim : Nat} (ho : vo lim V.2.1) : vat (vj1 V t g words).2.1 t 0 = g ∧ vln (vj1 V t g words).2.1 t 0 = words ∧ ∀ t' n, t' ≠ t → (vj1 V t g words).2.1.find? (vkey t' n) = V.2.1.find? (vkey t' n) := by
  have hno : ∀ p ∈ V.2.1.filter (fun q => decide (q.2.2.1 ≠ t)), vkey t 0 p = false := fun p hp => by
    have := (List.mem_filter.mp hp).2
    have h2 : p.2.2.1 ≠ t := by simpa using this
    simp [vkey, h2]
  have hf : (vj1 V t g words).2.1.find? (vkey t 0) = some (g, words, t, 0) := vfind_ins_eq (by simp [vkey]) hno
  refine ⟨?_, ?_, fun t' n hne => ?_⟩
  · unfold vat; rw [hf]
  · unfold vln; rw [hf]
  · show (vins (g, words, t, 0) (V.2.1.filter (fun q => decide (q.2.2.1 ≠ t)))).find? (vkey t' n) = _
    rw [vfind_ins_ne (by simp [vkey]; omega)]
    refine vfind_filter (fun q _ hk => ?_)
    have hk : q.2.2.1 = t' ∧ q.2.2.2 = n := by simpa [vkey] using hk
    simp
    omega
theorem vj1_pl {lim : Nat} (ho : vo lim V.2.1) : vpl (vj1 V t g words) t = fun i => g + vus V.1 (V.2.2.2 t) i := by
  funext i
  have hfr : (vj1 V t g words).2.2.2 t = vjf V.1 (V.2.2.2 t) := if_pos rfl
  unfold vpl
  rw [hfr]
  show vat (vj1 V t g words).2.1 t 0 + _ = _
  rw [(vj1_at ho).1]
  rfl
theorem j_rr {w2 w4 : Nat → Int32} (h : RS s V) (hI : VI 2048 B V) (ht : t < 6) (hg : g + words ≤ 2048 ∧ ∀ q ∈ V.2.1, g + words ≤ q.1 ∨ q.1 + q.2.1 ≤ g) (hu : vus V.1 (V.2.2.2 t) (V.2.2.1 t) ≤ words) (d2 : ∀ x, 2048 ≤ x → x ≠ 3982 + t → w2 x = s 111 x) (d3 : w2 (3982 + t) = nI (g + vus V.1 (V.2.2.2 t) (V.2.2.1 t - 1))) (d4 : ∀ x, x < 2048 → (x < g ∨ g + vus V.1 (V.2.2.2 t) (V.2.2.1 t) ≤ x) → w2 x = s 111 x) (d5 : vMQ w2 V.1 (V.2.2.1 t) (V.2.2.2 t) (fun i => g + vus V.1 (V.2.2.2 t) i) (fun i => g + vus V.1 (V.2.2.2 t) i)) (h4 : ∀ i, vout i → w4 i = w2 i) (hP : vr_P w4 (vins (g, words, t, 0) (V.2.1.filter (fun q => decide (q.2.2.1 ≠ t))))) : RR w4 (vj1 V t g words) := by
  have hj := hI.J
  refine ⟨fun i hi => ?_, hP, w4, fun _ _ => rfl, fun t' ht' => ?_⟩
  · have ho := vtr_out hi
    show _ = mj_upd V.1 (3982 + t) _ i
    rw [h4 i ho.1]
    by_cases ei : i = 3982 + t
    · subst ei; rw [mj_upd_self]; exact d3
    · rw [mj_upd_ne ei, d2 i ho.2 ei, h.2.at hi]
  · refine MR_w (w := V.1) (fun i h1 h2 => mj_upd_ne (by omega)) ?_
    by_cases et : t' = t
    · subst et
      rw [vj1_pl hj.2.1]
      have hfr : (vj1 V t' g words).2.2.2 t' = vjf V.1 (V.2.2.2 t') := if_pos rfl
      rw [hfr]
      intro i hi
      have hi : i < V.2.2.1 t' := hi
      obtain ⟨m1, m2, m3⟩ := d5 i hi
      have hof := vus_lt (w := V.1) (fr := V.2.2.2 t') hi
      unfold vwd at hof
      refine ⟨(hj.fit ht' hi).1, ?_, ?_, fun k hk => ?_⟩
      · show w4 (g + vus V.1 (V.2.2.2 t') i) = _
        rw [h4 _ (Or.inl (by omega))]; exact m1
      · show w4 (g + vus V.1 (V.2.2.2 t') i + 1) = _
        rw [h4 _ (Or.inl (by omega))]; exact m2
      · have hk : k < vsz V.1 (V.2.2.2 t' i).1 := hk
        show w4 (g + vus V.1 (V.2.2.2 t') i + 2 + k) = _
        rw [h4 _ (Or.inl (by omega))]; exact m3 k hk
    · have hfr : (vj1 V t g words).2.2.2 t' = V.2.2.2 t' := if_neg et
      rw [hfr]
      have hM2 : MR w4 V.1 (V.2.2.1 t') (V.2.2.2 t') (vpl V t') := fun i hi => by
        obtain ⟨m1, m2, m3⟩ := h.wd hj rfl ht' hi
        obtain ⟨np, a1, a2, -⟩ := hj.geo ht' (by omega)
        obtain ⟨p, b1, b2, b3, b4, b5⟩ := a2.pc a1 hi
        have hgp := hg.2 p b1
        have hpp := hj.2.1.2 p b1
        have hvp : vpl V t' i = p.1 + (V.2.2.2 t' i).2.2.1 := by unfold vpl; rw [b4]
        unfold vwd at b5
        refine ⟨(hj.fit ht' hi).1, ?_, ?_, fun k hk => ?_⟩
        · rw [h4 _ (Or.inl (by omega)), d4 _ (by omega) (by omega)]; exact m1
        · rw [h4 _ (Or.inl (by omega)), d4 _ (by omega) (by omega)]; exact m2
        · rw [h4 _ (Or.inl (by omega)), d4 _ (by omega) (by omega)]; exact m3 k hk
      have hpl : vpl (vj1 V t g words) t' = vpl V t' := by
        funext i
        unfold vpl
        rw [hfr, (vat_eq ((vj1_at hj.2.1).2.2 t' _ et)).1]
      rw [hpl]
      exact hM2
theorem vos_jf {w : Nat → Int32} {fr : Nat → vF} : ∀ {n : Nat}, vos w (vjf w fr) n = vos w fr n := by
  intro n
  induction n with
  | zero => rfl
  | succ n ih => rw [vos_1, vos_1, ih]; rfl
theorem vj3_ne {i : Nat} (h1 : i ≠ 4017 + t) (h2 : i ≠ 2059) (h3 : i ≠ 2067) : (vj3 V t).1 i = V.1 i := (vlg1_ne h3).trans ((vcn_ne (by omega)).trans (vs_ne h1))
theorem vj2_ne {i : Nat} (h1 : i ≠ 4066 + t) (h2 : i ≠ 3933 + t) : (vj2 V t).1 i = V.1 i := (vs_ne h2).trans (vs_ne h1)
theorem OT.j1 (ht : t < 6) (ho : vo lim V.2.1) : OT t V (vj1 V t g words) := by
  refine ⟨vpe.upd (by omega), fun i h1 h2 => mj_upd_ne (by omega), fun t' ht' hne => ⟨fun j hj => mj_upd_ne (by omega), rfl, if_neg hne⟩, fun q hq => ?_, (vj1_at ho).2.2, fun k hk t' ht' hne => by rw [show (vj1 V t g words).1 (3923 + k) = V.1 (3923 + k) from mj_upd_ne (by omega)]⟩
  show q ∈ vins (g, words, t, 0) (V.2.1.filter (fun q => decide (q.2.2.1 ≠ t))) ↔ _
  rw [vins_mem, List.mem_filter]
  constructor
  · intro h
    rcases h with e | e
    · exact absurd (by rw [e]) hq
    · exact e.1
  · intro h
    exact Or.inr ⟨h, by simpa using hq⟩
theorem vi_jo (hI : VI lim B V) (ht : t < 6) (hb : vbz V.1 t) (hlm : lim ≤ 10000) : VI lim (B + 1) (vjo lim V t).2 := by
  obtain ⟨np, z, z2, z3, k, l, hP, h0, -, ⟨r1, r2, r3⟩, -, ⟨k1, k2⟩, -, -, -, -⟩ := hI.opn ht hb hlm
  obtain ⟨hj, hc, -, hz, h8, hzl, -, hl2, hq⟩ := hP
  have hzz : (V.1 2048).toInt.toNat = z := by rw [hz, nI_int (by omega)]; rfl
  obtain ⟨d1, d2, d3, d4, d5⟩ := hc.2.2.2.2.2.2.1 h0
  obtain ⟨-, n, np', c1, c2, c3, c4, c5, c6, c7, c8, c9, c10, c11, c12, c13, c14, c15, c16, c17⟩ := hI.bz ht h0
  have hN := hc.n hj hlm
  have huse : vuse V t = vus V.1 (V.2.2.2 t) (V.2.2.1 t) := by unfold vuse; rw [hc.2.2.2.2.2.1, nI_int (by omega)]; rfl
  have hkp : vkp V t = vus V.1 (V.2.2.2 t) (V.2.2.1 t) + if vlc V t then z2 else 0 := by
    unfold vkp
    rw [huse, r1, nI_int (by omega)]
    rfl
  have hkb : vkp V t ≤ 10080 := by rw [hkp]; split <;> omega
  obtain ⟨w1, w2, w3⟩ := vdbl_gj (e := vkp V t) (k := 16) (n := z) (by omega) (by omega)
  unfold vjo
  dsimp only
  rw [hzz]
  generalize hW : vdbl (vkp V t) 16 z = words at *
  cases e : vgap lim 0 V.2.1 words with
  | none => exact hI.mono (by omega)
  | some g =>
    obtain ⟨g1, g2⟩ := vgap0 hj.2.1 e
    have hvs : vus V.1 (V.2.2.2 t) (V.2.2.1 t) ≤ words := by rw [hkp] at w1; omega
    have hO1 : OT t V (vj1 V t g words) := OT.j1 ht hj.2.1
    have hO2 : OT t (vj1 V t g words) (vj2 (vj1 V t g words) t) := OT.trans (OT.vs ht (vown_t (c := 4066) (by omega))) (OT.vs ht (vown_t (c := 3933) (by omega)))
    have hO3 : OT t (vj2 (vj1 V t g words) t) (vj3 (vj2 (vj1 V t g words) t) t) := OT.trans (OT.trans (OT.vs ht (vown_t (c := 4017) (by omega))) (OT.cn ht (by omega))) (OT.lg ht)
    have hO := hO1.trans (hO2.trans hO3)
    obtain ⟨a1, a2, a3⟩ := vj1_at (t := t) (g := g) (words := words) hj.2.1
    have hne : ∀ i, i ≠ 3982 + t → i ≠ 4066 + t → i ≠ 3933 + t → i ≠ 4017 + t → i ≠ 2059 → i ≠ 2067 → (vj3 (vj2 (vj1 V t g words) t) t).1 i = V.1 i := fun i q1 q2 q3 q4 q5 q6 => (vj3_ne q4 q5 q6).trans ((vj2_ne q2 q3).trans (mj_upd_ne q1))
    have hps : (vj3 (vj2 (vj1 V t g words) t) t).2.1 = (vj1 V t g words).2.1 := rfl
    have hnn : (vj3 (vj2 (vj1 V t g words) t) t).2.2.1 = V.2.2.1 := rfl
    have hfr : (vj3 (vj2 (vj1 V t g words) t) t).2.2.2 t = vjf V.1 (V.2.2.2 t) := if_pos rfl
    have hplf : ∀ i, vpl (vj3 (vj2 (vj1 V t g words) t) t) t i = g + vus V.1 (V.2.2.2 t) i := fun i => congrFun (vj1_pl hj.2.1) i
    have h66 : (vj3 (vj2 (vj1 V t g words) t) t).1 (4066 + t) = nI 1 := (vj3_ne (by omega) (by omega) (by omega)).trans ((vs_ne (by omega)).trans vs_at)
    have h33 : (vj3 (vj2 (vj1 V t g words) t) t).1 (3933 + t) = 0 := (vj3_ne (by omega) (by omega) (by omega)).trans vs_at
    have h82 : (vj3 (vj2 (vj1 V t g words) t) t).1 (3982 + t) = nI (g + vus V.1 (V.2.2.2 t) (V.2.2.1 t - 1)) := (vj3_ne (by omega) (by omega) (by omega)).trans ((vj2_ne (by omega) (by omega)).trans mj_upd_self)
    have h67 : (vj3 (vj2 (vj1 V t g words) t) t).1 2067 = nI (k + 1) := by
      show (vlg1 _).1 2067 = _
      rw [vlg1_at, vcn_ne (by omega), vs_ne (by omega), vj2_ne (by omega) (by omega), show (vj1 V t g words).1 2067 = V.1 2067 from mj_upd_ne (by omega), k1, nI_1]
    show VI lim (B + 1) (vj3 (vj2 (vj1 V t g words) t) t)
    generalize vj3 (vj2 (vj1 V t g words) t) t = V5 at *
    have hw := hO.1
    have hmem : ∀ q, q ∈ (vj1 V t g words).2.1 ↔ q = (g, words, t, 0) ∨ (q ∈ V.2.1 ∧ q.2.2.1 ≠ t) := fun q => by
      show q ∈ vins _ _ ↔ _
      rw [vins_mem, List.mem_filter]
      simp
    have hff : ∀ i, i < n + 1 → (V.2.2.2 t i).1 < 10 := fun i hi => (c9.1 i hi).1
    have hvus : ∀ m, m ≤ n + 1 → vus V5.1 (vjf V.1 (V.2.2.2 t)) m = vus V.1 (V.2.2.2 t) m := fun m hm => by
      rw [(hw.us (k := 0) (fr := vjf V.1 (V.2.2.2 t)) (n := m) (fun i hi => hff i (by omega))).1, vus_jf]
    have hvos : vos V5.1 (vjf V.1 (V.2.2.2 t)) (n + 1) = vos V.1 (V.2.2.2 t) (n + 1) := by
      have h1 : vos V5.1 (vjf V.1 (V.2.2.2 t)) (n + 1) = vos V5.1 (V.2.2.2 t) (n + 1) := by
        have : ∀ m, vos V5.1 (vjf V.1 (V.2.2.2 t)) m = vos V5.1 (V.2.2.2 t) m := by
          intro m
          induction m with
          | zero => rfl
          | succ m ih => rw [vos_1, vos_1, ih]; rfl
        exact this _
      rw [h1]
      exact vos_w hw hI.2.1 c9 _ (Nat.le_refl _)
    have hn1 : V.2.2.1 t - 1 = n := by omega
    have hcov : ∀ i, i < n + 1 → vcv (V.2.2.2 t i) → vus V.1 (V.2.2.2 t) (n + 1) + z2 ≤ words := fun i hi hcv => by
      have hl : vcv (V.2.2.2 t n) := c9.cov (i := i) (j := n) (by omega) (by omega) hcv
      have : vlc V t = true := by
        unfold vlc
        rw [hn1]
        simp
        exact ⟨by omega, hl⟩
      rw [hkp, this, c1] at w1
      simpa using w1
    rw [c1] at hvs
    refine hI.ot hO ht ⟨?_, ?_, fun q hq2 => ?_⟩ (isd_ot hI.2.2.2.1 hO (fun i hi => hne i (by omega) (by omega) (by omega) (by omega) (by omega) (by omega))) ⟨k + 1, by omega, h67⟩ (Or.inl ⟨?_, n, 1, ?_, ?_, h66, by omega, ?_, ?_, ?_, ?_, ?_, ?_, ?_, ?_, ?_, ?_, ?_, ?_, ?_⟩)
    · rw [hps]
      exact vo_ins (vo_sub hj.2.1 List.filter_sublist) ⟨by show 1 ≤ words; omega, g1, ht, by show 0 < 4294967296; omega⟩ (fun p hp => g2 p (List.mem_filter.mp hp).1)
    · rw [hps]
      exact vkeys_pw (fun p q h e => h ⟨e.1.symm, e.2.symm⟩) (hj.2.2.1.sublist List.filter_sublist) (fun p hp e => by
        have := (List.mem_filter.mp hp).2
        have h2 : p.2.2.1 ≠ t := by simpa using this
        exact h2 e.1.symm)
    · rw [hps] at hq2
      rw [hzz]
      rcases (hmem q).mp hq2 with e | e
      · rw [e]; exact w2
      · exact hq q e.1
    · unfold vbz at hb ⊢
      rw [hne _ (by omega) (by omega) (by omega) (by omega) (by omega) (by omega)]
      exact hb
    · rw [hnn]; exact c1
    · rw [hne _ (by omega) (by omega) (by omega) (by omega) (by omega) (by omega)]; exact c2
    · rw [hps]
      refine ⟨fun k hk => ⟨(g, words, t, 0), (hmem _).mpr (Or.inl rfl), rfl, by show 0 = k; omega⟩, fun q hq2 e => ?_⟩
      rcases (hmem q).mp hq2 with e2 | e2
      · rw [e2]; exact Or.inl (by show 0 < 1; omega)
      · exact absurd e e2.2
    · rw [h33, hps]
      refine Or.inl ⟨rfl, rfl, fun q hq2 e => ?_⟩
      rcases (hmem q).mp hq2 with e2 | e2
      · rw [e2] at e; exact absurd e.2 (by show ¬ 0 = 1000; omega)
      · exact e2.2 e.1
    · rw [hfr, hps]
      refine ⟨fun i hi => ⟨by show 0 < 1; omega, ?_⟩, ⟨rfl, by show 0 ≤ 1; omega⟩, fun i hi => Or.inl ⟨rfl, ?_⟩⟩
      · show vus V.1 (V.2.2.2 t) i + vwd V5.1 (V.2.2.2 t i).1 ≤ vln (vj1 V t g words).2.1 t 0
        have := vus_lt (w := V.1) (fr := V.2.2.2 t) hi
        rw [a2, (hw.sz (hff i hi)).2.1]
        omega
      · show vus V.1 (V.2.2.2 t) (i + 1) = vus V.1 (V.2.2.2 t) i + vwd V5.1 (V.2.2.2 t i).1
        rw [(hw.sz (hff i (by omega))).2.1]
        rfl
    · rw [hfr]; rfl
    · rw [hfr, hps]
      have hbase : Ifr V.1 (vj1 V t g words).2.1 t (n + 1) (vjf V.1 (V.2.2.2 t)) := by
        refine ⟨c9.1, c9.2.1, c9.2.2.1, c9.2.2.2.1, fun i hi hcv => ?_, c9.2.2.2.2.2⟩
        obtain ⟨d, e1, e2, e3⟩ := c9.2.2.2.2.1 i hi hcv
        refine ⟨d, e1, e2, ?_⟩
        show vus V.1 (V.2.2.2 t) i + d ≤ vln (vj1 V t g words).2.1 t 0
        have h1 := hcov i hi hcv
        have h2 := vus_lt (w := V.1) (fr := V.2.2.2 t) hi
        rw [r1, nI_int (by omega)] at e2
        rw [a2]
        have e2 : d ≤ z2 := e2
        omega
      exact hbase.ww hw hI.2.1
    · rw [hfr, hvus _ (Nat.le_refl _), hne _ (by omega) (by omega) (by omega) (by omega) (by omega) (by omega)]; exact c10
    · rw [h82, hplf, hn1]
    · rw [hne _ (by omega) (by omega) (by omega) (by omega) (by omega) (by omega), hfr]; exact c12
    · rw [hne _ (by omega) (by omega) (by omega) (by omega) (by omega) (by omega)]; exact c13
    · rw [hfr, hvos, hne _ (by omega) (by omega) (by omega) (by omega) (by omega) (by omega)]; exact c14
    · rw [hfr, hvos]; exact c15
    · rw [hfr, hvos, hne _ (by omega) (by omega) (by omega) (by omega) (by omega) (by omega)]
      rcases c16 with c16 | ⟨k, k1, k2, k3, k4⟩
      · exact Or.inl c16
      · exact Or.inr ⟨k, k1, k2, (hne _ (by omega) (by omega) (by omega) (by omega) (by omega) (by omega)).trans k3, k4⟩
    · rw [hne _ (by omega) (by omega) (by omega) (by omega) (by omega) (by omega)]
      exact hw.tl.mpr c17
theorem vjo_0 (hW : vdbl (vkp V t) 16 (V.1 2048).toInt.toNat = words) (e : vgap lim 0 V.2.1 words = none) : vjo lim V t = (false, V) := by
  unfold vjo
  dsimp only
  rw [hW, e]
theorem vjo_1 (hW : vdbl (vkp V t) 16 (V.1 2048).toInt.toNat = words) (e : vgap lim 0 V.2.1 words = some g) : vjo lim V t = (true, vj3 (vj2 (vj1 V t g words) t) t) := by
  unfold vjo
  dsimp only
  rw [hW, e]
/-- JOINED, as it is asked for -/
def vjoin (V : vV) (x : Int32) : Int32 × vV := if (0 ≤ x.toInt ∧ x.toInt ≤ 5) ∧ vby V x.toInt.toNat = true ∧ V.1 (3933 + x.toInt.toNat) = 1 then (rb ((vjo 2048 V x.toInt.toNat).1 = true), (vjo 2048 V x.toInt.toNat).2) else (0, V)
theorem q_jo {np z z2 k : Nat} (h : RS s V) (hI : VI 2048 B V) (ht : t < 6) (hb : vbz V.1 t) (hP : Vpre 2048 V t np z) (h0 : 0 < V.2.2.1 t) (hr : V.1 2051 = nI z2) (hz2 : z2 ≤ 80) (hk : V.1 2067 = nI k) (hk2 : k < 2147483000) : ∃ s', gX11_join_40 wt_N s (nI t) (nI z) = some (rb ((vjo 2048 V t).1 = true), s') ∧ RS s' (vjo 2048 V t).2 ∧ RF s s' := by
  obtain ⟨hj, hc, -, hz, h8, hzl, -, hl2, hq⟩ := hP
  have hzz : (V.1 2048).toInt.toNat = z := by rw [hz, nI_int (by omega)]; rfl
  obtain ⟨hkept, hkb⟩ := q_keptOf h hj hc ht hr hz2
  have hN := hc.n hj (by omega)
  have hnp := hc.2.2.1
  have huse : vuse V t = vus V.1 (V.2.2.2 t) (V.2.2.1 t) := by unfold vuse; rw [hc.2.2.2.2.2.1, nI_int (by omega)]; rfl
  have hku : vus V.1 (V.2.2.2 t) (V.2.2.1 t) ≤ vkp V t := by unfold vkp; rw [huse]; omega
  obtain ⟨w1, w2, w3⟩ := vdbl_gj (e := vkp V t) (k := 16) (n := z) (by omega) (by omega)
  -- doubled as often as need be
  have hdb : ∀ (m n fu : Nat), n ≤ 100000 → m < fu → vkp V t ≤ n * 2 ^ m → 1 ≤ n → ∃ fu', gX11_join_40 fu s (nI t) (nI n) = gX11_join_40 (fu' + 1) s (nI t) (nI (vdbl (vkp V t) m n)) ∧ vkp V t ≤ vdbl (vkp V t) m n := by
    intro m
    induction m with
    | zero =>
      intro n fu hn hfu hm h1
      obtain ⟨fu, rfl⟩ : ∃ m, fu = m + 1 := ⟨fu - 1, by omega⟩
      rw [Nat.pow_zero, Nat.mul_one] at hm
      exact ⟨fu, rfl, hm⟩
    | succ m ih =>
      intro n fu hn hfu hm h1
      obtain ⟨fu, rfl⟩ : ∃ m, fu = m + 1 := ⟨fu - 1, by omega⟩
      by_cases c : n < vkp V t
      · obtain ⟨fu', e1, e2⟩ := ih (n * 2) fu (by omega) (by omega) (by rw [Nat.mul_assoc, show 2 * 2 ^ m = 2 ^ (m + 1) by rw [Nat.pow_succ]; omega]; exact hm) (by omega)
        have ev : vdbl (vkp V t) (m + 1) n = vdbl (vkp V t) m (n * 2) := by rw [vdbl, if_pos c]
        refine ⟨fu', ?_, by rw [ev]; exact e2⟩
        rw [ev, ← e1, gX11_join_40, hkept, cl_some, nI_int (by omega), nI_int (by omega), if_neg (by omega), li_mul2]
      · have ev : vdbl (vkp V t) (m + 1) n = n := by rw [vdbl, if_neg c]
        exact ⟨fu, by rw [ev], by rw [ev]; omega⟩
  obtain ⟨fu', e1, e2⟩ := hdb 16 z wt_N (by omega) (by unfold wt_N; omega) (by omega) (by omega)
  generalize hW : vdbl (vkp V t) 16 z = words at *
  have hgf := q_gapFor (words := words) h.2.2.1 hj.2.1 (by omega)
  rw [e1, gX11_join_40, hkept, cl_some, nI_int (by omega), nI_int (by omega), if_pos (by omega), hgf, cl_some]
  cases e : vgap 2048 0 V.2.1 words with
  | none =>
    rw [vjo_0 (by rw [hzz]; exact hW) e, oI_none, if_neg (by simp), rb_neg (by simp)]
    exact ⟨s, rfl, h, RF.refl⟩
  | some g =>
    obtain ⟨g1, g2⟩ := vgap0 hj.2.1 e
    rw [vjo_1 (by rw [hzz]; exact hW) e]
    have hu : vus V.1 (V.2.2.2 t) (V.2.2.1 t) ≤ words := by omega
    have hF0 : RF s (wt_u s 110 9 0) := RF.uo (by omega) (by omega)
    have h90 : (wt_u s 110 9 0) 111 = s 111 := wt_u_ne (by omega)
    obtain ⟨s2, fu2, f1, f2, f3, f4⟩ := q_join_80 (g := g) (l2 := nI words) (l3 := nI g) h hI ht hb hc np 0 wt_N (wt_u s 110 9 0) (by omega) (by unfold wt_N; omega) hF0 h90 PT.nil
    have hR2 : RS s2 V := h.of f2 f3
    obtain ⟨wt2, ⟨wt1, c1, c2⟩, d2, d3, d4, d5⟩ := q_join_c hR2 hI ht hc h0 ⟨g1, g2⟩ hu f4
    have hl := h.2.2.1.2.1
    have hP2 : vr_P wt2 V.2.1 := vr_P_eq (fun i h1 h2 => d2 i (by omega) (by omega)) hR2.2.2.1
    obtain ⟨w3', n', k1, k2, k3⟩ := q_join_167 (ps := V.2.1) (l2 := nI words) (l3 := nI g) ht hl (fun q hq => (hj.2.1.2 q hq).2.2.1) V.2.1.length wt_N (wt_uf s2 111 wt2) (Nat.le_refl _) (by unfold wt_N; omega) (by rw [List.take_length, List.drop_length, wt_uf_at]; simpa using hP2)
    rw [wt_uf_at] at k3
    have hlf : (V.2.1.filter (fun q => decide (q.2.2.1 ≠ t))).length < 256 := by
      have := vlen256 hj.2.1 (fun q hq2 => by have := hq q hq2; omega) (by omega) e
      have h2 : (V.2.1.filter (fun q => decide (q.2.2.1 ≠ t))).length ≤ V.2.1.length := List.length_filter_le ..
      omega
    obtain ⟨w4, t1, t2, t3⟩ := q_takes (s := wt_uf (wt_uf s2 111 wt2) 111 w3') (ps := V.2.1.filter (fun q => decide (q.2.2.1 ≠ t))) (t := t) (a := g) (words := words) (number := 0) (by rw [wt_uf_at]; exact k2) (vo_sub hj.2.1 List.filter_sublist) hlf (by omega)
    rw [wt_uf_at] at t3
    have hRR : RR w4 (vj1 V t g words) := j_rr hR2 hI ht ⟨g1, g2⟩ hu d2 d3 d4 d5 (fun i hi => by rw [t3 i hi, k3 i hi]) t2
    have a0 : RS (wt_uf s2 111 w4) (vj1 V t g words) := hR2.uf hRR
    have a1 := a0.u (i := 4066 + t) (v := 1) (vtt (by omega) ht) (Or.inr (by omega))
    have a2 := a1.u (i := 3933 + t) (v := 0) (vtt (by omega) ht) (Or.inr (by omega))
    have a2 : RS _ (vj2 (vj1 V t g words) t) := a2
    have a3 := a2.u (i := 4017 + t) (v := (vj2 (vj1 V t g words) t).1 (4017 + t) + (vj2 (vj1 V t g words) t).1 (3961 + t)) (vtt (by omega) ht) (Or.inr (by omega))
    obtain ⟨b1, b2⟩ := q_cnt (c := 5) (v := (vj2 (vj1 V t g words) t).1 (3961 + t)) a3 (by omega)
    obtain ⟨s9, l1, l2, l3⟩ := q_log (a := 6) (b := nI t) (c := nI g) (d := nI words) (k := k) b2 (by rw [vcn_ne (by omega), vs_ne (by omega), vj2_ne (by omega) (by omega), show (vj1 V t g words).1 2067 = V.1 2067 from mj_upd_ne (by omega)]; exact hk) (by omega)
    have hFF : RF s s9 := f2.trans ((RF.uf (f := w4) (Or.inl rfl)).trans ((RF.uf (Or.inl rfl)).trans ((RF.uf (Or.inl rfl)).trans ((RF.uf (Or.inl rfl)).trans ((RF.uf (Or.inl rfl)).trans l3)))))
    refine ⟨s9, ?_, l2, hFF⟩
    have f1 : gX11_join_80 wt_N (wt_u s 110 9 0) (nI t) (nI words) (nI g) (nI g) 0 = _ := f1
    have hm1 : (wt_uf s2 111 wt2) 111 2898 - 1 = nI V.2.1.length + (-1) := by rw [wt_uf_at, hP2.1, i_sub1]
    rw [oI_some, if_pos (nI_m1 (by omega)), wr_eq, f1, gX11_join_80, li_add, ix_nI (by omega) (by omega), hR2.tk (c := 4066) (by omega) ht, hc.2.1, nI_int (by omega), if_pos (Int.le_refl _), c1, cl_some, c2, cl_some, hm1, k1, gX11_join_167, if_pos (by decide), show gX11_takes (wt_uf (wt_uf s2 111 wt2) 111 w3') (nI t) (nI g) (nI words) 0 = _ from t1, cl_some, uf_uf, uf_uf, li_add, ix_nI (by omega) (by omega), wr_eq, li_add, ix_nI (by omega) (by omega), wr_eq, li_add, ix_nI (by omega) (by omega), li_add, ix_nI (by omega) (by omega), ix_nI (by omega) (by omega), wr_eq, ix_nI (by omega) (by omega), a2.tk (c := 4017) (by omega) ht, a2.tk (c := 3961) (by omega) ht, a3.tk (c := 3961) (by omega) ht, vs_ne (show 3961 + t ≠ 4017 + t by omega), show gX11_counts _ 5 _ = _ from b1, cl_some, l1, cl_some, rb_pos rfl]
theorem q_join {x : Int32} (h : RS s V) (hI : VI 2048 B V) (hB : B < 2147483000) : ∃ s', gX11_join s x = some ((vjoin V x).1, s') ∧ RS s' (vjoin V x).2 ∧ RF s s' ∧ VI 2048 (B + 1) (vjoin V x).2 := by
  unfold gX11_join
  rw [q_isTask, cl_some, if_rb]
  by_cases c1 : 0 ≤ x.toInt ∧ x.toInt ≤ 5
  · obtain ⟨t, ht, rfl, etn⟩ := i_task c1
    rw [if_pos c1, q_busy h ht, cl_some, if_rb]
    by_cases c2 : vby V t = true
    · rw [if_pos c2, li_add, ix_nI (by omega) (by omega), h.tk (c := 3933) (by omega) ht]
      by_cases c3 : V.1 (3933 + t) = 1
      · have hb := vby_iff.mp c2
        have hv : vjoin V (nI t) = (rb ((vjo 2048 V t).1 = true), (vjo 2048 V t).2) := by unfold vjoin; rw [etn, if_pos ⟨c1, c2, c3⟩]
        obtain ⟨np, z, z2, z3, k, l, hP, h0, -, ⟨r1, r2, r3⟩, -, ⟨k1, k2⟩, -, -, -, -⟩ := hI.opn ht hb (by omega)
        obtain ⟨s', f1, f2, f3⟩ := q_jo h hI ht hb hP h0 r1 (by omega) k1 (by omega)
        rw [if_pos c3, h.se (c := 2048) (by omega), hP.2.2.2.1, hv]
        exact ⟨s', f1, f2, f3, vi_jo hI ht hb (by omega)⟩
      · have hv : vjoin V (nI t) = (0, V) := by unfold vjoin; rw [etn, if_neg (fun e => c3 e.2.2)]
        rw [if_neg c3, hv]
        exact ⟨s, rfl, h, RF.refl, hI.mono (by omega)⟩
    · have hv : vjoin V (nI t) = (0, V) := by unfold vjoin; rw [etn, if_neg (fun e => c2 e.2.1)]
      rw [if_neg c2, hv]
      exact ⟨s, rfl, h, RF.refl, hI.mono (by omega)⟩
  · have hv : vjoin V x = (0, V) := by unfold vjoin; rw [if_neg (fun e => c1 e.1)]
    rw [if_neg c1, hv]
    exact ⟨s, rfl, h, RF.refl, hI.mono (by omega)⟩
end
