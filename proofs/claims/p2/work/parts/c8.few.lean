/-! ===== the class: start, stop, quiet, join, compact ===== -/
section
variable {B B' : Nat} {s s' : wt_S} {V V' : vV} {zs zs' : List (vP × Nat)} {fr fr' : List Nat} {t np f : Nat} {x : Int32}
theorem NW.to (h : NW B s V) (hR' : RC 11 2048 s' V' zs' fr') (hto : TO 11 t s s') (hI' : VI 2048 B' V') (hw : vpe V.1 V'.1) (hWt : WL V' t) : NW B' s' V' := by
  obtain ⟨⟨zs, fr, hR⟩, hI, hW, hK, hT⟩ := h
  refine ⟨⟨zs', fr', hR'⟩, hI', fun t' ht' => ?_, hK.nf hto.2.n1, fun k hk => by rw [hto.2 _ (by omega)]; exact hT k hk⟩
  by_cases e : t' = t
  · subst e; exact hWt
  · exact (hW t' ht').cls hR hR' hI hI' ht' (hto.1 t' ht' e).1 hw
theorem rb_if {p : Prop} [Decidable p] {s : wt_S} : (if rb p = (0 : Int32) then some ((0 : Int32), s) else some (1, s)) = some (rb p, s) := by
  by_cases c : p
  · rw [rb_pos c]; rfl
  · rw [rb_neg c]; rfl
theorem c_startop {x f a mode : Int32} (h : NW B s V) : ∃ s', gX10_start s x f a mode = some ((vstart V x f a mode).1, s') ∧ NW (B + 3) s' (vstart V x f a mode).2 ∧ NF s s' := by
  have h' := h
  obtain ⟨⟨zs, fr, hR⟩, hI, hW, hK, hT⟩ := h'
  unfold gX10_start
  rw [c_isTask, cl_some, if_rb]
  by_cases c1 : 0 ≤ x.toInt ∧ x.toInt ≤ 5
  · obtain ⟨t, ht, rfl, etn⟩ := i_task c1
    rw [if_pos c1, ix_nI ht (by omega), c_on hR ht, cl_some, if_rbn]
    by_cases c2 : vby V t = true
    · have hv : vstart V (nI t) f a mode = (0, V) := by unfold vstart; rw [if_neg (fun e => by have := e.2.1; rw [etn, c2] at this; cases this)]
      rw [if_pos c2, hv]
      exact ⟨s, rfl, h.mono (by omega), NF.refl⟩
    · have c2' : vby V t = false := by simpa using c2
      rw [if_neg c2, c_told hR.2.2.2.2.2, cl_some, if_rbn]
      by_cases c3 : tld V.1 f
      · obtain ⟨f', f1, rfl, f3, f4⟩ := tld_nat c3
        rw [if_pos c3]
        by_cases c4 : mode = 0 ∨ mode = 1
        · have hv : vstart V (nI t) (nI f') a mode = (rb ((vbg 2048 V t f' a mode).1 = true), (vbg 2048 V t f' a mode).2) := by unfold vstart; rw [if_pos ⟨c1, by rw [etn]; exact c2', c3, c4⟩, etn, f3]
          have hid := hI.idle ht c2'
          obtain ⟨s', zs', fr', e1, e2, e3⟩ := c_begin (a := a) (mode := mode) hR cx11 hI ht hid f1 f4 c4
          have key : gX10_start_49 s (nI t) (nI f') a mode = some (rb ((vbg 2048 V t f' a mode).1 = true), s') := by
            unfold gX10_start_49
            rw [ix_nI ht (by omega), e1, cl_some, rb_if]
          rw [hv]
          refine ⟨s', ?_, h.to e2 e3 (vi_bg hI (by omega) ht hid f1 f4 c4) (vbg_pe ht) (wl_bg hI (by omega) ht hid f1 f4 c4), e3.2.n1⟩
          rcases c4 with c4 | c4
          · rw [if_pos c4]; exact key
          · rw [if_neg (by rw [c4]; decide), if_neg (fun e => e c4)]; exact key
        · have hv : vstart V (nI t) (nI f') a mode = (0, V) := by unfold vstart; rw [if_neg (fun e => c4 e.2.2.2)]
          rw [hv, if_neg (fun e => c4 (Or.inl e)), if_pos (fun e => c4 (Or.inr e))]
          exact ⟨s, rfl, h.mono (by omega), NF.refl⟩
      · have hv : vstart V (nI t) f a mode = (0, V) := by unfold vstart; rw [if_neg (fun e => c3 e.2.2.1)]
        rw [if_neg c3, hv]
        exact ⟨s, rfl, h.mono (by omega), NF.refl⟩
  · have hv : vstart V x f a mode = (0, V) := by unfold vstart; rw [if_neg (fun e => c1 e.1)]
    rw [if_neg c1, hv]
    exact ⟨s, rfl, h.mono (by omega), NF.refl⟩
theorem OT.cr (ht : t < 6) : OT t V (vcr V t) := ⟨fun i hi => vcr_ne ht (by omega), fun i h1 h2 => vcr_ne ht (by omega), fun t' ht' hne => ⟨fun j hj => vcr_ne ht (by omega), rfl, rfl⟩, fun _ _ => Iff.rfl, fun _ _ _ => rfl, fun k hk t' ht' hne => by rw [vcr_ne ht (by omega)]⟩
theorem sd_of (hI : VI 2048 B V) (ht : t < 6) : V.1 (3989 + t) = -1 ∨ ∃ k, k < 3 ∧ V.1 (3989 + t) = nI k ∧ V.1 (3923 + k) = nI t := by
  rcases hI.sid ht with e | ⟨k, e1, e2⟩
  · exact Or.inl e
  · exact Or.inr ⟨k, e1, e2, hI.sdt ht e1 e2⟩
theorem itp_of (hI : VI 2048 B V) (ht : t < 6) : ∃ np, V.1 (4066 + t) = nI np ∧ np ≤ 256 ∧ Itp V.2.1 t np := by
  rcases hI.2.2.2.2.2 t ht with ⟨-, n, np, -, -, e3, e4, e5, -⟩ | b
  · exact ⟨np, e3, e4.2, e5⟩
  · exact ⟨0, b.2.2.1, by omega, fun k hk => by omega, fun q hq e => absurd e (b.2.2.2.2.2.2.2.2 q hq)⟩
theorem c_stopT (h : RC 11 2048 s V zs fr) (hI : VI 2048 B V) (ht : t < 6) : ∃ s1 s' zs' fr', gX9_releasePieces 11 (11 + 17 + 2 * t) s = some ((), s1) ∧ gX7_clear (11 + 17 + 2 * t) s1 = some ((), s') ∧ RC 11 2048 s' (vcr (vga V t) t) zs' fr' ∧ TO 11 t s s' := by
  have hj := hI.J
  obtain ⟨np, n1, n2, n3⟩ := itp_of hI ht
  have hsd := sd_of hI ht
  have hsd' := hI.sid ht
  obtain ⟨s1, zs1, fr1, a1, a2, a3, a4, a5, a6, a7, a8⟩ := c_rel cx11 ht h.2.1 h.1 hj.2.1 hj.2.2.1 n3 n2 (h.ch ht n1)
  obtain ⟨s2, d1, d2, d3, d4⟩ := c_clear (s := s1) (T := 11 + 17 + 2 * t)
  refine ⟨s1, s2, zs1, fr1, a1, d1, ?_, ?_⟩
  · have hot : OT t V (vcr (vga V t) t) := (ot_ga0 ht hsd).trans (OT.cr ht)
    have hn0 : (vcr (vga V t) t).2.2.1 t = 0 := by
      show (vga V t).2.2.1 t = 0
      rw [vga_2]; exact mj_upd_self
    have f2 : ∀ c, ¬ (11 + 2 ≤ c ∧ c ≤ 11 + 9) → c ≠ 11 + 17 + 2 * t → c ≠ 11 + 17 + 2 * t + 1 → s2 c = s c := fun c h1 h2 h3 => by rw [d2 c h2 h3, a7 c h1 h2]
    have hto : TO 11 t s s2 := ⟨fun k hk hne => ⟨f2 _ (by omega) (by omega) (by omega), f2 _ (by omega) (by omega) (by omega)⟩, fun c hc => f2 c (by omega) (by omega) (by omega)⟩
    have hTj : ∀ j, 1 ≤ j → j ≤ 16 → s2 (11 + 17 + 2 * t) j = if j = 7 ∨ (9 ≤ j ∧ j ≤ 13) ∨ j = 15 then -1 else 0 := fun j j1 j2 => by
      rw [d3]
      unfold clr
      rw [if_neg (by omega)]
    have hz : ∀ y ∈ zs1, y.1.2.2.1 ≠ t := fun y hy => ((a4 y).mp hy).2
    refine h.op cx11 hj.1 hot ht hto hj.vfr (fun y hy => ?_) (fun y hy hyt => ⟨by rw [d2 _ (by omega) (by omega), a5], by rw [d2 _ (by omega) (by omega), a6]⟩) ?_ (a2.eq (fun c hc => d2 c (by omega) (by omega))) ⟨fun j hj => ?_, fun j hj => ?_⟩ ⟨⟨?_, fun e he => ?_, fun e he => ?_⟩, ⟨fun _ => ⟨?_, ?_⟩, fun h1 => by rw [hn0] at h1; omega⟩, ⟨fun _ => ?_, fun y hy hyt => absurd hyt (hz y hy)⟩, ⟨fun y hy hyt => absurd hyt (hz y hy), fun _ => ?_⟩, fun e => ?_, fun y hy hyt => absurd hyt (hz y hy)⟩ ?_
    · rw [a4]
      exact ⟨fun q => q.1, fun q => ⟨q, hy⟩⟩
    · rw [a3]
      show _ = (vga V t).2.1
      rw [vga_2]
    · rw [f2 _ (by omega) (by omega) (by omega), vcr_ne ht (by omega), (vga_i hsd').2 (by omega)]; exact h.2.2.1.1 j hj
    · rw [f2 _ (by omega) (by omega) (by omega), vcr_ne ht (by omega), (vga_i hsd').2 (by omega)]; exact h.2.2.1.2 j hj
    · rw [d3]
      unfold clr
      rw [if_pos (Or.inl rfl), a8, mj_upd_ne (by omega)]
      exact (h.2.2.2.1 t ht).1.1
    · have q : ∀ e ∈ tf, 1 ≤ e.1 ∧ e.1 ≤ 16 ∧ ((e.1 = 7 ∨ (9 ≤ e.1 ∧ e.1 ≤ 13) ∨ e.1 = 15) ↔ (e.2 = 3975 ∨ e.2 = 3989)) := by decide
      obtain ⟨q1, q2, q3⟩ := q e he
      have q4 := tf_p e he
      rw [hTj _ q1 q2]
      by_cases c : e.2 = 3975 ∨ e.2 = 3989
      · rw [if_pos (q3.mpr c)]
        rcases c with c | c
        · rw [c, vcr_f.1]
        · rw [c, vcr_f.2]
      · rw [if_neg (fun r => c (q3.mp r)), vcr_0 ht (by omega) (by omega)]
    · have q : ∀ e ∈ ts, e.1 < 12 ∧ e.2 ≠ 3975 ∧ e.2 ≠ 3989 := by decide
      obtain ⟨q1, q2, q3⟩ := q e he
      have q4 := ts_p e he
      rw [d4 _ q1, vcr_0 ht (by omega) (by omega)]
    · rw [hTj _ (by omega) (by omega), if_pos (by omega)]
    · rw [hTj _ (by omega) (by omega), if_pos (by omega)]
    · rw [hTj _ (by omega) (by omega), if_pos (by omega)]
    · rw [hTj _ (by omega) (by omega), if_pos (by omega)]
    · exact absurd (vcr_0 (c := 3926) ht (by omega) (by omega)) e
    · rw [f2 _ (by omega) (by omega) (by omega)]
      exact fun t' ht' => MR_w (fun i i1 i2 => vcr_ne ht (by omega)) (VM.ga hj ht h.2.2.2.2.1 hsd' t' ht')
  · exact ⟨fun k hk hne => ⟨by rw [d2 _ (by omega) (by omega), a7 _ (by omega) (by omega)], by rw [d2 _ (by omega) (by omega), a7 _ (by omega) (by omega)]⟩, fun c hc => by rw [d2 _ (by omega) (by omega), a7 _ (by omega) (by omega)]⟩
theorem c_stopop (h : NW B s V) : ∃ s', gX10_stop s x = some ((vsto V x).1, s') ∧ NW B s' (vsto V x).2 ∧ NF s s' := by
  have h' := h
  obtain ⟨⟨zs, fr, hR⟩, hI, hW, hK, hT⟩ := h'
  unfold gX10_stop
  rw [c_isTask, cl_some, if_rb]
  by_cases c1 : 0 ≤ x.toInt ∧ x.toInt ≤ 5
  · obtain ⟨t, ht, rfl, etn⟩ := i_task c1
    have e : s (11 + 17 + 2 * t) 1 = V.1 (3926 + t) := hR.at ht (e := (1, 3926)) (by decide)
    rw [if_pos c1, ix_nI ht (by omega), e]
    by_cases c2 : V.1 (3926 + t) ≠ 0
    · have hv : vsto V (nI t) = (1, vcr (vga V t) t) := by unfold vsto; rw [if_pos c1, etn, if_pos c2]
      have hIs := hI.stop (x := nI t)
      rw [hv] at hIs ⊢
      obtain ⟨s1, s2, zs', fr', a1, a2, a3, a4⟩ := c_stopT hR hI ht
      rw [if_pos c2, ix_nI ht (by omega), a1, cl_some, ix_nI ht (by omega), a2, cl_some]
      refine ⟨s2, rfl, h.to a3 a4 hIs ((ot_ga0 ht (sd_of hI ht)).trans (OT.cr ht)).1 (WL.no ?_), a4.2.n1⟩
      rw [vcr_0 ht (by omega) (by omega)]
      decide
    · have hv : vsto V (nI t) = (0, V) := by unfold vsto; rw [if_pos c1, etn, if_neg c2]
      rw [if_neg c2, hv]
      exact ⟨s, rfl, h, NF.refl⟩
  · have hv : vsto V x = (0, V) := by unfold vsto; rw [if_neg c1]
    rw [if_neg c1, hv]
    exact ⟨s, rfl, h, NF.refl⟩
theorem c_quietop (h : NW B s V) : ∃ s', gX10_quiet s x = some ((vquiet V x).1, s') ∧ NW (B + 1) s' (vquiet V x).2 ∧ NF s s' := by
  have h' := h
  obtain ⟨⟨zs, fr, hR⟩, hI, hW, hK, hT⟩ := h'
  unfold gX10_quiet
  rw [c_isTask, cl_some, if_rb]
  by_cases c1 : 0 ≤ x.toInt ∧ x.toInt ≤ 5
  · obtain ⟨t, ht, rfl, etn⟩ := i_task c1
    rw [if_pos c1, ix_nI ht (by omega), c_on hR ht, cl_some, if_rb]
    by_cases c2 : vby V t = true
    · have hb := vby_iff.mp c2
      have hv : vquiet V (nI t) = (rb ((vqu 2048 V t).1 = true), (vqu 2048 V t).2) := by unfold vquiet; rw [etn, if_pos ⟨c1, c2⟩]
      obtain ⟨np, z, z2, z3, k, l, hP, -, -, ⟨r1, -, r3⟩, -⟩ := hI.opn ht hb (by omega)
      obtain ⟨s', zs', fr', a1, a2, a3⟩ := c_quiet hR cx11 hP r1 r3
      have hq := fun i h1 h2 h3 h4 h5 h6 => (vqu_w (lim := 2048) (V := V) (t := t) (i := i) h1 h2 h3 h4 h5 h6).1
      rw [hv, if_pos c2, ix_nI ht (by omega), a1, cl_some, rb_if]
      exact ⟨s', rfl, h.to a2 a3 (vi_qu hI ht hb (by omega)) (fun i hi => hq i (by omega) (by omega) (by omega) (by omega) (by omega) (by omega)) (wl_qu (hW t ht) hI ht hb), a3.2.n1⟩
    · have hv : vquiet V (nI t) = (0, V) := by unfold vquiet; rw [etn, if_neg (fun e => c2 e.2)]
      rw [if_neg c2, hv]
      exact ⟨s, rfl, h.mono (by omega), NF.refl⟩
  · have hv : vquiet V x = (0, V) := by unfold vquiet; rw [if_neg (fun e => c1 e.1)]
    rw [if_neg c1, hv]
    exact ⟨s, rfl, h.mono (by omega), NF.refl⟩
theorem c_joinop (h : NW B s V) : ∃ s', gX10_join s x = some ((vjoin V x).1, s') ∧ NW (B + 1) s' (vjoin V x).2 ∧ NF s s' := by
  have h' := h
  obtain ⟨⟨zs, fr, hR⟩, hI, hW, hK, hT⟩ := h'
  unfold gX10_join
  rw [c_isTask, cl_some, if_rb]
  by_cases c1 : 0 ≤ x.toInt ∧ x.toInt ≤ 5
  · obtain ⟨t, ht, rfl, etn⟩ := i_task c1
    rw [if_pos c1, ix_nI ht (by omega), c_on hR ht, cl_some, if_rb]
    by_cases c2 : vby V t = true
    · have hb := vby_iff.mp c2
      have e2 : s (11 + 17 + 2 * t) 2 = V.1 (3933 + t) := hR.at ht (e := (2, 3933)) (by decide)
      rw [if_pos c2, ix_nI ht (by omega), e2]
      by_cases c3 : V.1 (3933 + t) = 1
      · have hv : vjoin V (nI t) = (rb ((vjo 2048 V t).1 = true), (vjo 2048 V t).2) := by unfold vjoin; rw [etn, if_pos ⟨c1, c2, c3⟩]
        obtain ⟨s', zs', fr', a1, a2, a3⟩ := c_join hR cx11 hI ht hb
        have hpe : vpe V.1 (vjo 2048 V t).2.1 := by
          unfold vjo
          dsimp only
          cases vgap 2048 0 V.2.1 (vdbl (vkp V t) 16 (V.1 2048).toInt.toNat) with
          | none => exact vpe.refl
          | some g => exact fun i hi => (vj3_ne (by omega) (by omega) (by omega)).trans ((vj2_ne (by omega) (by omega)).trans (mj_upd_ne (by omega)))
        rw [hv, if_pos c3, ix_nI ht (by omega), a1, cl_some, rz_rb]
        exact ⟨s', rfl, h.to a2 a3 (vi_jo hI ht hb (by omega)) hpe (wl_jo (hW t ht) hI ht hb), a3.2.n1⟩
      · have hv : vjoin V (nI t) = (0, V) := by unfold vjoin; rw [etn, if_neg (fun e => c3 e.2.2)]
        rw [if_neg c3, hv]
        exact ⟨s, rfl, h.mono (by omega), NF.refl⟩
    · have hv : vjoin V (nI t) = (0, V) := by unfold vjoin; rw [etn, if_neg (fun e => c2 e.2.1)]
      rw [if_neg c2, hv]
      exact ⟨s, rfl, h.mono (by omega), NF.refl⟩
  · have hv : vjoin V x = (0, V) := by unfold vjoin; rw [if_neg (fun e => c1 e.1)]
    rw [if_neg c1, hv]
    exact ⟨s, rfl, h.mono (by omega), NF.refl⟩
theorem c_compactop (h : NW B s V) : ∃ s', gX10_compact s = some (nI (vcc 0 V.2.1), s') ∧ NW (B + 256) s' (vcm V) ∧ NF s s' := by
  obtain ⟨⟨zs, fr, hR⟩, hI, hW, hK, hT⟩ := h
  obtain ⟨s', zs', a1, a2, a3⟩ := c_gather hR cx11 hI
  unfold gX10_compact
  rw [a1, cl_some]
  exact ⟨s', rfl, ⟨⟨zs', fr, a2⟩, vi_cm hI, fun t ht => wl_cm (hW t ht) hI ht, hK.nf a3.n1, fun k hk => by rw [a3 _ (by omega)]; exact hT k hk⟩, a3.n1⟩
end
