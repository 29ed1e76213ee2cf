section
/-! ===== the class: start, stop, quiet, join, compact ===== -/
section
variable {B B' : Nat} {s s' : wt_S} {V V' : vV} {zs zs' : List (vP × Nat)} {fr fr' : List Nat} {t np f : Nat} {x : Int32}
theorem NW.to (h : NW B s V) (hR' : RC 11 2048 s' V' zs' fr') (hto : TO 11 t s s') (hI' : VI 2048 B' V') (hw : vpe V.1 V'.1) (hWt : WL V' t) : NW B' s' V' := by
  obtain ⟨⟨zs, fr, hR⟩, hI, hW, hK, hT⟩ := h
  refine ⟨⟨zs', fr', hR'⟩, hI', fun t' ht' => ?_, hK.nf hto.2.n1, fun k hk => by rw [hto.2 _ (by omega)]; exact hT k hk⟩
  by_cases e : t' = t
  · subst e; exact hWt
  · exact (hW t' ht').cls hR hR' hI hI' ht' (hto.1 t' ht' e).1 hw
theorem rb_if {p : Prop} [Decidable p] {s : wt_S} : (if rb p = (0 : Int32) then some ((0 : Int32), s) else some (1, s)) = some (rb p, s) := by
  by_cases c : p
  · rw [rb_pos c]; rfl
  · rw [rb_neg c]; rfl
theorem c_startop {x f a mode : Int32} (h : NW B s V) : ∃ s', gX10_start s x f a mode = some ((vstart V x f a mode).1, s') ∧ NW (B + 3) s' (vstart V x f a mode).2 ∧ NF s s' := by
  have h' := h
  obtain ⟨⟨zs, fr, hR⟩, hI, hW, hK, hT⟩ := h'
  unfold gX10_start
  rw [c_isTask, cl_some, if_rb]
  by_cases c1 : 0 ≤ x.toInt ∧ x.toInt ≤ 5
  · obtain ⟨t, ht, rfl, etn⟩ := i_task c1
    rw [if_pos c1, ix_nI ht (by omega), c_on hR ht, cl_some, if_rbn]
    by_cases c2 : vby V t = true
    · have hv : vstart V (nI t) f a mode = (0, V) := by unfold vstart; rw [if_neg (fun e => by have := e.2.1; rw [etn, c2] at this; cases this)]
      rw [if_pos c2, hv]
      exact ⟨s, rfl, h.mono (by omega), NF.refl⟩
    · have c2' : vby V t = false := by simpa using c2
      rw [if_neg c2, c_told hR.2.2.2.2.2, cl_some, if_rbn]
      by_cases c3 : tld V.1 f
      · obtain ⟨f', f1, rfl, f3, f4⟩ := tld_nat c3
        rw [if_pos c3]
        by_cases c4 : mode = 0 ∨ mode = 1
        · have hv : vstart V (nI t) (nI f') a mode = (rb ((vbg 2048 V t f' a mode).1 = true), (vbg 2048 V t f' a mode).2) := by unfold vstart; rw [if_pos ⟨c1, by rw [etn]; exact c2', c3, c4⟩, etn, f3]
          have hid := hI.idle ht c2'
          obtain ⟨s', zs', fr', e1, e2, e3⟩ := c_begin (a := a) (mode := mode) hR cx11 hI ht hid f1 f4 c4
          have key : gX10_start_49 s (nI t) (nI f') a mode = some (rb ((vbg 2048 V t f' a mode).1 = true), s') := by
            unfold gX10_start_49
            rw [ix_nI ht (by omega), e1, cl_some, rb_if]
          rw [hv]
          refine ⟨s', ?_, h.to e2 e3 (vi_bg hI (by omega) ht hid f1 f4 c4) (vbg_pe ht) (wl_bg hI (by omega) ht hid f1 f4 c4), e3.2.n1⟩
          rcases c4 with c4 | c4
          · rw [if_pos c4]; exact key
          · rw [if_neg (by rw [c4]; decide), if_neg (fun e => e c4)]; exact key
        · have hv : vstart V (nI t) (nI f') a mode = (0, V) := by unfold vstart; rw [if_neg (fun e => c4 e.2.2.2)]
          rw [hv, if_neg (fun e => c4 (Or.inl e)), if_pos (fun e => c4 (Or.inr e))]
          exact ⟨s, rfl, h.mono (by omega), NF.refl⟩
      · have hv : vstart V (nI t) f a mode = (0, V) := by unfold vstart; rw [if_neg (fun e => c3 e.2.2.1)]
        rw [if_neg c3, hv]
        exact ⟨s, rfl, h.mono (by omega), NF.refl⟩
  · have hv : vstart V x f a mode = (0, V) := by unfold vstart; rw [if_neg (fun e => c1 e.1)]
    rw [if_neg c1, hv]
    exact ⟨s, rfl, h.mono (by omega), NF.refl⟩
theorem OT.cr (ht : t < 6) : OT t V (vcr V t) := ⟨fun i hi => vcr_ne ht (by omega), fun i h1 h2 => vcr_ne ht (by omega), fun t' ht' hne => ⟨fun j hj => vcr_ne ht (by omega), rfl, rfl⟩, fun _ _ => Iff.rfl, fun _ _ _ => rfl, fun k hk t' ht' hne => by rw [vcr_ne ht (by omega)]⟩
theorem sd_of (hI : VI 2048 B V) (ht : t < 6) : V.1 (3989 + t) = -1 ∨ ∃ k, k < 3 ∧ V.1 (3989 + t) = nI k ∧ V.1 (3923 + k) = nI t := by
  rcases hI.sid ht with e | ⟨k, e1, e2⟩
  · exact Or.inl e
  · exact Or.inr ⟨k, e1, e2, hI.sdt ht e1 e2⟩
theorem itp_of (hI : VI 2048 B V) (ht : t < 6) : ∃ np, V.1 (4066 + t) = nI np ∧ np ≤ 256 ∧ Itp V.2.1 t np := by
  rcases hI.2.2.2.2.2 t ht with ⟨-, n, np, -, -, e3, e4, e5, -⟩ | b
  · exact ⟨np, e3, e4.2, e5⟩
  · exact ⟨0, b.2.2.1, by omega, fun k hk => by omega, fun q hq e => absurd e (b.2.2.2.2.2.2.2.2 q hq)⟩
theorem c_stopT (h : RC 11 2048 s V zs fr) (hI : VI 2048 B V) (ht : t < 6) : ∃ s1 s' zs' fr', gX9_releasePieces 11 (11 + 17 + 2 * t) s = some ((), s1) ∧ gX7_clear (11 + 17 + 2 * t) s1 = some ((), s') ∧ RC 11 2048 s' (vcr (vga V t) t) zs' fr' ∧ TO 11 t s s' := by
  have hj := hI.J
  obtain ⟨np, n1, n2, n3⟩ := itp_of hI ht
  have hsd := sd_of hI ht
  have hsd' := hI.sid ht
  obtain ⟨s1, zs1, fr1, a1, a2, a3, a4, a5, a6, a7, a8⟩ := c_rel cx11 ht h.2.1 h.1 hj.2.1 hj.2.2.1 n3 n2 (h.ch ht n1)
  obtain ⟨s2, d1, d2, d3, d4⟩ := c_clear (s := s1) (T := 11 + 17 + 2 * t)
  refine ⟨s1, s2, zs1, fr1, a1, d1, ?_, ?_⟩
  · have hot : OT t V (vcr (vga V t) t) := (ot_ga0 ht hsd).trans (OT.cr ht)
    have hn0 : (vcr (vga V t) t).2.2.1 t = 0 := by
      show (vga V t).2.2.1 t = 0
      rw [vga_2]; exact mj_upd_self
    have f2 : ∀ c, ¬ (11 + 2 ≤ c ∧ c ≤ 11 + 9) → c ≠ 11 + 17 + 2 * t → c ≠ 11 + 17 + 2 * t + 1 → s2 c = s c := fun c h1 h2 h3 => by rw [d2 c h2 h3, a7 c h1 h2]
    have hto : TO 11 t s s2 := ⟨fun k hk hne => ⟨f2 _ (by omega) (by omega) (by omega), f2 _ (by omega) (by omega) (by omega)⟩, fun c hc => f2 c (by omega) (by omega) (by omega)⟩
    have hTj : ∀ j, 1 ≤ j → j ≤ 16 → s2 (11 + 17 + 2 * t) j = if j = 7 ∨ (9 ≤ j ∧ j ≤ 13) ∨ j = 15 then -1 else 0 := fun j j1 j2 => by
      rw [d3]
      unfold clr
      rw [if_neg (by omega)]
    have hz : ∀ y ∈ zs1, y.1.2.2.1 ≠ t := fun y hy => ((a4 y).mp hy).2
    refine h.op cx11 hj.1 hot ht hto hj.vfr (fun y hy => ?_) (fun y hy hyt => ⟨by rw [d2 _ (by omega) (by omega), a5], by rw [d2 _ (by omega) (by omega), a6]⟩) ?_ (a2.eq (fun c hc => d2 c (by omega) (by omega))) ⟨fun j hj => ?_, fun j hj => ?_⟩ ⟨⟨?_, fun e he => ?_, fun e he => ?_⟩, ⟨fun _ => ⟨?_, ?_⟩, fun h1 => by rw [hn0] at h1; omega⟩, ⟨fun _ => ?_, fun y hy hyt => absurd hyt (hz y hy)⟩, ⟨fun y hy hyt => absurd hyt (hz y hy), fun _ => ?_⟩, fun e => ?_, fun y hy hyt => absurd hyt (hz y hy)⟩ ?_
    · rw [a4]
      exact ⟨fun q => q.1, fun q => ⟨q, hy⟩⟩
    · rw [a3]
      show _ = (vga V t).2.1
      rw [vga_2]
    · rw [f2 _ (by omega) (by omega) (by omega), vcr_ne ht (by omega), (vga_i hsd').2 (by omega)]; exact h.2.2.1.1 j hj
    · rw [f2 _ (by omega) (by omega) (by omega), vcr_ne ht (by omega), (vga_i hsd').2 (by omega)]; exact h.2.2.1.2 j hj
    · rw [d3]
      unfold clr
      rw [if_pos (Or.inl rfl), a8, mj_upd_ne (by omega)]
      exact (h.2.2.2.1 t ht).1.1
    · have q : ∀ e ∈ tf, 1 ≤ e.1 ∧ e.1 ≤ 16 ∧ ((e.1 = 7 ∨ (9 ≤ e.1 ∧ e.1 ≤ 13) ∨ e.1 = 15) ↔ (e.2 = 3975 ∨ e.2 = 3989)) := by decide
      obtain ⟨q1, q2, q3⟩ := q e he
      have q4 := tf_p e he
      rw [hTj _ q1 q2]
      by_cases c : e.2 = 3975 ∨ e.2 = 3989
      · rw [if_pos (q3.mpr c)]
        rcases c with c | c
        · rw [c, vcr_f.1]
        · rw [c, vcr_f.2]
      · rw [if_neg (fun r => c (q3.mp r)), vcr_0 ht (by omega) (by omega)]
    · have q : ∀ e ∈ ts, e.1 < 12 ∧ e.2 ≠ 3975 ∧ e.2 ≠ 3989 := by decide
      obtain ⟨q1, q2, q3⟩ := q e he
      have q4 := ts_p e he
      rw [d4 _ q1, vcr_0 ht (by omega) (by omega)]
    · rw [hTj _ (by omega) (by omega), if_pos (by omega)]
    · rw [hTj _ (by omega) (by omega), if_pos (by omega)]
    · rw [hTj _ (by omega) (by omega), if_pos (by omega)]
    · rw [hTj _ (by omega) (by omega), if_pos (by omega)]
    · exact absurd (vcr_0 (c := 3926) ht (by omega) (by omega)) e
    · rw [f2 _ (by omega) (by omega) (by omega)]
      exact fun t' ht' => MR_w (fun i i1 i2 => vcr_ne ht (by omega)) (VM.ga hj ht h.2.2.2.2.1 hsd' t' ht')
  · exact ⟨fun k hk hne => ⟨by rw [d2 _ (by omega) (by omega), a7 _ (by omega) (by omega)], by rw [d2 _ (by omega) (by omega), a7 _ (by omega) (by omega)]⟩, fun c hc => by rw [d2 _ (by omega) (by omega), a7 _ (by omega) (by omega)]⟩
theorem c_stopop (h : NW B s V) : ∃ s', gX10_stop s x = some ((vsto V x).1, s') ∧ NW B s' (vsto V x).2 ∧ NF s s' := by
  have h' := h
  obtain ⟨⟨zs, fr, hR⟩, hI, hW, hK, hT⟩ := h'
  unfold gX10_stop
  rw [c_isTask, cl_some, if_rb]
  by_cases c1 : 0 ≤ x.toInt ∧ x.toInt ≤ 5
  · obtain ⟨t, ht, rfl, etn⟩ := i_task c1
    have e : s (11 + 17 + 2 * t) 1 = V.1 (3926 + t) := hR.at ht (e := (1, 3926)) (by decide)
    rw [if_pos c1, ix_nI ht (by omega), e]
    by_cases c2 : V.1 (3926 + t) ≠ 0
    · have hv : vsto V (nI t) = (1, vcr (vga V t) t) := by unfold vsto; rw [if_pos c1, etn, if_pos c2]
      have hIs := hI.stop (x := nI t)
      rw [hv] at hIs ⊢
      obtain ⟨s1, s2, zs', fr', a1, a2, a3, a4⟩ := c_stopT hR hI ht
      rw [if_pos c2, ix_nI ht (by omega), a1, cl_some, ix_nI ht (by omega), a2, cl_some]
      refine ⟨s2, rfl, h.to a3 a4 hIs ((ot_ga0 ht (sd_of hI ht)).trans (OT.cr ht)).1 (WL.no ?_), a4.2.n1⟩
      rw [vcr_0 ht (by omega) (by omega)]
      decide
    · have hv : vsto V (nI t) = (0, V) := by unfold vsto; rw [if_pos c1, etn, if_neg c2]
      rw [if_neg c2, hv]
      exact ⟨s, rfl, h, NF.refl⟩
  · have hv : vsto V x = (0, V) := by unfold vsto; rw [if_neg c1]
    rw [if_neg c1, hv]
    exact ⟨s, rfl, h, NF.refl⟩
theorem c_quietop (h : NW B s V) : ∃ s', gX10_quiet s x = some ((vquiet V x).1, s') ∧ NW (B + 1) s' (vquiet V x).2 ∧ NF s s' := by
  have h' := h
  obtain ⟨⟨zs, fr, hR⟩, hI, hW, hK, hT⟩ := h'
  unfold gX10_quiet
  rw [c_isTask, cl_some, if_rb]
  by_cases c1 : 0 ≤ x.toInt ∧ x.toInt ≤ 5
  · obtain ⟨t, ht, rfl, etn⟩ := i_task c1
    rw [if_pos c1, ix_nI ht (by omega), c_on hR ht, cl_some, if_rb]
    by_cases c2 : vby V t = true
    · have hb := vby_iff.mp c2
      have hv : vquiet V (nI t) = (rb ((vqu 2048 V t).1 = true), (vqu 2048 V t).2) := by unfold vquiet; rw [etn, if_pos ⟨c1, c2⟩]
      obtain ⟨np, z, z2, z3, k, l, hP, -, -, ⟨r1, -, r3⟩, -⟩ := hI.opn ht hb (by omega)
      obtain ⟨s', zs', fr', a1, a2, a3⟩ := c_quiet hR cx11 hP r1 r3
      have hq := fun i h1 h2 h3 h4 h5 h6 => (vqu_w (lim := 2048) (V := V) (t := t) (i := i) h1 h2 h3 h4 h5 h6).1
      rw [hv, if_pos c2, ix_nI ht (by omega), a1, cl_some, rb_if]
      exact ⟨s', rfl, h.to a2 a3 (vi_qu hI ht hb (by omega)) (fun i hi => hq i (by omega) (by omega) (by omega) (by omega) (by omega) (by omega)) (wl_qu (hW t ht) hI ht hb), a3.2.n1⟩
    · have hv : vquiet V (nI t) = (0, V) := by unfold vquiet; rw [etn, if_neg (fun e => c2 e.2)]
      rw [if_neg c2, hv]
      exact ⟨s, rfl, h.mono (by omega), NF.refl⟩
  · have hv : vquiet V x = (0, V) := by unfold vquiet; rw [if_neg (fun e => c1 e.1)]
    rw [if_neg c1, hv]
    exact ⟨s, rfl, h.mono (by omega), NF.refl⟩
theorem c_joinop (h : NW B s V) : ∃ s', gX10_join s x = some ((vjoin V x).1, s') ∧ NW (B + 1) s' (vjoin V x).2 ∧ NF s s' := by
  have h' := h
  obtain ⟨⟨zs, fr, hR⟩, hI, hW, hK, hT⟩ := h'
  unfold gX10_join
  rw [c_isTask, cl_some, if_rb]
  by_cases c1 : 0 ≤ x.toInt ∧ x.toInt ≤ 5
  · obtain ⟨t, ht, rfl, etn⟩ := i_task c1
    rw [if_pos c1, ix_nI ht (by omega), c_on hR ht, cl_some, if_rb]
    by_cases c2 : vby V t = true
    · have hb := vby_iff.mp c2
      have e2 : s (11 + 17 + 2 * t) 2 = V.1 (3933 + t) := hR.at ht (e := (2, 3933)) (by decide)
      rw [if_pos c2, ix_nI ht (by omega), e2]
      by_cases c3 : V.1 (3933 + t) = 1
      · have hv : vjoin V (nI t) = (rb ((vjo 2048 V t).1 = true), (vjo 2048 V t).2) := by unfold vjoin; rw [etn, if_pos ⟨c1, c2, c3⟩]
        obtain ⟨s', zs', fr', a1, a2, a3⟩ := c_join hR cx11 hI ht hb
        have hpe : vpe V.1 (vjo 2048 V t).2.1 := by
          unfold vjo
          dsimp only
          cases vgap 2048 0 V.2.1 (vdbl (vkp V t) 16 (V.1 2048).toInt.toNat) with
          | none => exact vpe.refl
          | some g => exact fun i hi => (vj3_ne (by omega) (by omega) (by omega)).trans ((vj2_ne (by omega) (by omega)).trans (mj_upd_ne (by omega)))
        rw [hv, if_pos c3, ix_nI ht (by omega), a1, cl_some, rz_rb]
        exact ⟨s', rfl, h.to a2 a3 (vi_jo hI ht hb (by omega)) hpe (wl_jo (hW t ht) hI ht hb), a3.2.n1⟩
      · have hv : vjoin V (nI t) = (0, V) := by unfold vjoin; rw [etn, if_neg (fun e => c3 e.2.2)]
        rw [if_neg c3, hv]
        exact ⟨s, rfl, h.mono (by omega), NF.refl⟩
    · have hv : vjoin V (nI t) = (0, V) := by unfold vjoin; rw [etn, if_neg (fun e => c2 e.2.1)]
      rw [if_neg c2, hv]
      exact ⟨s, rfl, h.mono (by omega), NF.refl⟩
  · have hv : vjoin V x = (0, V) := by unfold vjoin; rw [if_neg (fun e => c1 e.1)]
    rw [if_neg c1, hv]
    exact ⟨s, rfl, h.mono (by omega), NF.refl⟩
theorem c_compactop (h : NW B s V) : ∃ s', gX10_compact s = some (nI (vcc 0 V.2.1), s') ∧ NW (B + 256) s' (vcm V) ∧ NF s s' := by
  obtain ⟨⟨zs, fr, hR⟩, hI, hW, hK, hT⟩ := h
  obtain ⟨s', zs', a1, a2, a3⟩ := c_gather hR cx11 hI
  unfold gX10_compact
  rw [a1, cl_some]
  exact ⟨s', rfl, ⟨⟨zs', fr, a2⟩, vi_cm hI, fun t ht => wl_cm (hW t ht) hI ht, hK.nf a3.n1, fun k hk => by rw [a3 _ (by omega)]; exact hT k hk⟩, a3.n1⟩
end
end
section
/-! ===== the class: a world taken over from another ===== -/
/-- world b of s is world b2 of s0 -/
def WC (b b2 : Nat) (s0 s : wt_S) : Prop := (∀ j, j < 6 → s (b + 1) j = s0 (b2 + 1) j) ∧ (∀ p, p < 2048 → s (b + 15) p = s0 (b2 + 15) p) ∧ (∀ c, 3 ≤ c → c ≤ 8 → ∀ i, i < 256 → s (b + c) i = s0 (b2 + c) i) ∧ (∀ j, 7 ≤ j → j ≤ 9 → s (b + 2) j = s0 (b2 + 2) j) ∧ (∀ k, k < 6 → (∀ j, 1 ≤ j → j ≤ 16 → s (b + 17 + 2 * k) j = s0 (b2 + 17 + 2 * k) j) ∧ ∀ j, j < 12 → s (b + 17 + 2 * k + 1) j = s0 (b2 + 17 + 2 * k + 1) j) ∧ (∀ j, j < 12 → s (b + 13) j = s0 (b2 + 13) j) ∧ s (wt_wo b) 8 = s0 (wt_wo b2) 8
/-- the program is the same -/
def QC (q q2 : Nat) (s0 s : wt_S) : Prop := (∀ i, i < 10 → s (q + 1) i = s0 (q2 + 1) i ∧ s (q + 2) i = s0 (q2 + 2) i ∧ s (q + 3) i = s0 (q2 + 3) i ∧ s (q + 5) i = s0 (q2 + 5) i) ∧ ∀ i, i < 640 → s (q + 4) i = s0 (q2 + 4) i
section
variable {b b2 b3 q q2 q3 lim : Nat} {s s' s0 s1 s2 : wt_S} {V : vV} {zs : List (vP × Nat)} {fr : List Nat}
theorem WC.trans (h : WC b2 b3 s0 s1) (h' : WC b b2 s1 s2) : WC b b3 s0 s2 := ⟨fun j hj => (h'.1 j hj).trans (h.1 j hj), fun p hp => (h'.2.1 p hp).trans (h.2.1 p hp), fun c c1 c2 i hi => (h'.2.2.1 c c1 c2 i hi).trans (h.2.2.1 c c1 c2 i hi), fun j j1 j2 => (h'.2.2.2.1 j j1 j2).trans (h.2.2.2.1 j j1 j2), fun k hk => ⟨fun j j1 j2 => ((h'.2.2.2.2.1 k hk).1 j j1 j2).trans ((h.2.2.2.2.1 k hk).1 j j1 j2), fun j hj => ((h'.2.2.2.2.1 k hk).2 j hj).trans ((h.2.2.2.2.1 k hk).2 j hj)⟩, fun j hj => (h'.2.2.2.2.2.1 j hj).trans (h.2.2.2.2.2.1 j hj), h'.2.2.2.2.2.2.trans h.2.2.2.2.2.2⟩
theorem WC.keep (h : WC b b2 s0 s) (hc : ∀ c, b < c → c ≤ b + 28 → s' c = s c) (h8 : s' (wt_wo b) 8 = s (wt_wo b) 8) : WC b b2 s0 s' := by
  refine WC.trans h ⟨fun j _ => by rw [hc _ (by omega) (by omega)], fun p _ => by rw [hc _ (by omega) (by omega)], fun c c1 c2 i _ => by rw [hc _ (by omega) (by omega)], fun j _ _ => by rw [hc _ (by omega) (by omega)], fun k hk => ⟨fun j _ _ => by rw [hc _ (by omega) (by omega)], fun j _ => by rw [hc _ (by omega) (by omega)]⟩, fun j _ => by rw [hc _ (by omega) (by omega)], h8⟩
theorem QC.trans (h : QC q2 q3 s0 s1) (h' : QC q q2 s1 s2) : QC q q3 s0 s2 := ⟨fun i hi => ⟨(h'.1 i hi).1.trans (h.1 i hi).1, (h'.1 i hi).2.1.trans (h.1 i hi).2.1, (h'.1 i hi).2.2.1.trans (h.1 i hi).2.2.1, (h'.1 i hi).2.2.2.trans (h.1 i hi).2.2.2⟩, fun i hi => (h'.2 i hi).trans (h.2 i hi)⟩
theorem QC.keep (h : QC q q2 s0 s) (hc : ∀ c, q < c → c ≤ q + 5 → s' c = s c) : QC q q2 s0 s' := h.trans ⟨fun i _ => ⟨by rw [hc _ (by omega) (by omega)], by rw [hc _ (by omega) (by omega)], by rw [hc _ (by omega) (by omega)], by rw [hc _ (by omega) (by omega)]⟩, fun i _ => by rw [hc _ (by omega) (by omega)]⟩
theorem RP.qc {w : Nat → Int32} (h : RP q2 s0 w) (hq : QC q q2 s0 s) : RP q s w := ⟨fun f hf => ⟨(hq.1 f hf).1.trans (h.1 f hf).1, (hq.1 f hf).2.1.trans (h.1 f hf).2.1, (hq.1 f hf).2.2.1.trans (h.1 f hf).2.2.1, (hq.1 f hf).2.2.2.trans (h.1 f hf).2.2.2⟩, fun j hj => (hq.2 j hj).trans (h.2 j hj)⟩
theorem RC.wc (h : RC b2 lim s0 V zs fr) (hl : lim ≤ 2048) (hJ : VJ lim V) (hW : WC b b2 s0 s) (h0 : ∀ k, k < 6 → s (b + 17 + 2 * k) 0 = nI k) (hr : RP 5 s V.1) : RC b lim s V zs fr := by
  obtain ⟨a1, a2, ⟨g1, g2⟩, a4, a5, -⟩ := h
  obtain ⟨w1, w2, w3, w4, w5, w6, w7⟩ := hW
  have hm : ∀ z ∈ zs, z.2 < 256 := fun z hz => (a2.mem hz).1
  refine ⟨a1, ?_, ⟨fun j hj => (w1 j hj).trans (g1 j hj), fun j hj => (w6 j hj).trans (g2 j hj)⟩, fun k hk => ?_, fun t ht => (a5 t ht).mem (fun i hi j hj => ?_), hr⟩
  · obtain ⟨p1, p2, p3, p4, p5, p6, p7, p8⟩ := a2
    refine ⟨(w4 7 (by omega) (by omega)).trans p1, (w4 8 (by omega) (by omega)).trans p2, (w4 9 (by omega) (by omega)).trans p3, p4, p5, p6, fun x i hx => ?_, fun z hz => ?_⟩
    · have hx2 := (List.getElem?_eq_some_iff.mp hx).1
      exact (w3 8 (by omega) (by omega) x (by omega)).trans (p7 x i hx)
    · have := hm z hz
      obtain ⟨q1, q2, q3⟩ := p8 z hz
      exact ⟨(w3 3 (by omega) (by omega) _ this).trans q1, (w3 4 (by omega) (by omega) _ this).trans q2, (w3 7 (by omega) (by omega) _ this).trans q3⟩
  · obtain ⟨⟨c0, c1, c2⟩, ⟨l1, l2⟩, ⟨q1, q2⟩, ⟨r1, r2⟩, g, z⟩ := a4 k hk
    obtain ⟨t1, t2⟩ := w5 k hk
    have e10 := t1 10 (by omega) (by omega)
    have e11 := t1 11 (by omega) (by omega)
    have e12 := t1 12 (by omega) (by omega)
    have e13 := t1 13 (by omega) (by omega)
    have e15 := t1 15 (by omega) (by omega)
    have n1 : ∀ e ∈ tf, 1 ≤ e.1 ∧ e.1 ≤ 16 := by decide
    have n2 : ∀ e ∈ ts, e.1 < 12 := by decide
    refine ⟨⟨h0 k hk, fun e he => (t1 _ (n1 e he).1 (n1 e he).2).trans (c1 e he), fun e he => (t2 _ (n2 e he)).trans (c2 e he)⟩, ⟨fun e => by rw [e10, e11]; exact l1 e, fun e => by rw [e10, e11]; exact l2 e⟩, ⟨fun e => by rw [e12]; exact q1 e, fun z hz h1 h2 => by rw [e12]; exact q2 z hz h1 h2⟩, ⟨fun z hz h1 h2 => by rw [e13]; exact r1 z hz h1 h2, fun e => by rw [e13]; exact r2 e⟩, fun e => by rw [e15]; exact g e, fun z1 hz1 hz2 => ?_⟩
    rw [w3 5 (by omega) (by omega) _ (hm z1 hz1), w3 6 (by omega) (by omega) _ (hm z1 hz1)]
    exact z z1 hz1 hz2
  · have := (hJ.fit ht hi).2.2
    exact w2 _ (by omega)
theorem ok_cm {α : Type} {P : α → wt_S → Prop} {a c n n0 n1 : Nat} {N : Int32} {F : wt_S → Option (α × wt_S)} (hN : N = nI n) (h0 : n ≤ n0) (h1 : n ≤ n1) (h2 : n0 ≤ 100000) (h3 : n1 ≤ 100000) (hF : ∀ s', (∀ d, d ≠ c → s' d = s d) → (∀ k, k < n → s' c k = s a k) → Ok P (F s')) : Ok P (wt_ac s a 0 c 0 N n0 n1 F) := by
  have e : wt_ac s a 0 c 0 N n0 n1 F = F (wt_uf s c (mj_cpy (s a) (s c) 0 0 n)) := by
    rw [hN]
    exact c_ac (p := 0) (q := 0) (by omega) (by omega) h2 h3
  rw [e]
  exact hF _ (fun d hd => wt_uf_ne hd) (fun k hk => c_ac1 hk)
/-- the worlds that are copied -/
def TX (b b2 : Nat) : Prop := (b = 11 ∧ b2 = 81) ∨ (b = 81 ∧ b2 = 11) ∨ (b = 40 ∧ b2 = 11)
theorem TX.f (h : TX b b2) : (b + 28 < b2 ∨ b2 + 28 < b) ∧ wt_wo b ≤ b ∧ (wt_wo b2 ≤ b ∨ b + 28 < wt_wo b2) ∧ (wt_wo b < b2 ∨ b2 + 28 < wt_wo b) ∧ wt_wo b ≠ wt_wo b2 := by
  rcases h with ⟨rfl, rfl⟩ | ⟨rfl, rfl⟩ | ⟨rfl, rfl⟩ <;> decide
theorem c_to3 (h : TX b b2) : Ok (fun _ s' => (∀ c, c ≠ b + 15 → s' c = s c) ∧ ∀ p, p < 2048 → s' (b + 15) p = s (b2 + 15) p) (gX3_takeOver b b2 s) := by
  unfold gX3_takeOver gJ9_min_7cf53
  have hm : (if (Int32.ofInt (Int.ofNat (wt_mz b2))).toInt < (Int32.ofInt (Int.ofNat (wt_mz b))).toInt then some (Int32.ofInt (Int.ofNat (wt_mz b2)), s) else some (Int32.ofInt (Int.ofNat (wt_mz b)), s)) = some (nI 2048, s) ∧ 2048 ≤ wt_mz b ∧ 2048 ≤ wt_mz b2 ∧ wt_mz b ≤ 100000 ∧ wt_mz b2 ≤ 100000 := by
    rcases h with ⟨rfl, rfl⟩ | ⟨rfl, rfl⟩ | ⟨rfl, rfl⟩
    · exact ⟨by rw [if_neg (by decide)]; rfl, by decide, by decide, by decide, by decide⟩
    · exact ⟨by rw [if_neg (by decide)]; rfl, by decide, by decide, by decide, by decide⟩
    · exact ⟨by rw [if_pos (by decide)]; rfl, by decide, by decide, by decide, by decide⟩
  obtain ⟨m1, m2, m3, m4, m5⟩ := hm
  rw [m1, cl_some]
  exact ok_cm (n := 2048) rfl m3 m2 m5 m4 (fun s1 f1 g1 => ok_some ⟨f1, g1⟩)
theorem c_to5 (h : TX b b2) : Ok (fun _ s' => (∀ c, ¬ (b + 2 ≤ c ∧ c ≤ b + 8) → s' c = s c) ∧ (∀ c, 3 ≤ c → c ≤ 8 → ∀ i, i < 256 → s' (b + c) i = s (b2 + c) i) ∧ ∀ j, 7 ≤ j → j ≤ 9 → s' (b + 2) j = s (b2 + 2) j) (gX5_takeOver b b2 s) := by
  have hd := h.f.1
  unfold gX5_takeOver
  refine ok_cm (n := 256) rfl (by omega) (by omega) (by omega) (by omega) (fun s1 f1 g1 => ?_)
  refine ok_cm (n := 256) rfl (by omega) (by omega) (by omega) (by omega) (fun s2 f2 g2 => ?_)
  refine ok_cm (n := 256) rfl (by omega) (by omega) (by omega) (by omega) (fun s3 f3 g3 => ?_)
  refine ok_cm (n := 256) rfl (by omega) (by omega) (by omega) (by omega) (fun s4 f4 g4 => ?_)
  refine ok_cm (n := 256) rfl (by omega) (by omega) (by omega) (by omega) (fun s5 f5 g5 => ?_)
  refine ok_cm (n := 256) rfl (by omega) (by omega) (by omega) (by omega) (fun s6 f6 g6 => ?_)
  have fr : ∀ c, ¬ (b + 3 ≤ c ∧ c ≤ b + 8) → s6 c = s c := fun c hc => by rw [f6 c (by omega), f5 c (by omega), f4 c (by omega), f3 c (by omega), f2 c (by omega), f1 c (by omega)]
  have v3 : ∀ i, i < 256 → s6 (b + 3) i = s (b2 + 3) i := fun i hi => by rw [f6 _ (by omega), f5 _ (by omega), f4 _ (by omega), f3 _ (by omega), f2 _ (by omega), g1 i hi]
  have v4 : ∀ i, i < 256 → s6 (b + 4) i = s (b2 + 4) i := fun i hi => by rw [f6 _ (by omega), f5 _ (by omega), f4 _ (by omega), f3 _ (by omega), g2 i hi, f1 _ (by omega)]
  have v5 : ∀ i, i < 256 → s6 (b + 5) i = s (b2 + 5) i := fun i hi => by rw [f6 _ (by omega), f5 _ (by omega), f4 _ (by omega), g3 i hi, f2 _ (by omega), f1 _ (by omega)]
  have v6 : ∀ i, i < 256 → s6 (b + 6) i = s (b2 + 6) i := fun i hi => by rw [f6 _ (by omega), f5 _ (by omega), g4 i hi, f3 _ (by omega), f2 _ (by omega), f1 _ (by omega)]
  have v7 : ∀ i, i < 256 → s6 (b + 7) i = s (b2 + 7) i := fun i hi => by rw [f6 _ (by omega), g5 i hi, f4 _ (by omega), f3 _ (by omega), f2 _ (by omega), f1 _ (by omega)]
  have v8 : ∀ i, i < 256 → s6 (b + 8) i = s (b2 + 8) i := fun i hi => by rw [g6 i hi, f5 _ (by omega), f4 _ (by omega), f3 _ (by omega), f2 _ (by omega), f1 _ (by omega)]
  rw [wr_eq, wr_eq, wr_eq]
  refine ok_some ⟨fun c hc => by rw [wt_u_ne (by omega), wt_u_ne (by omega), wt_u_ne (by omega), fr c (by omega)], fun c c1 c2 i hi => ?_, fun j j1 j2 => ?_⟩
  · rw [wt_u_ne (by omega), wt_u_ne (by omega), wt_u_ne (by omega)]
    obtain rfl | rfl | rfl | rfl | rfl | rfl : c = 3 ∨ c = 4 ∨ c = 5 ∨ c = 6 ∨ c = 7 ∨ c = 8 := by omega
    · exact v3 i hi
    · exact v4 i hi
    · exact v5 i hi
    · exact v6 i hi
    · exact v7 i hi
    · exact v8 i hi
  · obtain rfl | rfl | rfl : j = 7 ∨ j = 8 ∨ j = 9 := by omega
    · rw [wt_u_nk (by omega), wt_u_nk (by omega), wt_u_self, fr _ (by omega)]
    · rw [wt_u_nk (by omega), wt_u_self, wt_u_ne (by omega), fr _ (by omega)]
    · rw [wt_u_self, wt_u_ne (by omega), wt_u_ne (by omega), fr _ (by omega)]
/-- the first m fields are copied -/
def CP7 (T T2 : Nat) (s : wt_S) (m : Nat) (s' : wt_S) : Prop := (∀ c, c ≠ T → s' c = s c) ∧ (∀ j, 1 ≤ j → j ≤ m → s' T j = s T2 j) ∧ s' T 0 = s T 0
theorem ok_cp1 {α : Type} {P : α → wt_S → Prop} {T T2 m : Nat} {F : wt_S → Option (α × wt_S)} (hne : T2 ≠ T) (h : CP7 T T2 s m s1) (hF : ∀ s2, CP7 T T2 s (m + 1) s2 → Ok P (F s2)) : Ok P (wt_wr s1 T (m + 1) (s1 T2 (m + 1)) F) := by
  rw [wr_eq]
  refine hF _ ⟨fun c hc => by rw [wt_u_ne hc, h.1 c hc], fun j j1 j2 => ?_, by rw [wt_u_nk (by omega)]; exact h.2.2⟩
  by_cases e : j = m + 1
  · subst e
    rw [wt_u_self, h.1 _ hne]
  · rw [wt_u_nk e]
    exact h.2.1 j j1 (by omega)
theorem c_to7 {T T2 : Nat} (hd : T + 1 < T2 ∨ T2 + 1 < T) : Ok (fun _ s' => (∀ c, c ≠ T → c ≠ T + 1 → s' c = s c) ∧ (∀ j, 1 ≤ j → j ≤ 16 → s' T j = s T2 j) ∧ s' T 0 = s T 0 ∧ ∀ j, j < 12 → s' (T + 1) j = s (T2 + 1) j) (gX7_takeOver T T2 s) := by
  have hne : T2 ≠ T := by omega
  unfold gX7_takeOver
  refine ok_cp1 (m := 0) (s := s) hne ⟨fun _ _ => rfl, fun j _ _ => by omega, rfl⟩ (fun s1 h1 => ?_)
  refine ok_cp1 (m := 1) hne h1 (fun s2 h2 => ?_)
  refine ok_cp1 (m := 2) hne h2 (fun s3 h3 => ?_)
  refine ok_cp1 (m := 3) hne h3 (fun s4 h4 => ?_)
  refine ok_cp1 (m := 4) hne h4 (fun s5 h5 => ?_)
  refine ok_cp1 (m := 5) hne h5 (fun s6 h6 => ?_)
  refine ok_cp1 (m := 6) hne h6 (fun s7 h7 => ?_)
  refine ok_cp1 (m := 7) hne h7 (fun s8 h8 => ?_)
  refine ok_cp1 (m := 8) hne h8 (fun s9 h9 => ?_)
  refine ok_cp1 (m := 9) hne h9 (fun s10 h10 => ?_)
  refine ok_cp1 (m := 10) hne h10 (fun s11 h11 => ?_)
  refine ok_cp1 (m := 11) hne h11 (fun s12 h12 => ?_)
  refine ok_cp1 (m := 12) hne h12 (fun s13 h13 => ?_)
  refine ok_cp1 (m := 13) hne h13 (fun s14 h14 => ?_)
  refine ok_cp1 (m := 14) hne h14 (fun s15 h15 => ?_)
  refine ok_cp1 (m := 15) hne h15 (fun s16 h16 => ?_)
  refine ok_cm (n := 12) rfl (by omega) (by omega) (by omega) (by omega) (fun s17 f17 g17 => ok_some ⟨fun c c1 c2 => by rw [f17 c c2, h16.1 c c1], fun j j1 j2 => by rw [f17 T (by omega)]; exact h16.2.1 j j1 j2, by rw [f17 T (by omega)]; exact h16.2.2, fun j hj => by rw [g17 j hj, h16.1 _ (by omega)]⟩)
theorem c_over (h : TX b b2) : Ok (fun _ s' => WC b b2 s s' ∧ (∀ c, c ≤ b ∨ b + 28 < c → c ≠ wt_wo b → s' c = s c) ∧ (∀ j, j ≠ 8 → s' (wt_wo b) j = s (wt_wo b) j) ∧ ∀ k, k < 6 → s' (b + 17 + 2 * k) 0 = s (b + 17 + 2 * k) 0) (gX9_takeOver b b2 s) := by
  obtain ⟨hd, h1, h2, h3, h4⟩ := h.f
  unfold gX9_takeOver
  refine ok_cm (n := 6) rfl (by omega) (by omega) (by omega) (by omega) (fun s1 f1 g1 => ?_)
  refine ok_cl (c_to3 h) (fun _ s2 q2 => ?_)
  refine ok_cl (c_to5 h) (fun _ s3 q3 => ?_)
  obtain ⟨f2, g2⟩ := q2
  obtain ⟨f3, g3, g4⟩ := q3
  have loop : ∀ (m k fu : Nat) (s4 : wt_S), k + m = 6 → m < fu → (∀ c, (∀ k, k < 6 → c ≠ b + 17 + 2 * k ∧ c ≠ b + 17 + 2 * k + 1) → s4 c = s3 c) → (∀ j, j < 6 → s4 (b + 17 + 2 * j) 0 = s3 (b + 17 + 2 * j) 0) → (∀ j, j < k → (∀ i, 1 ≤ i → i ≤ 16 → s4 (b + 17 + 2 * j) i = s3 (b2 + 17 + 2 * j) i) ∧ ∀ i, i < 12 → s4 (b + 17 + 2 * j + 1) i = s3 (b2 + 17 + 2 * j + 1) i) →
      Ok (fun _ s' => (∀ c, c ≠ wt_wo b → c ≠ b + 11 → c ≠ b + 12 → c ≠ b + 13 → (∀ k, k < 6 → c ≠ b + 17 + 2 * k ∧ c ≠ b + 17 + 2 * k + 1) → s' c = s3 c) ∧ (∀ j, j ≠ 8 → s' (wt_wo b) j = s3 (wt_wo b) j) ∧ (∀ j, j < 6 → s' (b + 17 + 2 * j) 0 = s3 (b + 17 + 2 * j) 0) ∧ (∀ j, j < 6 → (∀ i, 1 ≤ i → i ≤ 16 → s' (b + 17 + 2 * j) i = s3 (b2 + 17 + 2 * j) i) ∧ ∀ i, i < 12 → s' (b + 17 + 2 * j + 1) i = s3 (b2 + 17 + 2 * j + 1) i) ∧ (∀ j, j < 12 → s' (b + 13) j = s3 (b2 + 13) j) ∧ s' (wt_wo b) 8 = s3 (wt_wo b2) 8) (gX9_takeOver_39 b b2 fu s4 (nI k)) := by
    intro m
    induction m with
    | zero =>
      intro k fu s4 hk hfu e1 e2 e3
      obtain ⟨fu, rfl⟩ : ∃ k, fu = k + 1 := ⟨fu - 1, by omega⟩
      rw [gX9_takeOver_39, if_pos (by rw [nI_int (by omega)]; show (6 : Int) ≤ _; omega)]
      unfold gX1_takeOver
      have hl : Ok (fun (_ : Unit) s' => ∀ c, c ≠ b + 11 → c ≠ b + 12 → s' c = s4 c) (wt_ac s4 (b2 + 12) 0 (b + 12) 0 160 160 160 fun s1 => wt_wr s1 (b + 11) 1 (s1 (b2 + 11) 1) fun s2 => some ((), s2)) := ok_cm (n := 160) rfl (by omega) (by omega) (by omega) (by omega) (fun s5 f5 _ => by
        rw [wr_eq]
        exact ok_some (fun c c1 c2 => by rw [wt_u_ne c1, f5 c c2]))
      refine ok_cl hl (fun _ s5 f5 => ?_)
      refine ok_cm (n := 12) rfl (by omega) (by omega) (by omega) (by omega) (fun s6 f6 g6 => ?_)
      rw [wr_eq]
      refine ok_some ⟨fun c c1 c2 c3 c4 c5 => ?_, fun j hj => ?_, fun j hj => ?_, fun j hj => ⟨fun i i1 i2 => ?_, fun i hi => ?_⟩, fun j hj => ?_, ?_⟩
      · rw [wt_u_ne c1, f6 c c4, f5 c c2 c3, e1 c c5]
      · rw [wt_u_nk hj, f6 _ (by omega), f5 _ (by omega) (by omega), e1 _ (fun k hk => by omega)]
      · rw [wt_u_ne (by omega), f6 _ (by omega), f5 _ (by omega) (by omega), e2 j hj]
      · rw [wt_u_ne (by omega), f6 _ (by omega), f5 _ (by omega) (by omega), (e3 j (by omega)).1 i i1 i2]
      · rw [wt_u_ne (by omega), f6 _ (by omega), f5 _ (by omega) (by omega), (e3 j (by omega)).2 i hi]
      · rw [wt_u_ne (by omega), g6 j hj, f5 _ (by omega) (by omega), e1 _ (fun k hk => by omega)]
      · rw [wt_u_self, f6 _ (by omega), f5 _ (by omega) (by omega), e1 _ (fun k hk => by omega)]
    | succ m ih =>
      intro k fu s4 hk hfu e1 e2 e3
      obtain ⟨fu, rfl⟩ : ∃ k, fu = k + 1 := ⟨fu - 1, by omega⟩
      rw [gX9_takeOver_39, if_neg (by rw [nI_int (by omega)]; show ¬ (6 : Int) ≤ _; omega), ix_nI (by omega) (by omega), ix_nI (by omega) (by omega), show nI k + 1 = nI (k + 1) from nI_add k 1]
      refine ok_cl (c_to7 (T := b + 17 + 2 * k) (T2 := b2 + 17 + 2 * k) (by omega)) (fun _ s5 q5 => ?_)
      obtain ⟨a1, a2, a3, a4⟩ := q5
      refine ih (k + 1) fu s5 (by omega) (by omega) (fun c hc => ?_) (fun j hj => ?_) (fun j hj => ?_)
      · rw [a1 c (hc k (by omega)).1 (hc k (by omega)).2, e1 c hc]
      · by_cases c : j = k
        · subst c
          rw [a3, e2 j hj]
        · rw [a1 _ (by omega) (by omega), e2 j hj]
      · by_cases c : j = k
        · subst c
          exact ⟨fun i i1 i2 => by rw [a2 i i1 i2, e1 _ (fun k hk => by omega)], fun i hi => by rw [a4 i hi, e1 _ (fun k hk => by omega)]⟩
        · exact ⟨fun i i1 i2 => by rw [a1 _ (by omega) (by omega), (e3 j (by omega)).1 i i1 i2], fun i hi => by rw [a1 _ (by omega) (by omega), (e3 j (by omega)).2 i hi]⟩
  refine ok_im (loop 6 0 wt_N s3 (by omega) (by unfold wt_N; omega) (fun _ _ => rfl) (fun _ _ => rfl) (fun j hj => by omega)) (fun r s' hs => ?_)
  obtain ⟨l1, l2, l3, l4, l5, l6⟩ := hs
  have k3 : ∀ c, c ≠ b + 1 → c ≠ b + 15 → ¬ (b + 2 ≤ c ∧ c ≤ b + 8) → s3 c = s c := fun c c1 c2 c3 => by rw [f3 c c3, f2 c c2, f1 c c1]
  refine ⟨⟨fun j hj => ?_, fun p hp => ?_, fun c c1 c2 i hi => ?_, fun j j1 j2 => ?_, fun k hk => ⟨fun j j1 j2 => ?_, fun j hj => ?_⟩, fun j hj => ?_, ?_⟩, fun c c1 c2 => ?_, fun j hj => ?_, fun k hk => ?_⟩
  · rw [l1 _ (by omega) (by omega) (by omega) (by omega) (fun k hk => by omega), f3 _ (by omega), f2 _ (by omega), g1 j hj]
  · rw [l1 _ (by omega) (by omega) (by omega) (by omega) (fun k hk => by omega), f3 _ (by omega), g2 p hp, f1 _ (by omega)]
  · rw [l1 _ (by omega) (by omega) (by omega) (by omega) (fun k hk => by omega), g3 c c1 c2 i hi, f2 _ (by omega), f1 _ (by omega)]
  · rw [l1 _ (by omega) (by omega) (by omega) (by omega) (fun k hk => by omega), g4 j j1 j2, f2 _ (by omega), f1 _ (by omega)]
  · rw [(l4 k hk).1 j j1 j2, k3 _ (by omega) (by omega) (by omega)]
  · rw [(l4 k hk).2 j hj, k3 _ (by omega) (by omega) (by omega)]
  · rw [l5 j hj, k3 _ (by omega) (by omega) (by omega)]
  · rw [l6, k3 _ (by omega) (by omega) (by omega)]
  · rw [l1 c c2 (by omega) (by omega) (by omega) (fun k hk => by omega), k3 c (by omega) (by omega) (by omega)]
  · rw [l2 j hj, k3 _ (by omega) (by omega) (by omega)]
  · rw [l3 k hk, k3 _ (by omega) (by omega) (by omega)]
theorem c_qtake (h : q + 5 < q2 ∨ q2 + 5 < q) : Ok (fun _ s' => QC q q2 s s' ∧ ∀ c, c ≤ q ∨ q + 5 < c → s' c = s c) (gX6_takeOver q q2 s) := by
  unfold gX6_takeOver
  refine ok_cm (n := 10) rfl (by omega) (by omega) (by omega) (by omega) (fun s1 f1 g1 => ?_)
  refine ok_cm (n := 10) rfl (by omega) (by omega) (by omega) (by omega) (fun s2 f2 g2 => ?_)
  refine ok_cm (n := 10) rfl (by omega) (by omega) (by omega) (by omega) (fun s3 f3 g3 => ?_)
  refine ok_cm (n := 640) rfl (by omega) (by omega) (by omega) (by omega) (fun s4 f4 g4 => ?_)
  refine ok_cm (n := 10) rfl (by omega) (by omega) (by omega) (by omega) (fun s5 f5 g5 => ?_)
  refine ok_some ⟨⟨fun i hi => ⟨?_, ?_, ?_, ?_⟩, fun i hi => ?_⟩, fun c hc => by rw [f5 c (by omega), f4 c (by omega), f3 c (by omega), f2 c (by omega), f1 c (by omega)]⟩
  · rw [f5 _ (by omega), f4 _ (by omega), f3 _ (by omega), f2 _ (by omega), g1 i hi]
  · rw [f5 _ (by omega), f4 _ (by omega), f3 _ (by omega), g2 i hi, f1 _ (by omega)]
  · rw [f5 _ (by omega), f4 _ (by omega), g3 i hi, f2 _ (by omega), f1 _ (by omega)]
  · rw [g5 i hi, f4 _ (by omega), f3 _ (by omega), f2 _ (by omega), f1 _ (by omega)]
  · rw [f5 _ (by omega), g4 i hi, f3 _ (by omega), f2 _ (by omega), f1 _ (by omega)]
end
end
section
/-! ===== the class: image ===== -/
section
variable {b b2 q q2 lim B B' : Nat} {s s' s0 s1 s2 : wt_S} {V Vk : vV} {zs : List (vP × Nat)} {fr : List Nat} {x : Int32}
theorem RC.eq3 (h : RC b lim s V zs fr) (hx : CX b lim) (he : ∀ c, 6 ≤ c → c ≠ b → c ≠ b + 11 → c ≠ b + 12 → c ≠ b + 9 → c ≠ b + 16 → c < b + 29 → s' c = s c) : RC b lim s' V zs fr := by
  have hb := hx.b
  obtain ⟨h1, h2, ⟨h3, h3'⟩, h4, h5, ⟨h6, h6'⟩⟩ := h
  refine ⟨h1, h2.eq (fun c hc => he c (by omega) (by omega) (by omega) (by omega) (by omega) (by omega) (by omega)), ⟨?_, ?_⟩, fun k hk => ?_, ?_, ?_, ?_⟩
  · rw [he _ (by omega) (by omega) (by omega) (by omega) (by omega) (by omega) (by omega)]; exact h3
  · rw [he _ (by omega) (by omega) (by omega) (by omega) (by omega) (by omega) (by omega)]; exact h3'
  · have := h4 k hk
    unfold RCk Ks Kl Ka Kr Kg Kz at this ⊢
    rw [he (b + 17 + 2 * k) (by omega) (by omega) (by omega) (by omega) (by omega) (by omega) (by omega), he (b + 17 + 2 * k + 1) (by omega) (by omega) (by omega) (by omega) (by omega) (by omega) (by omega), he (b + 5) (by omega) (by omega) (by omega) (by omega) (by omega) (by omega) (by omega), he (b + 6) (by omega) (by omega) (by omega) (by omega) (by omega) (by omega) (by omega)]
    exact this
  · rw [he _ (by omega) (by omega) (by omega) (by omega) (by omega) (by omega) (by omega)]; exact h5
  · rw [he (5 + 1) (by omega) (by omega) (by omega) (by omega) (by omega) (by omega) (by omega), he (5 + 2) (by omega) (by omega) (by omega) (by omega) (by omega) (by omega) (by omega), he (5 + 3) (by omega) (by omega) (by omega) (by omega) (by omega) (by omega) (by omega), he (5 + 5) (by omega) (by omega) (by omega) (by omega) (by omega) (by omega) (by omega)]; exact h6
  · rw [he (5 + 4) (by omega) (by omega) (by omega) (by omega) (by omega) (by omega) (by omega)]; exact h6'
theorem WC.id (hc : ∀ c, b < c → c ≤ b + 28 → s' c = s c) (h8 : s' (wt_wo b) 8 = s (wt_wo b) 8) : WC b b s s' := ⟨fun j _ => by rw [hc _ (by omega) (by omega)], fun p _ => by rw [hc _ (by omega) (by omega)], fun c c1 c2 i _ => by rw [hc _ (by omega) (by omega)], fun j _ _ => by rw [hc _ (by omega) (by omega)], fun k hk => ⟨fun j _ _ => by rw [hc _ (by omega) (by omega)], fun j _ => by rw [hc _ (by omega) (by omega)]⟩, fun j _ => by rw [hc _ (by omega) (by omega)], h8⟩
theorem QC.id (hc : ∀ c, q < c → c ≤ q + 5 → s' c = s c) : QC q q s s' := ⟨fun i _ => ⟨by rw [hc _ (by omega) (by omega)], by rw [hc _ (by omega) (by omega)], by rw [hc _ (by omega) (by omega)], by rw [hc _ (by omega) (by omega)]⟩, fun i _ => by rw [hc _ (by omega) (by omega)]⟩
/-- the image that is kept -/
def KP (s : wt_S) (V : vV) : Prop := ∃ s0 zs fr, RC 11 2048 s0 V zs fr ∧ WC 81 11 s0 s ∧ QC 76 5 s0 s
def KI (B : Nat) (s : wt_S) (Vk : vV) : Prop := s 4 6 = 0 ∨ (s 4 6 = 1 ∧ KP s Vk ∧ VI 2048 B Vk ∧ ∀ t, t < 6 → WL Vk t)
theorem KP.keep (h : KP s V) (hc : ∀ c, c = 75 ∨ (77 ≤ c ∧ c ≤ 109) → s' c = s c) : KP s' V := by
  obtain ⟨s0, zs, fr, h1, h2, h3⟩ := h
  exact ⟨s0, zs, fr, h1, h2.keep (fun c c1 c2 => hc c (by omega)) (congrFun (hc 75 (Or.inl rfl)) 8), h3.keep (fun c c1 c2 => hc c (by omega))⟩
theorem KI.keep (h : KI B s Vk) (hB : B ≤ B') (hc : ∀ c, c = 4 ∨ c = 75 ∨ (77 ≤ c ∧ c ≤ 109) → s' c = s c) : KI B' s' Vk := by
  unfold KI
  rw [hc 4 (Or.inl rfl)]
  rcases h with e | ⟨e, h1, h2, h3⟩
  · exact Or.inl e
  · exact Or.inr ⟨e, h1.keep (fun c hc' => hc c (Or.inr hc')), h2.mono hB, h3⟩
theorem c_imageop (h : NW B s V) (hk : KI B s Vk) : ∃ s', gX10_image s x = some ((if x ≠ 0 then 1 else s 4 6), s') ∧ NW B s' (if x ≠ 0 then V else if s 4 6 = 0 then V else Vk) ∧ KI B s' (if x ≠ 0 then V else Vk) ∧ s' 4 6 = (if x ≠ 0 then 1 else s 4 6) ∧ ∀ c, 110 ≤ c ∨ c = 0 → s' c = s c := by
  obtain ⟨⟨zs, fr, hR⟩, hI, hW, hK, hT⟩ := id h
  unfold gX10_image gX10_image_75
  by_cases cx : x ≠ 0
  · rw [if_pos cx, if_pos cx, if_pos cx, if_neg (fun e => cx e)]
    obtain ⟨_, s1, e1, q1, f1⟩ := c_qtake (q := 76) (q2 := 5) (s := s) (by omega)
    obtain ⟨_, s2, e2, w1, f2, f3, f4⟩ := c_over (b := 81) (b2 := 11) (s := s1) (Or.inr (Or.inl ⟨rfl, rfl⟩))
    have f2 : ∀ c, c ≤ 81 ∨ 81 + 28 < c → c ≠ 75 → s2 c = s1 c := f2
    rw [e1, cl_some, e2, cl_some, wr_eq, show wt_u s2 4 6 1 4 6 = 1 from wt_u_self, show wt_rz (1 : Int32) (some ((1 : Int32), wt_u s2 4 6 1)) = some (1, wt_u s2 4 6 1) from if_pos (Or.inr rfl)]
    have fs : ∀ c, c ≠ 4 → c < 75 ∨ 109 < c → wt_u s2 4 6 1 c = s c := fun c c1 c2 => by rw [wt_u_ne c1, f2 c (by omega) (by omega), f1 c (by omega)]
    have hR' : RC 11 2048 (wt_u s2 4 6 1) V zs fr := hR.eq3 cx11 (fun c c1 _ _ _ _ _ c2 => fs c (by omega) (by omega))
    refine ⟨_, rfl, ⟨⟨zs, fr, hR'⟩, hI, hW, fun j hj => by rw [fs 1 (by omega) (by omega), fs 2 (by omega) (by omega), fs 3 (by omega) (by omega)]; exact hK j hj, fun k hk => by rw [fs _ (by omega) (by omega)]; exact hT k hk⟩, Or.inr ⟨wt_u_self, ⟨s, zs, fr, hR, ?_, ?_⟩, hI, hW⟩, wt_u_self, fun c hc => fs c (by omega) (by omega)⟩
    · have w2 : WC 81 11 s s2 := WC.trans (WC.id (fun c c1 c2 => f1 c (by omega)) (by rw [f1 _ (Or.inl (by decide))])) w1
      exact w2.keep (fun c c1 c2 => wt_u_ne (by omega)) (by rw [wt_u_ne (by decide)])
    · exact (q1.keep (fun c c1 c2 => f2 c (by omega) (by omega))).keep (fun c c1 c2 => wt_u_ne (by omega))
  · have cx0 : x = 0 := by simpa using cx
    rw [if_neg cx, if_neg cx, if_neg cx, if_pos cx0]
    by_cases c0 : s 4 6 = 0
    · rw [if_pos c0, if_pos c0, c0, show wt_rz (0 : Int32) (some ((0 : Int32), s)) = some (0, s) from if_pos (Or.inl rfl)]
      exact ⟨s, rfl, h, hk, c0, fun _ _ => rfl⟩
    · rw [if_neg c0, if_neg c0]
      rcases hk with e | ⟨ek, ⟨s0, zs0, fr0, k1, k2, k3⟩, kI, kW⟩
      · exact absurd e c0
      obtain ⟨_, s1, e1, q1, f1⟩ := c_qtake (q := 5) (q2 := 76) (s := s) (by omega)
      obtain ⟨_, s2, e2, w1, f2, f3, f4⟩ := c_over (b := 11) (b2 := 81) (s := s1) (Or.inl ⟨rfl, rfl⟩)
      have f2 : ∀ c, c ≤ 11 ∨ 11 + 28 < c → c ≠ 11 → s2 c = s1 c := f2
      have fs : ∀ c, c < 6 ∨ 39 < c → s2 c = s c := fun c hc => by rw [f2 c (by omega) (by omega), f1 c (by omega)]
      have e4 : s2 4 6 = 1 := by rw [fs 4 (by omega)]; exact ek
      rw [e1, cl_some, e2, cl_some, e4, ek, show wt_rz (1 : Int32) (some ((1 : Int32), s2)) = some (1, s2) from if_pos (Or.inr rfl)]
      have w2 : WC 11 11 s0 s2 := WC.trans (WC.trans k2 (WC.id (fun c c1 c2 => f1 c (by omega)) (by rw [f1 _ (Or.inr (by decide))]))) w1
      have q2 : QC 5 5 s0 s2 := (QC.trans k3 q1).keep (fun c c1 c2 => f2 c (by omega) (by omega))
      have hR' : RC 11 2048 s2 Vk zs0 fr0 := k1.wc (Nat.le_refl _) kI.J w2 (fun k hk => by rw [f4 k hk, f1 _ (by omega)]; exact (hR.2.2.2.1 k hk).1.1) (k1.2.2.2.2.2.qc q2)
      refine ⟨_, rfl, ⟨⟨zs0, fr0, hR'⟩, kI, kW, fun j hj => by rw [fs 1 (by omega), fs 2 (by omega), fs 3 (by omega)]; exact hK j hj, fun k hk => by rw [fs _ (by omega)]; exact hT k hk⟩, KI.keep (Or.inr ⟨ek, ⟨s0, zs0, fr0, k1, k2, k3⟩, kI, kW⟩) (Nat.le_refl _) (fun c hc => fs c (by omega)), e4, fun c hc => fs c (by omega)⟩
end
end
section
/-! ===== the class: questions change nothing but where it walks and what it marks (written by wip/p2/gen_fp.py) ===== -/
def KQ (c : Nat) : Prop := c = 27 ∨ c = 71 ∨ c = 72
def FR (s s' : wt_S) : Prop := ∀ c, ¬ KQ c → s' c = s c
def FP {α : Type} (s0 : wt_S) (x : Option (α × wt_S)) : Prop := ∀ r s', x = some (r, s') → FR s0 s'
theorem FR.refl {s : wt_S} : FR s s := fun _ _ => rfl
section
variable {α β : Type} {s0 s : wt_S}
theorem fp_none : FP s0 (none : Option (α × wt_S)) := fun _ _ e => by cases e
theorem fp_some {r : α} (h : FR s0 s) : FP s0 (some (r, s)) := fun _ _ e => by cases e; exact h
theorem fp_if {c : Prop} [Decidable c] {x y : Option (α × wt_S)} (h1 : FP s0 x) (h2 : FP s0 y) : FP s0 (if c then x else y) := by
  by_cases h : c
  · rw [if_pos h]; exact h1
  · rw [if_neg h]; exact h2
theorem fp_ix {i : Int32} {n : Nat} {F : Nat → Option (α × wt_S)} (h : ∀ k, FP s0 (F k)) : FP s0 (wt_ix i n F) := by
  unfold wt_ix
  exact fp_if (h _) fp_none
theorem fp_cl {x : Option (β × wt_S)} {F : β → wt_S → Option (α × wt_S)} (h : FP s0 x) (hF : ∀ r s1, FR s0 s1 → FP s0 (F r s1)) : FP s0 (wt_cl x F) := by
  cases x with
  | none => exact fp_none
  | some p => exact hF p.1 p.2 (h p.1 p.2 rfl)
theorem fp_wr {a k : Nat} {v : Int32} {F : wt_S → Option (α × wt_S)} (h : FR s0 s) (ha : KQ a) (hF : ∀ s1, FR s0 s1 → FP s0 (F s1)) : FP s0 (wt_wr s a k v F) := hF _ (fun c hc => by
  have hne : c ≠ a := fun e => by subst e; exact hc ha
  rw [wt_u_ne hne, h c hc])
theorem fp_rz {v : Int32} {x : Option (α × wt_S)} (h : FP s0 x) : FP s0 (wt_rz v x) := by
  unfold wt_rz
  exact fp_if h fp_none
end
section
variable {s0 s : wt_S}
theorem fX6_sizeOf {q : Nat} {i1 : Int32} (h : FR s0 s)  : FP s0 (gX6_sizeOf q s i1) := by
  unfold gX6_sizeOf
  exact fp_if (fp_some h) (fp_if (fp_some h) (fp_ix (fun _ => fp_some h)))
theorem fX6_frameWords {q : Nat} {i1 : Int32} (h : FR s0 s)  : FP s0 (gX6_frameWords q s i1) := by
  unfold gX6_frameWords
  exact fp_cl (fX6_sizeOf h) (fun _ _ h1 => fp_some h1)
theorem fX6_hasSlot {q : Nat} {i1 : Int32} {i2 : Int32} (h : FR s0 s)  : FP s0 (gX6_hasSlot q s i1 i2) := by
  unfold gX6_hasSlot
  exact fp_if (fp_some h) (fp_cl (fX6_sizeOf h) (fun _ _ h1 => fp_if (fp_some h1) (fp_some h1)))
theorem fX6_isPointer {q : Nat} {i1 : Int32} {i2 : Int32} (h : FR s0 s)  : FP s0 (gX6_isPointer q s i1 i2) := by
  unfold gX6_isPointer
  exact fp_if (fp_some h) (fp_if (fp_some h) (fp_ix (fun _ => fp_if (fp_some h) (fp_some h))))
theorem fX10_isTask {i1 : Int32} (h : FR s0 s)  : FP s0 (gX10_isTask s i1) := by
  unfold gX10_isTask
  exact fp_if (fp_some h) (fp_if (fp_some h) (fp_some h))
theorem fX5_idAt {i1 : Int32} (h : FR s0 s)  : FP s0 (gX5_idAt 11 s i1) := by
  unfold gX5_idAt
  exact fp_if (fp_some h) (fp_if (fp_some h) (fp_if (fp_some h) (fp_ix (fun _ => fp_some h))))
theorem fX5_endOf {i1 : Int32} (h : FR s0 s)  : FP s0 (gX5_endOf 11 s i1) := by
  unfold gX5_endOf
  exact fp_if (fp_some h) (fp_if (fp_some h) (fp_ix (fun _ => fp_ix (fun _ => fp_some h))))
theorem fX5_placeOf {i1 : Int32} (h : FR s0 s)  : FP s0 (gX5_placeOf 11 s i1) := by
  unfold gX5_placeOf
  exact fp_if (fp_some h) (fp_if (fp_some h) (fp_ix (fun _ => fp_some h)))
theorem fJ7_fill_53178_5_n {n1 : Nat}  : ∀ (n : Nat) {s : wt_S} {y0 : Int32} {y1 : Int32} {y2 : Int32}, FR s0 s → FP s0 (gJ7_fill_53178_5 72 n1 n s y0 y1 y2) := by
  intro n
  induction n with
  | zero => exact fun _ => fp_none
  | succ n ih =>
    intro s y0 y1 y2 h
    unfold gJ7_fill_53178_5
    exact fp_if (fp_some h) (fp_ix (fun _ => fp_wr h (Or.inr (Or.inr rfl)) (fun _ h1 => ih h1)))
theorem fJ7_fill_53178_5 {n1 : Nat} {n : Nat} {s : wt_S} {y0 : Int32} {y1 : Int32} {y2 : Int32} (h : FR s0 s)  : FP s0 (gJ7_fill_53178_5 72 n1 n s y0 y1 y2) := fJ7_fill_53178_5_n n h
theorem fJ7_fill_53178 {n1 : Nat} {i1 : Int32} (h : FR s0 s)  : FP s0 (gJ7_fill_53178 72 n1 s i1) := by
  unfold gJ7_fill_53178
  exact fJ7_fill_53178_5 h
theorem fX3_word {i1 : Int32} (h : FR s0 s)  : FP s0 (gX3_word 11 s i1) := by
  unfold gX3_word
  exact fp_if (fp_some h) (fp_if (fp_some h) (fp_ix (fun _ => fp_some h)))
theorem fX5_ownerOf {i1 : Int32} (h : FR s0 s)  : FP s0 (gX5_ownerOf 11 s i1) := by
  unfold gX5_ownerOf
  exact fp_if (fp_some h) (fp_if (fp_some h) (fp_ix (fun _ => fp_some h)))
theorem fX5_rankOf_80 {K12 : wt_S → Int32 → Int32 → Int32 → Int32 → Option (Int32 × wt_S)} {l1 : Int32} {l2 : Int32} {l4 : Int32} {l5 : Int32} (h : FR s0 s) (hK : ∀ s1 a0 a1 a2 a3, FR s0 s1 → FP s0 (K12 s1 a0 a1 a2 a3)) : FP s0 (gX5_rankOf_80 11 K12 s l1 l2 l4 l5) := by
  unfold gX5_rankOf_80
  exact hK _ _ _ _ _ h
theorem fX5_rankOf_12_n   : ∀ (n : Nat) {s : wt_S} {y0 : Int32} {y1 : Int32} {y2 : Int32} {y3 : Int32}, FR s0 s → FP s0 (gX5_rankOf_12 11 n s y0 y1 y2 y3) := by
  intro n
  induction n with
  | zero => exact fun _ => fp_none
  | succ n ih =>
    intro s y0 y1 y2 y3 h
    unfold gX5_rankOf_12
    exact fp_if (fp_some h) (fp_if (fp_some h) (fp_if (fp_some h) (fp_ix (fun _ => fp_if (fX5_rankOf_80 h (fun _ _ _ _ _ h9 => ih h9)) (fp_if (fX5_rankOf_80 h (fun _ _ _ _ _ h9 => ih h9)) (fp_ix (fun _ => fp_if (fX5_rankOf_80 h (fun _ _ _ _ _ h9 => ih h9)) (ih h))))))))
theorem fX5_rankOf_12  {n : Nat} {s : wt_S} {y0 : Int32} {y1 : Int32} {y2 : Int32} {y3 : Int32} (h : FR s0 s)  : FP s0 (gX5_rankOf_12 11 n s y0 y1 y2 y3) := fX5_rankOf_12_n n h
theorem fX5_rankOf {i1 : Int32} (h : FR s0 s)  : FP s0 (gX5_rankOf 11 s i1) := by
  unfold gX5_rankOf
  exact fX5_rankOf_12 h
theorem fX8_toLast {t : Nat} (h : FR s0 s)  : FP s0 (gX8_toLast 11 t s) := by
  unfold gX8_toLast
  exact fp_wr h (Or.inl rfl) (fun _ h1 => fp_wr h1 (Or.inl rfl) (fun _ h2 => fp_wr h2 (Or.inl rfl) (fun _ h3 => fp_some h3)))
theorem fX8_toCaller  (h : FR s0 s)  : FP s0 (gX8_toCaller 11 s) := by
  unfold gX8_toCaller
  exact fp_cl (fX3_word h) (fun _ _ h1 => fp_cl (fX3_word h1) (fun _ _ h2 => fp_wr h2 (Or.inl rfl) (fun _ h3 => fp_wr h3 (Or.inl rfl) (fun _ h4 => fp_wr h4 (Or.inl rfl) (fun _ h5 => fp_some h5)))))
theorem fX5_belowOf {i1 : Int32} (h : FR s0 s)  : FP s0 (gX5_belowOf 11 s i1) := by
  unfold gX5_belowOf
  exact fp_if (fp_some h) (fp_if (fp_some h) (fp_ix (fun _ => fp_some h)))
theorem fX5_topOf {i1 : Int32} (h : FR s0 s)  : FP s0 (gX5_topOf 11 s i1) := by
  unfold gX5_topOf
  exact fp_if (fp_some h) (fp_if (fp_some h) (fp_ix (fun _ => fp_ix (fun _ => fp_some h))))
theorem fX5_indexOf_8_n   : ∀ (n : Nat) {s : wt_S} {y0 : Int32} {y1 : Int32}, FR s0 s → FP s0 (gX5_indexOf_8 11 n s y0 y1) := by
  intro n
  induction n with
  | zero => exact fun _ => fp_none
  | succ n ih =>
    intro s y0 y1 h
    unfold gX5_indexOf_8
    exact fp_if (fp_some h) (fp_if (fp_some h) (fp_cl (fX5_belowOf h) (fun _ _ h1 => ih h1)))
theorem fX5_indexOf_8  {n : Nat} {s : wt_S} {y0 : Int32} {y1 : Int32} (h : FR s0 s)  : FP s0 (gX5_indexOf_8 11 n s y0 y1) := fX5_indexOf_8_n n h
theorem fX5_indexOf {i1 : Int32} (h : FR s0 s)  : FP s0 (gX5_indexOf 11 s i1) := by
  unfold gX5_indexOf
  exact fp_cl (fX5_belowOf h) (fun _ _ h1 => fX5_indexOf_8 h1)
theorem fX10_hasFrame {i1 : Int32} {i2 : Int32} (h : FR s0 s)  : FP s0 (gX10_hasFrame s i1 i2) := by
  unfold gX10_hasFrame
  exact fp_cl (fX10_isTask h) (fun _ _ h1 => fp_if (fp_some h1) (fp_if (fp_some h1) (fp_ix (fun _ => fp_if (fp_some h1) (fp_some h1)))))
theorem fX8_toFrame_12_n {t : Nat}  : ∀ (n : Nat) {s : wt_S} {y0 : Int32} {y1 : Int32}, FR s0 s → FP s0 (gX8_toFrame_12 11 t n s y0 y1) := by
  intro n
  induction n with
  | zero => exact fun _ => fp_none
  | succ n ih =>
    intro s y0 y1 h
    unfold gX8_toFrame_12
    exact fp_if (fp_some h) (fp_cl (fX8_toCaller h) (fun _ _ h1 => ih h1))
theorem fX8_toFrame_12 {t : Nat} {n : Nat} {s : wt_S} {y0 : Int32} {y1 : Int32} (h : FR s0 s)  : FP s0 (gX8_toFrame_12 11 t n s y0 y1) := fX8_toFrame_12_n n h
theorem fX8_toFrame {t : Nat} {i1 : Int32} (h : FR s0 s)  : FP s0 (gX8_toFrame 11 t s i1) := by
  unfold gX8_toFrame
  exact fp_cl (fX8_toLast h) (fun _ _ h1 => fX8_toFrame_12 h1)
theorem fX5_holding {i1 : Int32} (h : FR s0 s)  : FP s0 (gX5_holding 11 s i1) := by
  unfold gX5_holding
  exact fp_cl (fX5_rankOf h) (fun _ _ h1 => fp_cl (fX5_idAt h1) (fun _ _ h2 => fp_some h2))
theorem fX10_frame {i1 : Int32} {i2 : Int32} {i3 : Int32} (h : FR s0 s)  : FP s0 (gX10_frame s i1 i2 i3) := by
  unfold gX10_frame
  exact fp_cl (fX10_hasFrame h) (fun _ _ h1 => fp_if (fp_ix (fun _ => fp_cl (fX8_toFrame h1) (fun _ _ h2 => fp_cl (fX3_word h2) (fun _ _ h3 => fp_if (fp_some h3) (fp_if (fp_some h3) (fp_if (fp_some h3) (fp_if (fp_cl (fX5_holding h3) (fun _ _ h4 => fp_cl (fX5_indexOf h4) (fun _ _ h5 => fp_some h5))) (fp_if (fp_if (fp_some h3) (fp_some h3)) (fp_if (fp_some h3) (fp_if (fp_if (fp_some h3) (fp_some h3)) (fp_if (fp_cl (fX3_word h3) (fun _ _ h4 => fp_some h4)) (fp_if (fp_some h3) (fp_none))))))))))))) (fp_some h1))
theorem fX8_toPlace_46 {t : Nat} {K13 : wt_S → Int32 → Int32 → Option (Int32 × wt_S)} {l2 : Int32} {l4 : Int32} (h : FR s0 s) (hK : ∀ s1 a0 a1, FR s0 s1 → FP s0 (K13 s1 a0 a1)) : FP s0 (gX8_toPlace_46 11 t K13 s l2 l4) := by
  unfold gX8_toPlace_46
  exact fp_if (hK _ _ _ h) (fp_cl (fX8_toCaller h) (fun _ _ h1 => hK _ _ _ h1))
theorem fX8_toPlace_13_n {t : Nat}  : ∀ (n : Nat) {s : wt_S} {y0 : Int32} {y1 : Int32}, FR s0 s → FP s0 (gX8_toPlace_13 11 t n s y0 y1) := by
  intro n
  induction n with
  | zero => exact fun _ => fp_none
  | succ n ih =>
    intro s y0 y1 h
    unfold gX8_toPlace_13
    exact fp_if (fp_some h) (fp_if (fX8_toPlace_46 h (fun _ _ _ h9 => ih h9)) (fp_cl (fX6_frameWords h) (fun _ _ h1 => fp_if (fX8_toPlace_46 h1 (fun _ _ _ h9 => ih h9)) (fp_some h1))))
theorem fX8_toPlace_13 {t : Nat} {n : Nat} {s : wt_S} {y0 : Int32} {y1 : Int32} (h : FR s0 s)  : FP s0 (gX8_toPlace_13 11 t n s y0 y1) := fX8_toPlace_13_n n h
theorem fX8_toPlace {t : Nat} {i1 : Int32} (h : FR s0 s)  : FP s0 (gX8_toPlace 11 t s i1) := by
  unfold gX8_toPlace
  exact fp_cl (fX8_toLast h) (fun _ _ h1 => fX8_toPlace_13 h1)
theorem fX10_slot_20  (h : FR s0 s)  : FP s0 (gX10_slot_20 s) := by
  unfold gX10_slot_20
  exact fp_some h
theorem fX10_slot_183 {l4 : Int32} {l7 : Int32} {z0 : Int32} (h : FR s0 s)  : FP s0 (gX10_slot_183 s l4 l7 z0) := by
  unfold gX10_slot_183
  exact fp_if (fp_some h) (fp_if (fp_some h) (fp_some h))
theorem fX10_slot_182 {l4 : Int32} {l7 : Int32} (h : FR s0 s)  : FP s0 (gX10_slot_182 s l4 l7) := by
  unfold gX10_slot_182
  exact fX10_slot_183 h
theorem fX10_slot {i1 : Int32} {i2 : Int32} {i3 : Int32} {i4 : Int32} (h : FR s0 s)  : FP s0 (gX10_slot s i1 i2 i3 i4) := by
  unfold gX10_slot
  exact fp_cl (fX10_hasFrame h) (fun _ _ h1 => fp_if (fX10_slot_20 h1) (fp_if (fX10_slot_20 h1) (fp_if (fp_ix (fun _ => fp_cl (fX8_toFrame h1) (fun _ _ h2 => fp_cl (fX6_hasSlot h2) (fun _ _ h3 => fp_if (fp_cl (fX6_isPointer h3) (fun _ _ h4 => fp_cl (fX3_word h4) (fun _ _ h5 => fp_if (fp_if (fp_if (fX10_slot_182 h5) (fp_if (fX10_slot_182 h5) (fp_ix (fun _ => fp_cl (fX8_toPlace h5) (fun _ _ h6 => fX10_slot_183 h6))))) (fp_some h5)) (fp_if (fp_some h5) (fp_some h5))))) (fp_some h3))))) (fX10_slot_20 h1))))
theorem fX0_goToLast {t : Nat} (h : FR s0 s)  : FP s0 (gX0_goToLast t s) := by
  unfold gX0_goToLast
  exact fp_wr h (Or.inr (Or.inl rfl)) (fun _ h1 => fp_wr h1 (Or.inr (Or.inl rfl)) (fun _ h2 => fp_wr h2 (Or.inr (Or.inl rfl)) (fun _ h3 => fp_some h3)))
theorem fX0_mark {i1 : Int32} (h : FR s0 s)  : FP s0 (gX0_mark s i1) := by
  unfold gX0_mark
  exact fp_if (fp_some h) (fp_if (fp_some h) (fp_ix (fun _ => fp_ix (fun _ => fp_wr h (Or.inr (Or.inr rfl)) (fun _ h1 => fp_some h1)))))
theorem fX0_goToCaller_61 {l2 : Int32} (h : FR s0 s)  : FP s0 (gX0_goToCaller_61 s l2) := by
  unfold gX0_goToCaller_61
  exact fp_cl (fX3_word h) (fun _ _ h1 => fp_wr h1 (Or.inr (Or.inl rfl)) (fun _ h2 => fp_cl (fX6_frameWords h2) (fun _ _ h3 => fp_wr h3 (Or.inr (Or.inl rfl)) (fun _ h4 => fp_some h4))))
theorem fX0_goToCaller  (h : FR s0 s)  : FP s0 (gX0_goToCaller s) := by
  unfold gX0_goToCaller
  exact fp_cl (fX5_placeOf h) (fun _ _ h1 => fp_if (fX0_goToCaller_61 h1) (fp_cl (fX5_belowOf h1) (fun _ _ h2 => fp_if (fX0_goToCaller_61 h2) (fp_cl (fX5_belowOf h2) (fun _ _ h3 => fp_wr h3 (Or.inr (Or.inl rfl)) (fun _ h4 => fp_cl (fX5_topOf h4) (fun _ _ h5 => fX0_goToCaller_61 h5)))))))
theorem fX0_markNumbers_16_n {t : Nat} {K10 : wt_S → Int32 → Option (Unit × wt_S)} (hK : ∀ s1 a0, FR s0 s1 → FP s0 (K10 s1 a0)) : ∀ (n : Nat) {s : wt_S} {y0 : Int32} {y1 : Int32}, FR s0 s → FP s0 (gX0_markNumbers_16 t K10 n s y0 y1) := by
  intro n
  induction n with
  | zero => exact fun _ => fp_none
  | succ n ih =>
    intro s y0 y1 h
    unfold gX0_markNumbers_16
    exact fp_cl (fX6_sizeOf h) (fun _ _ h1 => fp_if (fp_if (hK _ _ h1) (fp_cl (fX0_goToCaller h1) (fun _ _ h2 => hK _ _ h2))) (fp_cl (fX6_isPointer h1) (fun _ _ h2 => fp_if (ih h2) (fp_cl (fX0_mark h2) (fun _ _ h3 => ih h3)))))
theorem fX0_markNumbers_16 {t : Nat} {K10 : wt_S → Int32 → Option (Unit × wt_S)} {n : Nat} {s : wt_S} {y0 : Int32} {y1 : Int32} (h : FR s0 s) (hK : ∀ s1 a0, FR s0 s1 → FP s0 (K10 s1 a0)) : FP s0 (gX0_markNumbers_16 t K10 n s y0 y1) := fX0_markNumbers_16_n hK n h
theorem fX0_markNumbers_10_n {t : Nat}  : ∀ (n : Nat) {s : wt_S} {y0 : Int32}, FR s0 s → FP s0 (gX0_markNumbers_10 t n s y0) := by
  intro n
  induction n with
  | zero => exact fun _ => fp_none
  | succ n ih =>
    intro s y0 h
    unfold gX0_markNumbers_10
    exact fp_if (fp_some h) (fX0_markNumbers_16 h (fun _ _ h9 => ih h9))
theorem fX0_markNumbers_10 {t : Nat} {n : Nat} {s : wt_S} {y0 : Int32} (h : FR s0 s)  : FP s0 (gX0_markNumbers_10 t n s y0) := fX0_markNumbers_10_n n h
theorem fX0_markNumbers {t : Nat} (h : FR s0 s)  : FP s0 (gX0_markNumbers t s) := by
  unfold gX0_markNumbers
  exact fp_cl (fX0_goToLast h) (fun _ _ h1 => fX0_markNumbers_10 h1)
theorem fX0_marksAt {i1 : Int32} (h : FR s0 s)  : FP s0 (gX0_marksAt s i1) := by
  unfold gX0_marksAt
  exact fp_if (fp_some h) (fp_if (fp_some h) (fp_ix (fun _ => fp_some h)))
theorem fX0_wrongPointers_79 {K4 : wt_S → Int32 → Int32 → Option (Int32 × wt_S)} {l2 : Int32} {z0 : Int32} {z1 : Int32} (h : FR s0 s) (hK : ∀ s1 a0 a1, FR s0 s1 → FP s0 (K4 s1 a0 a1)) : FP s0 (gX0_wrongPointers_79 K4 s l2 z0 z1) := by
  unfold gX0_wrongPointers_79
  exact hK _ _ _ h
theorem fX0_wrongPointers_4_n   : ∀ (n : Nat) {s : wt_S} {y0 : Int32} {y1 : Int32}, FR s0 s → FP s0 (gX0_wrongPointers_4  n s y0 y1) := by
  intro n
  induction n with
  | zero => exact fun _ => fp_none
  | succ n ih =>
    intro s y0 y1 h
    unfold gX0_wrongPointers_4
    exact fp_cl (fX6_sizeOf h) (fun _ _ h1 => fp_if (fp_some h1) (fp_cl (fX3_word h1) (fun _ _ h2 => fp_cl (fX6_isPointer h2) (fun _ _ h3 => fp_if (ih h3) (fp_if (ih h3) (fp_cl (fX0_marksAt h3) (fun _ _ h4 => fp_if (fX0_wrongPointers_79 h4 (fun _ _ _ h9 => ih h9)) (fX0_wrongPointers_79 h4 (fun _ _ _ h9 => ih h9)))))))))
theorem fX0_wrongPointers_4  {n : Nat} {s : wt_S} {y0 : Int32} {y1 : Int32} (h : FR s0 s)  : FP s0 (gX0_wrongPointers_4  n s y0 y1) := fX0_wrongPointers_4_n n h
theorem fX0_wrongPointers  (h : FR s0 s)  : FP s0 (gX0_wrongPointers s) := by
  unfold gX0_wrongPointers
  exact fX0_wrongPointers_4 h
theorem fX0_wrongPlaces_118 {K55 : wt_S → Int32 → Int32 → Int32 → Int32 → Option (Int32 × wt_S)} {l3 : Int32} {l4 : Int32} {l6 : Int32} {z0 : Int32} {z1 : Int32} (h : FR s0 s) (hK : ∀ s1 a0 a1 a2 a3, FR s0 s1 → FP s0 (K55 s1 a0 a1 a2 a3)) : FP s0 (gX0_wrongPlaces_118 K55 s l3 l4 l6 z0 z1) := by
  unfold gX0_wrongPlaces_118
  exact hK _ _ _ _ _ h
theorem fX0_wrongPlaces_110 {K55 : wt_S → Int32 → Int32 → Int32 → Int32 → Option (Int32 × wt_S)} {l3 : Int32} {l4 : Int32} {l6 : Int32} {z0 : Int32} {z1 : Int32} {z2 : Int32} (h : FR s0 s) (hK : ∀ s1 a0 a1 a2 a3, FR s0 s1 → FP s0 (K55 s1 a0 a1 a2 a3)) : FP s0 (gX0_wrongPlaces_110 K55 s l3 l4 l6 z0 z1 z2) := by
  unfold gX0_wrongPlaces_110
  exact fp_if (fX0_wrongPlaces_118 h (fun _ _ _ _ _ h9 => hK _ _ _ _ _ h9)) (fX0_wrongPlaces_118 h (fun _ _ _ _ _ h9 => hK _ _ _ _ _ h9))
theorem fX0_wrongPlaces_93 {K55 : wt_S → Int32 → Int32 → Int32 → Int32 → Option (Int32 × wt_S)} {l1 : Int32} {l3 : Int32} {l4 : Int32} {l6 : Int32} {l7 : Int32} (h : FR s0 s) (hK : ∀ s1 a0 a1 a2 a3, FR s0 s1 → FP s0 (K55 s1 a0 a1 a2 a3)) : FP s0 (gX0_wrongPlaces_93 K55 s l1 l3 l4 l6 l7) := by
  unfold gX0_wrongPlaces_93
  exact fp_if (fX0_wrongPlaces_110 h (fun _ _ _ _ _ h9 => hK _ _ _ _ _ h9)) (fX0_wrongPlaces_110 h (fun _ _ _ _ _ h9 => hK _ _ _ _ _ h9))
theorem fX0_wrongPlaces_55_n {K16 : wt_S → Int32 → Int32 → Int32 → Option (Int32 × wt_S)} (hK : ∀ s1 a0 a1 a2, FR s0 s1 → FP s0 (K16 s1 a0 a1 a2)) : ∀ (n : Nat) {s : wt_S} {y0 : Int32} {y1 : Int32} {y2 : Int32} {y3 : Int32}, FR s0 s → FP s0 (gX0_wrongPlaces_55 K16 n s y0 y1 y2 y3) := by
  intro n
  induction n with
  | zero => exact fun _ => fp_none
  | succ n ih =>
    intro s y0 y1 y2 y3 h
    unfold gX0_wrongPlaces_55
    exact fp_if (hK _ _ _ _ h) (fp_cl (fX0_wrongPointers h) (fun _ _ h1 => fp_cl (fX3_word h1) (fun _ _ h2 => fp_if (fX0_wrongPlaces_93 h2 (fun _ _ _ _ _ h9 => ih h9)) (fp_cl (fX0_goToCaller h2) (fun _ _ h3 => fX0_wrongPlaces_93 h3 (fun _ _ _ _ _ h9 => ih h9))))))
theorem fX0_wrongPlaces_55 {K16 : wt_S → Int32 → Int32 → Int32 → Option (Int32 × wt_S)} {n : Nat} {s : wt_S} {y0 : Int32} {y1 : Int32} {y2 : Int32} {y3 : Int32} (h : FR s0 s) (hK : ∀ s1 a0 a1 a2, FR s0 s1 → FP s0 (K16 s1 a0 a1 a2)) : FP s0 (gX0_wrongPlaces_55 K16 n s y0 y1 y2 y3) := fX0_wrongPlaces_55_n hK n h
theorem fX0_wrongPlaces_16_n   : ∀ (n : Nat) {s : wt_S} {y0 : Int32} {y1 : Int32} {y2 : Int32}, FR s0 s → FP s0 (gX0_wrongPlaces_16  n s y0 y1 y2) := by
  intro n
  induction n with
  | zero => exact fun _ => fp_none
  | succ n ih =>
    intro s y0 y1 y2 h
    unfold gX0_wrongPlaces_16
    exact fp_if (fp_some h) (fp_ix (fun _ => fp_cl (fJ7_fill_53178 h) (fun _ _ h1 => fp_cl (fX0_markNumbers h1) (fun _ _ h2 => fp_cl (fX0_goToLast h2) (fun _ _ h3 => fX0_wrongPlaces_55 h3 (fun _ _ _ _ h9 => ih h9))))))
theorem fX0_wrongPlaces_16  {n : Nat} {s : wt_S} {y0 : Int32} {y1 : Int32} {y2 : Int32} (h : FR s0 s)  : FP s0 (gX0_wrongPlaces_16  n s y0 y1 y2) := fX0_wrongPlaces_16_n n h
theorem fX0_wrongPlaces  (h : FR s0 s)  : FP s0 (gX0_wrongPlaces s) := by
  unfold gX0_wrongPlaces
  exact fX0_wrongPlaces_16 h
theorem fX0_markWords_41_n {t : Nat} {K18 : wt_S → Int32 → Option (Unit × wt_S)} (hK : ∀ s1 a0, FR s0 s1 → FP s0 (K18 s1 a0)) : ∀ (n : Nat) {s : wt_S} {y0 : Int32} {y1 : Int32} {y2 : Int32}, FR s0 s → FP s0 (gX0_markWords_41 t K18 n s y0 y1 y2) := by
  intro n
  induction n with
  | zero => exact fun _ => fp_none
  | succ n ih =>
    intro s y0 y1 y2 h
    unfold gX0_markWords_41
    exact fp_if (fp_if (hK _ _ h) (fp_cl (fX8_toCaller h) (fun _ _ h1 => hK _ _ h1))) (fp_cl (fX0_mark h) (fun _ _ h1 => ih h1))
theorem fX0_markWords_41 {t : Nat} {K18 : wt_S → Int32 → Option (Unit × wt_S)} {n : Nat} {s : wt_S} {y0 : Int32} {y1 : Int32} {y2 : Int32} (h : FR s0 s) (hK : ∀ s1 a0, FR s0 s1 → FP s0 (K18 s1 a0)) : FP s0 (gX0_markWords_41 t K18 n s y0 y1 y2) := fX0_markWords_41_n hK n h
theorem fX0_markWords_18_n {t : Nat}  : ∀ (n : Nat) {s : wt_S} {y0 : Int32}, FR s0 s → FP s0 (gX0_markWords_18 t n s y0) := by
  intro n
  induction n with
  | zero => exact fun _ => fp_none
  | succ n ih =>
    intro s y0 h
    unfold gX0_markWords_18
    exact fp_if (fp_some h) (fp_cl (fX6_frameWords h) (fun _ _ h1 => fX0_markWords_41 h1 (fun _ _ h9 => ih h9)))
theorem fX0_markWords_18 {t : Nat} {n : Nat} {s : wt_S} {y0 : Int32} (h : FR s0 s)  : FP s0 (gX0_markWords_18 t n s y0) := fX0_markWords_18_n n h
theorem fX0_markWords {t : Nat} (h : FR s0 s)  : FP s0 (gX0_markWords t s) := by
  unfold gX0_markWords
  exact fp_cl (fX8_toLast h) (fun _ _ h1 => fX0_markWords_18 h1)
theorem fX0_liesWell_123 {t : Nat} {K94 : wt_S → Int32 → Int32 → Int32 → Int32 → Option (Int32 × wt_S)} {l3 : Int32} {l4 : Int32} {l7 : Int32} {z0 : Int32} (h : FR s0 s) (hK : ∀ s1 a0 a1 a2 a3, FR s0 s1 → FP s0 (K94 s1 a0 a1 a2 a3)) : FP s0 (gX0_liesWell_123 t K94 s l3 l4 l7 z0) := by
  unfold gX0_liesWell_123
  exact hK _ _ _ _ _ h
theorem fX0_liesWell_122 {t : Nat} {K94 : wt_S → Int32 → Int32 → Int32 → Int32 → Option (Int32 × wt_S)} {l3 : Int32} {l4 : Int32} {l7 : Int32} (h : FR s0 s) (hK : ∀ s1 a0 a1 a2 a3, FR s0 s1 → FP s0 (K94 s1 a0 a1 a2 a3)) : FP s0 (gX0_liesWell_122 t K94 s l3 l4 l7) := by
  unfold gX0_liesWell_122
  exact fX0_liesWell_123 h (fun _ _ _ _ _ h9 => hK _ _ _ _ _ h9)
theorem fX0_liesWell_94_n {t : Nat}  : ∀ (n : Nat) {s : wt_S} {y0 : Int32} {y1 : Int32} {y2 : Int32} {y3 : Int32}, FR s0 s → FP s0 (gX0_liesWell_94 t n s y0 y1 y2 y3) := by
  intro n
  induction n with
  | zero => exact fun _ => fp_none
  | succ n ih =>
    intro s y0 y1 y2 y3 h
    unfold gX0_liesWell_94
    exact fp_if (fp_rz (fp_some h)) (fp_if (fX0_liesWell_122 h (fun _ _ _ _ _ h9 => ih h9)) (fp_cl (fX0_marksAt h) (fun _ _ h1 => fp_if (fX0_liesWell_122 h1 (fun _ _ _ _ _ h9 => ih h9)) (fX0_liesWell_123 h1 (fun _ _ _ _ _ h9 => ih h9)))))
theorem fX0_liesWell_94 {t : Nat} {n : Nat} {s : wt_S} {y0 : Int32} {y1 : Int32} {y2 : Int32} {y3 : Int32} (h : FR s0 s)  : FP s0 (gX0_liesWell_94 t n s y0 y1 y2 y3) := fX0_liesWell_94_n n h
theorem fX0_liesWell_89 {t : Nat} {l3 : Int32} {l4 : Int32} {z0 : Int32} (h : FR s0 s)  : FP s0 (gX0_liesWell_89 t s l3 l4 z0) := by
  unfold gX0_liesWell_89
  exact fX0_liesWell_94 h
theorem fX0_liesWell_88 {t : Nat} {l3 : Int32} {l4 : Int32} (h : FR s0 s)  : FP s0 (gX0_liesWell_88 t s l3 l4) := by
  unfold gX0_liesWell_88
  exact fX0_liesWell_89 h
theorem fX0_liesWell {t : Nat} (h : FR s0 s)  : FP s0 (gX0_liesWell t s) := by
  unfold gX0_liesWell
  exact fp_cl (fX6_frameWords h) (fun _ _ h1 => fp_cl (fX5_holding h1) (fun _ _ h2 => fp_cl (fX5_ownerOf h2) (fun _ _ h3 => fp_if (fX0_liesWell_88 h3) (fp_cl (fX5_placeOf h3) (fun _ _ h4 => fp_if (fX0_liesWell_88 h4) (fp_cl (fX5_endOf h4) (fun _ _ h5 => fp_if (fX0_liesWell_88 h5) (fX0_liesWell_89 h5))))))))
theorem fX0_wrongFrames_110 {K90 : wt_S → Int32 → Int32 → Int32 → Nat → Int32 → Option (Int32 × wt_S)} {l3 : Int32} {l4 : Int32} {t5 : Nat} {l6 : Int32} {z0 : Int32} {z1 : Int32} (h : FR s0 s) (hK : ∀ s1 a0 a1 a2 a3 a4, FR s0 s1 → FP s0 (K90 s1 a0 a1 a2 a3 a4)) : FP s0 (gX0_wrongFrames_110 K90 s l3 l4 t5 l6 z0 z1) := by
  unfold gX0_wrongFrames_110
  exact fp_if (hK _ _ _ _ _ _ h) (fp_cl (fX8_toCaller h) (fun _ _ h1 => hK _ _ _ _ _ _ h1))
theorem fX0_wrongFrames_90_n {K59 : wt_S → Int32 → Int32 → Int32 → Option (Int32 × wt_S)} (hK : ∀ s1 a0 a1 a2, FR s0 s1 → FP s0 (K59 s1 a0 a1 a2)) : ∀ (n : Nat) {s : wt_S} {y0 : Int32} {y1 : Int32} {y2 : Int32} {y3 : Nat} {y4 : Int32}, FR s0 s → FP s0 (gX0_wrongFrames_90 K59 n s y0 y1 y2 y3 y4) := by
  intro n
  induction n with
  | zero => exact fun _ => fp_none
  | succ n ih =>
    intro s y0 y1 y2 y3 y4 h
    unfold gX0_wrongFrames_90
    exact fp_if (hK _ _ _ _ h) (fp_cl (fX0_liesWell h) (fun _ _ h1 => fp_if (fX0_wrongFrames_110 h1 (fun _ _ _ _ _ _ h9 => ih h9)) (fX0_wrongFrames_110 h1 (fun _ _ _ _ _ _ h9 => ih h9))))
theorem fX0_wrongFrames_90 {K59 : wt_S → Int32 → Int32 → Int32 → Option (Int32 × wt_S)} {n : Nat} {s : wt_S} {y0 : Int32} {y1 : Int32} {y2 : Int32} {y3 : Nat} {y4 : Int32} (h : FR s0 s) (hK : ∀ s1 a0 a1 a2, FR s0 s1 → FP s0 (K59 s1 a0 a1 a2)) : FP s0 (gX0_wrongFrames_90 K59 n s y0 y1 y2 y3 y4) := fX0_wrongFrames_90_n hK n h
theorem fX0_wrongFrames_59_n   : ∀ (n : Nat) {s : wt_S} {y0 : Int32} {y1 : Int32} {y2 : Int32}, FR s0 s → FP s0 (gX0_wrongFrames_59  n s y0 y1 y2) := by
  intro n
  induction n with
  | zero => exact fun _ => fp_none
  | succ n ih =>
    intro s y0 y1 y2 h
    unfold gX0_wrongFrames_59
    exact fp_if (fp_some h) (fp_ix (fun _ => fp_cl (fX8_toLast h) (fun _ _ h1 => fX0_wrongFrames_90 h1 (fun _ _ _ _ h9 => ih h9))))
theorem fX0_wrongFrames_59  {n : Nat} {s : wt_S} {y0 : Int32} {y1 : Int32} {y2 : Int32} (h : FR s0 s)  : FP s0 (gX0_wrongFrames_59  n s y0 y1 y2) := fX0_wrongFrames_59_n n h
theorem fX0_wrongFrames_21_n   : ∀ (n : Nat) {s : wt_S} {y0 : Int32} {y1 : Int32}, FR s0 s → FP s0 (gX0_wrongFrames_21  n s y0 y1) := by
  intro n
  induction n with
  | zero => exact fun _ => fp_none
  | succ n ih =>
    intro s y0 y1 h
    unfold gX0_wrongFrames_21
    exact fp_if (fX0_wrongFrames_59 h) (fp_ix (fun _ => fp_cl (fX0_markWords h) (fun _ _ h1 => ih h1)))
theorem fX0_wrongFrames_21  {n : Nat} {s : wt_S} {y0 : Int32} {y1 : Int32} (h : FR s0 s)  : FP s0 (gX0_wrongFrames_21  n s y0 y1) := fX0_wrongFrames_21_n n h
theorem fX0_wrongFrames  (h : FR s0 s)  : FP s0 (gX0_wrongFrames s) := by
  unfold gX0_wrongFrames
  exact fp_cl (fJ7_fill_53178 h) (fun _ _ h1 => fX0_wrongFrames_21 h1)
theorem fX10_never {i1 : Int32} (h : FR s0 s)  : FP s0 (gX10_never s i1) := by
  unfold gX10_never
  exact fp_if (fp_some h) (fp_if (fp_if (fp_if (fp_cl (fX0_wrongFrames h) (fun _ _ h1 => fp_some h1)) (fp_cl (fX0_wrongPlaces h) (fun _ _ h1 => fp_some h1))) (fp_some h)) (fp_some h))
end
end
section
/-! ===== the class: how many pieces and words a task has ===== -/
theorem vsum_at {g g' : Nat → Nat} {j : Nat} (hg : ∀ k, k ≠ j → g' k = g k) : ∀ {n : Nat}, (j < n → vsum g' n + g j = vsum g n + g' j) ∧ (n ≤ j → vsum g' n = vsum g n) := by
  intro n
  induction n with
  | zero => exact ⟨fun h => absurd h (Nat.not_lt_zero _), fun _ => rfl⟩
  | succ n ih =>
    obtain ⟨i1, i2⟩ := ih
    refine ⟨fun h => ?_, fun h => ?_⟩
    · show vsum g' n + g' n + g j = vsum g n + g n + g' j
      by_cases e : j = n
      · subst e
        rw [i2 (Nat.le_refl _)]
        omega
      · rw [hg n (fun q => e q.symm)]
        have := i1 (by omega)
        omega
    · show vsum g' n + g' n = vsum g n + g n
      rw [hg n (by omega), i2 (by omega)]
section
variable {b lim t np k : Nat} {s : wt_S} {ps : List vP} {q : vP} {zs : List (vP × Nat)} {fr : List Nat}
theorem vln_no : ∀ {ps : List vP}, (∀ q ∈ ps, ¬ (q.2.2.1 = t ∧ q.2.2.2 = k)) → vln ps t k = 0 := by
  intro ps
  induction ps with
  | nil => intro _; rfl
  | cons p ps ih =>
    intro h
    rw [vln_cons, if_neg (h p (List.mem_cons_self ..))]
    exact ih (fun q hq => h q (List.mem_cons_of_mem _ hq))
theorem vln_at : ∀ {ps : List vP}, ps.Pairwise (fun p q => ¬ (p.2.2.1 = q.2.2.1 ∧ p.2.2.2 = q.2.2.2)) → q ∈ ps → vln ps q.2.2.1 q.2.2.2 = q.2.1 := by
  intro ps
  induction ps with
  | nil => intro _ h; cases h
  | cons p ps ih =>
    intro h hq
    obtain ⟨h1, h2⟩ := List.pairwise_cons.mp h
    rcases List.mem_cons.mp hq with e | hq'
    · subst e
      rw [vln_cons, if_pos ⟨rfl, rfl⟩]
    · rw [vln_cons, if_neg (h1 q hq')]
      exact ih h2 hq'
theorem vcw_sum (hnp : np ≤ 1000) : ∀ {ps : List vP}, ps.Pairwise (fun p q => ¬ (p.2.2.1 = q.2.2.1 ∧ p.2.2.2 = q.2.2.2)) → (∀ q ∈ ps, q.2.2.1 = t → q.2.2.2 < np ∨ q.2.2.2 = 1000) → vcw t ps = vsum (fun k => vln ps t k) np + vln ps t 1000 := by
  intro ps
  induction ps with
  | nil =>
    intro _ _
    have h0 : vsum (fun k => vln [] t k) np = 0 := vsum_0 (fun j _ => rfl)
    rw [h0]
    rfl
  | cons q ps ih =>
    intro h hn
    obtain ⟨h1, h2⟩ := List.pairwise_cons.mp h
    have hi := ih h2 (fun p hp => hn p (List.mem_cons_of_mem _ hp))
    show (if q.2.2.1 = t then q.2.1 else 0) + vcw t ps = _
    rw [hi]
    by_cases c : q.2.2.1 = t
    · have e : ∀ k, k ≠ q.2.2.2 → vln (q :: ps) t k = vln ps t k := fun k hk => by rw [vln_cons, if_neg (fun x => hk x.2.symm)]
      have e2 : vln (q :: ps) t q.2.2.2 = q.2.1 := by rw [vln_cons, if_pos ⟨c, rfl⟩]
      have e3 : vln ps t q.2.2.2 = 0 := vln_no (fun p hp x => h1 p hp ⟨c.trans x.1.symm, x.2.symm⟩)
      rw [if_pos c]
      rcases hn q (List.mem_cons_self ..) c with hlt | heq
      · have h3 : vsum (fun k => vln (q :: ps) t k) np + vln ps t q.2.2.2 = vsum (fun k => vln ps t k) np + vln (q :: ps) t q.2.2.2 := (vsum_at (g := fun k => vln ps t k) (g' := fun k => vln (q :: ps) t k) e).1 hlt
        rw [e2, e3] at h3
        rw [e 1000 (by omega)]
        omega
      · have h3 : vsum (fun k => vln (q :: ps) t k) np = vsum (fun k => vln ps t k) np := (vsum_at (g := fun k => vln ps t k) (g' := fun k => vln (q :: ps) t k) e).2 (by omega)
        rw [heq] at e2 e3
        rw [h3, e2, e3]
        omega
    · have e : ∀ k, vln (q :: ps) t k = vln ps t k := fun k => by rw [vln_cons, if_neg (fun x => c x.1)]
      rw [if_neg c, show (fun k => vln (q :: ps) t k) = (fun k => vln ps t k) from funext e, e 1000, Nat.zero_add]
theorem nI_nm {k : Nat} (h : k < 2147483648) : nI k ≠ -1 := fun e => by
  have := congrArg Int32.toInt e
  rw [nI_int h, m1_int] at this
  omega
theorem c_taskWords (hP : PC b lim s zs fr) (hm : zs.map Prod.fst = ps) (hu : ps.Pairwise (fun p q => ¬ (p.2.2.1 = q.2.2.1 ∧ p.2.2.2 = q.2.2.2))) (hit : Itp ps t np) (hnp : np ≤ 256) (hch : Ch b s zs t np) : gX9_wordsOf b (b + 17 + 2 * t) s = some (nI (vcw t ps), s) := by
  have mem : ∀ z ∈ zs, z.1 ∈ ps := fun z hz => by rw [← hm]; exact List.mem_map.mpr ⟨z, hz, rfl⟩
  have loop : ∀ (m c fu acc : Nat) (x : Int32), c + m = np → m < fu → ((m = 0 → x = -1) ∧ ∀ z ∈ zs, z.1.2.2.1 = t → z.1.2.2.2 + 1 = m → x = nI z.2) → gX9_wordsOf_20 b (b + 17 + 2 * t) fu s (nI acc) x (nI c) = some (nI (acc + vsum (fun k => vln ps t k) m), s) := by
    intro m
    induction m with
    | zero =>
      intro c fu acc x hc hfu hx
      obtain ⟨fu, rfl⟩ : ∃ k, fu = k + 1 := ⟨fu - 1, by omega⟩
      rw [gX9_wordsOf_20, hx.1 rfl]
      by_cases c1 : (256 : Int32).toInt ≤ (nI c).toInt
      · rw [if_pos c1]; rfl
      · rw [if_neg c1, if_pos rfl]; rfl
    | succ m ih =>
      intro c fu acc x hc hfu hx
      obtain ⟨fu, rfl⟩ : ∃ k, fu = k + 1 := ⟨fu - 1, by omega⟩
      obtain ⟨q, q1, q2, q3⟩ := hit.1 m (by omega)
      rw [← hm] at q1
      obtain ⟨z, hz, rfl⟩ := List.mem_map.mp q1
      obtain ⟨z1, z2, z3, z4⟩ := hP.mem hz
      have hw : vln ps t m = z.1.2.1 := by
        have := vln_at hu (mem z hz)
        rw [q2, q3] at this
        exact this
      have hcz := hch.2.2 z hz q2
      rw [gX9_wordsOf_20, hx.2 z hz q2 (by omega), if_neg (c_hi (by omega)), if_neg (nI_nm (by omega)), c_wordsOf z1, cl_some, c_belowOf z1, cl_some, z3, nI_add, show nI c + 1 = nI (c + 1) from nI_add c 1, ih (c + 1) fu (acc + z.1.2.1) _ (by omega) (by omega) ⟨fun e => hcz.1 (by omega), fun y hy hyt hyn => hcz.2 y hy hyt (by omega)⟩]
      show some (nI (acc + z.1.2.1 + vsum (fun k => vln ps t k) m), s) = some (nI (acc + (vsum (fun k => vln ps t k) m + vln ps t m)), s)
      rw [hw, show acc + z.1.2.1 + vsum (fun k => vln ps t k) m = acc + (vsum (fun k => vln ps t k) m + z.1.2.1) by omega]
  have hsp : gX5_wordsOf b s (s (b + 17 + 2 * t) 13) = some (nI (vln ps t 1000), s) := by
    by_cases c : ∃ z ∈ zs, z.1.2.2.1 = t ∧ z.1.2.2.2 = 1000
    · obtain ⟨z, hz, e1, e2⟩ := c
      obtain ⟨z1, z2, z3, z4⟩ := hP.mem hz
      have hw := vln_at hu (mem z hz)
      rw [e1, e2] at hw
      rw [hch.2.1.1 z hz e1 e2, c_wordsOf z1, z3, hw]
    · rw [hch.2.1.2 (fun z hz e => c ⟨z, hz, e⟩), c_wordsOf_m, vln_no (fun q hq e => ?_)]
      · rfl
      · rw [← hm] at hq
        obtain ⟨z, hz, rfl⟩ := List.mem_map.mp hq
        exact c ⟨z, hz, e⟩
  unfold gX9_wordsOf
  rw [hsp, cl_some, show gX9_wordsOf_20 b (b + 17 + 2 * t) wt_N s (nI (vln ps t 1000)) (s (b + 17 + 2 * t) 12) 0 = _ from loop np 0 wt_N _ _ (by omega) (by unfold wt_N; omega) hch.1, vcw_sum (by omega) hu hit.2, Nat.add_comm]
end
end
