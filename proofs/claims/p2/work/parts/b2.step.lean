/-! ===== the class: a step ===== -/
section
variable {b lim B : Nat} {s s' : wt_S} {V V' : vV} {zs zs' : List (vP × Nat)} {fr fr' : List Nat} {t np k l : Nat} {v : Int32} {Z : (Nat → Int32) → Int32 → Int32 → Int32 → Bool}
theorem k_int {K : Int32} (h : 0 ≤ K.toInt ∧ K.toInt ≤ 10) : K = 0 ∨ K = 1 ∨ K = 2 ∨ K = 3 ∨ K = 4 ∨ K = 5 ∨ K = 6 ∨ K = 7 ∨ K = 8 ∨ K = 9 ∨ K = 10 := by
  obtain ⟨kk, kk1, rfl⟩ := nI_ex h.1
  have := h.2
  rw [nI_int kk1] at this
  have : kk = 0 ∨ kk = 1 ∨ kk = 2 ∨ kk = 3 ∨ kk = 4 ∨ kk = 5 ∨ kk = 6 ∨ kk = 7 ∨ kk = 8 ∨ kk = 9 ∨ kk = 10 := by omega
  rcases this with rfl | rfl | rfl | rfl | rfl | rfl | rfl | rfl | rfl | rfl | rfl <;> decide
/-- a line, LINE written already -/
theorem c_line {A Bb C : Int32} (h : LC b lim s V zs fr t l) (hI : VI lim B V) (hb : vbz V.1 t) (hll : V.1 (3968 + t) = nI (l + 1)) (e1 : V.1 (vco (vlf V t).1 l + 1) = A) (e2 : V.1 (vco (vlf V t).1 l + 2) = Bb) (e3 : V.1 (vco (vlf V t).1 l + 3) = C) (hw : V.1 (vco (vlf V t).1 l) ≠ 9 → V.1 (3926 + t) = 1) {K : Int32} (e0 : V.1 (vco (vlf V t).1 l) = K) :
    ∃ s' zs' fr', (if K.toInt < -1 ∨ 10 < K.toInt then (wt_cl (gX2_reckon b (b + 17 + 2 * t) s K (nI l)) fun _ s5 => gX2_makeStep_191 b (b + 17 + 2 * t) s5 (-1)) else (if K.toInt = -1 then (wt_cl (gX2_leaveFrame b (b + 17 + 2 * t) s 0) fun _ s6 => gX2_makeStep_191 b (b + 17 + 2 * t) s6 (-1)) else (if K.toInt = 0 then (wt_cl (gX2_reckon b (b + 17 + 2 * t) s K (nI l)) fun _ s7 => gX2_makeStep_191 b (b + 17 + 2 * t) s7 (-1)) else (if K.toInt = 1 then (wt_cl (gX2_reckon b (b + 17 + 2 * t) s K (nI l)) fun _ s7 => gX2_makeStep_191 b (b + 17 + 2 * t) s7 (-1)) else (if K.toInt = 2 then (wt_cl (gX2_reckon b (b + 17 + 2 * t) s K (nI l)) fun _ s7 => gX2_makeStep_191 b (b + 17 + 2 * t) s7 (-1)) else (if K.toInt = 3 then (wt_cl (gX2_reckon b (b + 17 + 2 * t) s K (nI l)) fun _ s7 => gX2_makeStep_191 b (b + 17 + 2 * t) s7 (-1)) else (if K.toInt = 4 then (wt_cl (gX2_reckon b (b + 17 + 2 * t) s K (nI l)) fun _ s7 => gX2_makeStep_191 b (b + 17 + 2 * t) s7 (-1)) else (if K.toInt = 5 then (wt_cl (gX2_reckon b (b + 17 + 2 * t) s K (nI l)) fun _ s7 => gX2_makeStep_191 b (b + 17 + 2 * t) s7 (-1)) else (if K.toInt = 6 then (wt_cl (gX2_callFunction b (b + 17 + 2 * t) s (nI l)) fun v14 s13 => gX2_makeStep_191 b (b + 17 + 2 * t) s13 v14) else (if K.toInt = 7 then (wt_cl (gX2_reckon b (b + 17 + 2 * t) s K (nI l)) fun _ s7 => gX2_makeStep_191 b (b + 17 + 2 * t) s7 (-1)) else (if K.toInt = 8 then (wt_cl (gX6_part 5 s (nI (vlf V t).1) (nI l) 1) fun v17 s16 => (wt_cl (gX3_word b s16 (((s (b + 17 + 2 * t) 11) + 2) + v17)) fun v19 s18 => (wt_cl (gX2_leaveFrame b (b + 17 + 2 * t) s18 v19) fun _ s20 => gX2_makeStep_191 b (b + 17 + 2 * t) s20 (-1)))) else (if K.toInt = 9 then (wt_cl (gX2_callForeign b (b + 17 + 2 * t) s (nI l)) fun v22 s21 => gX2_makeStep_191 b (b + 17 + 2 * t) s21 v22) else (if K.toInt = 10 then (wt_cl (gX4_makeSmaller b (b + 17 + 2 * t) s) fun v24 s23 => gX2_makeStep_191 b (b + 17 + 2 * t) s23 (-1)) else none))))))))))))) = some ((), s') ∧ RC b lim s' (vln1 lim Z V t l K A Bb C) zs' fr' ∧ TO b t s s' := by
  have hL := h
  obtain ⟨hR, hx, hj, ht, h0, h75, hl⟩ := h
  have hlm := hx.2.2
  have hft := hL.f.1
  have hlin := (hI.2.1 _ hft).2.2 l hl
  unfold vlin at hlin
  rw [e0, e1, e2, e3] at hlin
  have hK := k_int hlin.1
  unfold vcan at hlin
  obtain ⟨-, p0, p1, p3, p4, p5, p6, p7, p8, p9⟩ := hlin
  have hno : ∀ {X : vV} {S : wt_S} {zz ff}, RC b lim S X zz ff → X.1 (3926 + t) ≠ 2 → gX2_makeStep_191 b (b + 17 + 2 * t) S (-1) = some ((), S) := fun r e => c_191m (by rw [r.at ht (e := (1, 3926)) (by decide)]; exact e)
  obtain ⟨np, z, z2, z3, k, l', hP, -, hhot, ⟨r1, r2, r3⟩, -, ⟨k1, k2⟩, -, hs, -, -⟩ := hI.opn ht hb hlm
  rw [e0] at hw
  rcases hK with rfl | rfl | rfl | rfl | rfl | rfl | rfl | rfl | rfl | rfl | rfl
  · rw [if_neg (show ¬ ((0 : Int32).toInt < -1 ∨ 10 < (0 : Int32).toInt) by decide), if_neg (show ¬ (0 : Int32).toInt = -1 by decide), if_pos (show (0 : Int32).toInt = 0 by decide)]
    have h1 : V.1 (3926 + t) = 1 := hw (by decide)
    obtain ⟨s', f1, f2, f3, f4⟩ := c_rk (Z := Z) hL (K := 0) (Or.inl rfl) e0 e1 e2 e3
    rw [f1, cl_some, hno f2 (by rw [f4, h1]; decide)]
    exact ⟨s', zs, fr, rfl, f2, f3⟩
  · rw [if_neg (show ¬ ((1 : Int32).toInt < -1 ∨ 10 < (1 : Int32).toInt) by decide), if_neg (show ¬ (1 : Int32).toInt = -1 by decide), if_neg (show ¬ (1 : Int32).toInt = 0 by decide), if_pos (show (1 : Int32).toInt = 1 by decide)]
    have h1 : V.1 (3926 + t) = 1 := hw (by decide)
    obtain ⟨s', f1, f2, f3, f4⟩ := c_rk (Z := Z) hL (K := 1) (Or.inr (Or.inl rfl)) e0 e1 e2 e3
    rw [f1, cl_some, hno f2 (by rw [f4, h1]; decide)]
    exact ⟨s', zs, fr, rfl, f2, f3⟩
  · rw [if_neg (show ¬ ((2 : Int32).toInt < -1 ∨ 10 < (2 : Int32).toInt) by decide), if_neg (show ¬ (2 : Int32).toInt = -1 by decide), if_neg (show ¬ (2 : Int32).toInt = 0 by decide), if_neg (show ¬ (2 : Int32).toInt = 1 by decide), if_pos (show (2 : Int32).toInt = 2 by decide)]
    have h1 : V.1 (3926 + t) = 1 := hw (by decide)
    obtain ⟨s', f1, f2, f3, f4⟩ := c_rk (Z := Z) hL (K := 2) (Or.inr (Or.inr (Or.inl rfl))) e0 e1 e2 e3
    rw [f1, cl_some, hno f2 (by rw [f4, h1]; decide)]
    exact ⟨s', zs, fr, rfl, f2, f3⟩
  · rw [if_neg (show ¬ ((3 : Int32).toInt < -1 ∨ 10 < (3 : Int32).toInt) by decide), if_neg (show ¬ (3 : Int32).toInt = -1 by decide), if_neg (show ¬ (3 : Int32).toInt = 0 by decide), if_neg (show ¬ (3 : Int32).toInt = 1 by decide), if_neg (show ¬ (3 : Int32).toInt = 2 by decide), if_pos (show (3 : Int32).toInt = 3 by decide)]
    have h1 : V.1 (3926 + t) = 1 := hw (by decide)
    obtain ⟨s', f1, f2, f3, f4⟩ := c_rk (Z := Z) hL (K := 3) (Or.inr (Or.inr (Or.inr (Or.inl rfl)))) e0 e1 e2 e3
    rw [f1, cl_some, hno f2 (by rw [f4, h1]; decide)]
    exact ⟨s', zs, fr, rfl, f2, f3⟩
  · rw [if_neg (show ¬ ((4 : Int32).toInt < -1 ∨ 10 < (4 : Int32).toInt) by decide), if_neg (show ¬ (4 : Int32).toInt = -1 by decide), if_neg (show ¬ (4 : Int32).toInt = 0 by decide), if_neg (show ¬ (4 : Int32).toInt = 1 by decide), if_neg (show ¬ (4 : Int32).toInt = 2 by decide), if_neg (show ¬ (4 : Int32).toInt = 3 by decide), if_pos (show (4 : Int32).toInt = 4 by decide)]
    have h1 : V.1 (3926 + t) = 1 := hw (by decide)
    obtain ⟨s', f1, f2, f3, f4⟩ := c_rk (Z := Z) hL (K := 4) (Or.inr (Or.inr (Or.inr (Or.inr (Or.inl rfl))))) e0 e1 e2 e3
    rw [f1, cl_some, hno f2 (by rw [f4, h1]; decide)]
    exact ⟨s', zs, fr, rfl, f2, f3⟩
  · rw [if_neg (show ¬ ((5 : Int32).toInt < -1 ∨ 10 < (5 : Int32).toInt) by decide), if_neg (show ¬ (5 : Int32).toInt = -1 by decide), if_neg (show ¬ (5 : Int32).toInt = 0 by decide), if_neg (show ¬ (5 : Int32).toInt = 1 by decide), if_neg (show ¬ (5 : Int32).toInt = 2 by decide), if_neg (show ¬ (5 : Int32).toInt = 3 by decide), if_neg (show ¬ (5 : Int32).toInt = 4 by decide), if_pos (show (5 : Int32).toInt = 5 by decide)]
    have h1 : V.1 (3926 + t) = 1 := hw (by decide)
    obtain ⟨s', f1, f2, f3, f4⟩ := c_rk (Z := Z) hL (K := 5) (Or.inr (Or.inr (Or.inr (Or.inr (Or.inr (Or.inl rfl)))))) e0 e1 e2 e3
    rw [f1, cl_some, hno f2 (by rw [f4, h1]; decide)]
    exact ⟨s', zs, fr, rfl, f2, f3⟩
  · rw [if_neg (show ¬ ((6 : Int32).toInt < -1 ∨ 10 < (6 : Int32).toInt) by decide), if_neg (show ¬ (6 : Int32).toInt = -1 by decide), if_neg (show ¬ (6 : Int32).toInt = 0 by decide), if_neg (show ¬ (6 : Int32).toInt = 1 by decide), if_neg (show ¬ (6 : Int32).toInt = 2 by decide), if_neg (show ¬ (6 : Int32).toInt = 3 by decide), if_neg (show ¬ (6 : Int32).toInt = 4 by decide), if_neg (show ¬ (6 : Int32).toInt = 5 by decide), if_pos (show (6 : Int32).toInt = 6 by decide)]
    have h1 : V.1 (3926 + t) = 1 := hw (by decide)
    rw [vln1_6]
    obtain ⟨⟨f, rfl, f10⟩, ⟨k0, rfl, y2⟩, q3⟩ := p6 rfl
    by_cases ct : tld V.1 (nI f)
    · rw [if_pos ct, c_cf1 hL e1 ct, cl_some]
      have hfn : (nI f).toInt.toNat = f := by rw [nI_int (by omega)]; rfl
      have hsz := (hj.1.sz hft).2
      have hkn : (nI k0).toInt.toNat = k0 := by rw [nI_int (by omega)]; rfl
      have hs1 : 1 ≤ vsz V.1 f := by
        have := ct.2
        rw [hfn] at this
        unfold vsz
        omega
      have hvc : vcal V.1 (vlf V t).1 l = nI f := by
        unfold vcal
        rw [e0, if_pos rfl]; exact e1
      rw [hfn, hkn]
      refine c_call (fo := false) (l := l) hR hx hP f10 hs1 hI.1.2.2.1 r1 r3 k1 ?_ ⟨h0, h75, hll, hl, e0, e2, y2, h1⟩ ⟨l, hl, by rw [hvc]; exact ct, by rw [hvc]; exact hfn⟩ rfl
      rcases hs with e | ⟨k, e1, e2⟩
      · exact Or.inl e
      · exact Or.inr ⟨k, e1, e2, hI.sdt ht e1 e2⟩
    · obtain ⟨s', f1, f2, f3⟩ := c_cf0 hL e1 e3 q3 ct
      rw [if_neg ct, f1, cl_some, hno f2 (by show V.1 (3926 + t) ≠ 2; rw [h1]; decide)]
      exact ⟨s', zs, fr, rfl, f2, f3⟩
  · rw [if_neg (show ¬ ((7 : Int32).toInt < -1 ∨ 10 < (7 : Int32).toInt) by decide), if_neg (show ¬ (7 : Int32).toInt = -1 by decide), if_neg (show ¬ (7 : Int32).toInt = 0 by decide), if_neg (show ¬ (7 : Int32).toInt = 1 by decide), if_neg (show ¬ (7 : Int32).toInt = 2 by decide), if_neg (show ¬ (7 : Int32).toInt = 3 by decide), if_neg (show ¬ (7 : Int32).toInt = 4 by decide), if_neg (show ¬ (7 : Int32).toInt = 5 by decide), if_neg (show ¬ (7 : Int32).toInt = 6 by decide), if_pos (show (7 : Int32).toInt = 7 by decide)]
    have h1 : V.1 (3926 + t) = 1 := hw (by decide)
    obtain ⟨s', f1, f2, f3, f4⟩ := c_rk (Z := Z) hL (K := 7) (Or.inr (Or.inr (Or.inr (Or.inr (Or.inr (Or.inr rfl)))))) e0 e1 e2 e3
    rw [f1, cl_some, hno f2 (by rw [f4, h1]; decide)]
    exact ⟨s', zs, fr, rfl, f2, f3⟩
  · rw [if_neg (show ¬ ((8 : Int32).toInt < -1 ∨ 10 < (8 : Int32).toInt) by decide), if_neg (show ¬ (8 : Int32).toInt = -1 by decide), if_neg (show ¬ (8 : Int32).toInt = 0 by decide), if_neg (show ¬ (8 : Int32).toInt = 1 by decide), if_neg (show ¬ (8 : Int32).toInt = 2 by decide), if_neg (show ¬ (8 : Int32).toInt = 3 by decide), if_neg (show ¬ (8 : Int32).toInt = 4 by decide), if_neg (show ¬ (8 : Int32).toInt = 5 by decide), if_neg (show ¬ (8 : Int32).toInt = 6 by decide), if_neg (show ¬ (8 : Int32).toInt = 7 by decide), if_pos (show (8 : Int32).toInt = 8 by decide)]
    have h1 : V.1 (3926 + t) = 1 := hw (by decide)
    rw [vln1_8]
    obtain ⟨a, rfl, a2, a3, a4, a5⟩ := vnum_nat hj.1 hft (p8 rfl)
    rw [c_part1 hR.2.2.2.2.2 hj.1 hft hl, cl_some, e1, hL.t11, hL.n a3 a5, cl_some]
    obtain ⟨s', zs', fr', f1, f2, f3⟩ := c_ret (Z := Z) (v := vnm (vlf V t) (nI a)) (hR.bt ht) hL.t11 hx hI ht hb
    have := vrt_26 (Z := Z) (v := vnm (vlf V t) (nI a)) hs
    rw [h1] at this
    rw [f1, cl_some, hno f2 (by rcases this with e | e <;> rw [e] <;> decide)]
    exact ⟨s', zs', fr', rfl, f2, f3⟩
  · rw [if_neg (show ¬ ((9 : Int32).toInt < -1 ∨ 10 < (9 : Int32).toInt) by decide), if_neg (show ¬ (9 : Int32).toInt = -1 by decide), if_neg (show ¬ (9 : Int32).toInt = 0 by decide), if_neg (show ¬ (9 : Int32).toInt = 1 by decide), if_neg (show ¬ (9 : Int32).toInt = 2 by decide), if_neg (show ¬ (9 : Int32).toInt = 3 by decide), if_neg (show ¬ (9 : Int32).toInt = 4 by decide), if_neg (show ¬ (9 : Int32).toInt = 5 by decide), if_neg (show ¬ (9 : Int32).toInt = 6 by decide), if_neg (show ¬ (9 : Int32).toInt = 7 by decide), if_neg (show ¬ (9 : Int32).toInt = 8 by decide), if_pos (show (9 : Int32).toInt = 9 by decide)]
    rw [vln1_9]
    exact c_foreign hL hI hb hlm hll e0 e1 e2 e3
  · rw [if_neg (show ¬ ((10 : Int32).toInt < -1 ∨ 10 < (10 : Int32).toInt) by decide), if_neg (show ¬ (10 : Int32).toInt = -1 by decide), if_neg (show ¬ (10 : Int32).toInt = 0 by decide), if_neg (show ¬ (10 : Int32).toInt = 1 by decide), if_neg (show ¬ (10 : Int32).toInt = 2 by decide), if_neg (show ¬ (10 : Int32).toInt = 3 by decide), if_neg (show ¬ (10 : Int32).toInt = 4 by decide), if_neg (show ¬ (10 : Int32).toInt = 5 by decide), if_neg (show ¬ (10 : Int32).toInt = 6 by decide), if_neg (show ¬ (10 : Int32).toInt = 7 by decide), if_neg (show ¬ (10 : Int32).toInt = 8 by decide), if_neg (show ¬ (10 : Int32).toInt = 9 by decide), if_pos (show (10 : Int32).toInt = 10 by decide)]
    have h1 : V.1 (3926 + t) = 1 := hw (by decide)
    rw [vln1_10]
    obtain ⟨s', zs', fr', f1, f2, f3⟩ := c_quiet hR hx hP r1 r3
    rw [f1, cl_some, hno f2 (by rw [(vqu_w (by omega) (by omega) (by omega) (by omega) (by omega) (by omega)).1, h1]; decide)]
    exact ⟨s', zs', fr', rfl, f2, f3⟩
theorem c_step (h : RC b lim s V zs fr) (hx : CX b lim) (hI : VI lim B V) (ht : t < 6) (hb : vbz V.1 t) (hW : WL V t) : ∃ s' zs' fr', gX2_makeStep b (b + 17 + 2 * t) s = some ((), s') ∧ RC b lim s' (vst lim Z V t) zs' fr' ∧ TO b t s s' := by
  have hlm := hx.2.2
  obtain ⟨np, z, z2, z3, k, l, hP, h0, -, -, -, -, ⟨l1, l2⟩, hsd0, -, -⟩ := hI.opn ht hb hlm
  obtain ⟨hj, hc, -, -, -, -, -, -, -⟩ := hP
  have d5 := (hc.2.2.2.2.2.2.1 h0).2.2.2.2
  have hft := (vbz_f hI ht hb).2
  have hI1 : VI lim B (vinc V (3947 + t)) := hI.vs ht hb (vown_t (c := 3947) (by omega)) (by omega) (fun e => absurd e (by omega))
  have hb1 : vbz (vinc V (3947 + t)).1 t := by unfold vbz; rw [vinc_ne (by omega)]; exact hb
  have hI2 : VI lim B (vcn (vinc V (3947 + t)) 2 1) := hI1.vs ht hb1 (Or.inl (by omega)) (by omega) (fun e => absurd e (by omega))
  have hb2 : vbz (vcn (vinc V (3947 + t)) 2 1).1 t := by unfold vbz; rw [vcn_ne (by omega)]; exact hb1
  have hll : (V.1 (3968 + t)).toInt.toNat = l := by rw [l1, nI_int (by omega)]; rfl
  obtain ⟨S1, a1, a2, a3, -⟩ := c_adds h hx hj.1 hj.vfr ht (e := (2, 3947)) (by decide) (v := 1)
  have a1 : gX9_add b (b + 17 + 2 * t) s 2 1 = some ((), S1) := a1
  have a2 : RC b lim S1 (vcn (vinc V (3947 + t)) 2 1) zs fr := a2
  unfold vst
  dsimp only
  rw [hll]
  generalize hV1 : vcn (vinc V (3947 + t)) 2 1 = V1 at *
  have hat : ∀ i, i ≠ 3947 + t → i ≠ 2056 → V1.1 i = V.1 i := fun i g1 g2 => by rw [← hV1, vcn_ne (by omega), vinc_ne g1]
  have hV12 : V1.2 = V.2 := by rw [← hV1]; rfl
  have hw1 : vpe V.1 V1.1 := fun i hi => hat i (by omega) (by omega)
  have hlf1 : vlf V1 t = vlf V t := by unfold vlf; rw [hV12]
  have h01 : 0 < V1.2.2.1 t := by rw [hV12]; exact h0
  have k68 : V1.1 (3968 + t) = nI l := (hat _ (by omega) (by omega)).trans l1
  have t9 : S1 (b + 17 + 2 * t) 9 = nI (vlf V t).1 := (a2.at ht (e := (9, 3975)) (by decide)).trans ((hat _ (by omega) (by omega)).trans d5)
  have t10 : S1 (b + 17 + 2 * t) 10 = nI l := ((a2.2.2.2.1 t ht).2.1.2 h01).1.trans k68
  have t11 := ((a2.2.2.2.1 t ht).2.1.2 h01).2
  unfold gX2_makeStep
  rw [a1, cl_some, t9, t10]
  by_cases cl : l < vli V.1 (vlf V t).1
  · have hl16 : l < 16 := by have := (hI.2.1.li hft).2; omega
    rw [if_pos cl, c_part0 a2.2.2.2.2.2 hI2.2.1 hft (by rw [(hw1.sz hft).2.2.1]; exact cl), cl_some, hw1.co0 hft hl16, wr_eq, k68, nI_1]
    have hI3 : VI lim B (vs V1 (3968 + t) (nI (l + 1))) := hI2.vs ht hb2 (vown_t (c := 3968) (by omega)) (by omega) (fun _ => ⟨l + 1, by omega, rfl⟩)
    have hb3 : vbz (vs V1 (3968 + t) (nI (l + 1))).1 t := by unfold vbz; rw [vs_ne (by omega)]; exact hb2
    have hR3 := a2.line (v := nI (l + 1)) hx hI2.J ht h01
    have hT3 : TO b t S1 (wt_u S1 (b + 17 + 2 * t) 10 (nI (l + 1))) := TO.u (Or.inr (Or.inl rfl)) ht
    have hat3 : ∀ i, i ≠ 3968 + t → i ≠ 3947 + t → i ≠ 2056 → (vs V1 (3968 + t) (nI (l + 1))).1 i = V.1 i := fun i g0 g1 g2 => (vs_ne g0).trans (hat i g1 g2)
    have hL3 : (vs V1 (3968 + t) (nI (l + 1))).1 (3968 + t) = nI (l + 1) := vs_at
    have e32 : (vs V1 (3968 + t) (nI (l + 1))).2 = V.2 := hV12
    generalize hV3 : vs V1 (3968 + t) (nI (l + 1)) = V3 at *
    generalize hS3 : wt_u S1 (b + 17 + 2 * t) 10 (nI (l + 1)) = S3 at *
    have hw3 : vpe V.1 V3.1 := fun i hi => hat3 i (by omega) (by omega) (by omega)
    have hlf : vlf V3 t = vlf V t := by unfold vlf; rw [e32]
    have hLC : LC b lim S3 V3 zs fr t l := ⟨hR3, hx, hI3.J, ht, by rw [e32]; exact h0, by rw [hlf, hat3 _ (by omega) (by omega) (by omega)]; exact d5, by rw [hlf, (hw3.sz hft).2.2.1]; exact cl⟩
    have key := c_line (Z := Z) (A := V.1 (vco (vlf V t).1 l + 1)) (Bb := V.1 (vco (vlf V t).1 l + 2)) (C := V.1 (vco (vlf V t).1 l + 3)) (K := V.1 (vco (vlf V t).1 l)) hLC hI3 hb3 hL3 (by rw [hlf, hw3.co hft hl16 (by omega)]) (by rw [hlf, hw3.co hft hl16 (by omega)]) (by rw [hlf, hw3.co hft hl16 (by omega)]) (fun k9 => by
      rw [hlf, hw3.co0 hft hl16] at k9
      rw [hat3 _ (by omega) (by omega) (by omega)]
      rcases hb with e | e
      · exact e
      · obtain ⟨l', e1, e2, e3⟩ := hW e
        have := (hI.2.1.li hft).2
        have : l' = l := (nI_inj (by omega) (by omega)).mp (e1.symm.trans l1)
        rw [this] at e3
        exact absurd e3 k9) (by rw [hlf, hw3.co0 hft hl16])
    rw [hlf] at key
    obtain ⟨s', zs', fr', f1, f2, f3⟩ := key
    exact ⟨s', zs', fr', f1, f2, (a3.trans hT3).trans f3⟩
  · have h1 : V1.1 (3926 + t) = 1 := by
      rw [hat _ (by omega) (by omega)]
      rcases hb with e | e
      · exact e
      · obtain ⟨l', e1, e2, e3⟩ := hW e
        have := (hI.2.1.li hft).2
        have : l' = l := (nI_inj (by omega) (by omega)).mp (e1.symm.trans l1)
        omega
    have hli1 : vli V1.1 (vlf V t).1 ≤ l := by rw [(hw1.sz hft).2.2.1]; omega
    rw [if_neg cl, c_part_n a2.2.2.2.2.2 hI2.2.1 hft hli1 (by omega), cl_some, wr_eq, if_neg (show ¬ ((-1 : Int32).toInt < -1 ∨ 10 < (-1 : Int32).toInt) by decide), if_pos (show (-1 : Int32).toInt = -1 by decide)]
    obtain ⟨s', zs', fr', f1, f2, f3⟩ := c_ret (Z := Z) (v := 0) ((a2.bt ht).l10 (v := nI l + 1) hx ht) (by rw [wt_u_nk (by omega)]; exact t11) hx hI2 ht hb2
    have := vrt_26 (Z := Z) (V := V1) (t := t) (v := 0) (by rw [hat _ (by omega) (by omega)]; exact hsd0)
    rw [h1] at this
    rw [f1, cl_some, c_191m (by rw [f2.at ht (e := (1, 3926)) (by decide)]; rcases this with e | e <;> rw [e] <;> decide)]
    exact ⟨s', zs', fr', rfl, f2, (a3.trans (TO.u (Or.inr (Or.inl rfl)) ht)).trans f3⟩
end
