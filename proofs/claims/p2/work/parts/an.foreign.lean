/-! ===== the class: a foreign call ===== -/
section
variable {b lim B : Nat} {s : wt_S} {V : vV} {zs : List (vP × Nat)} {fr : List Nat} {t l x c : Nat} {Bf : Int32}
theorem vs_id {i : Nat} {v : Int32} (h : V.1 i = v) : vs V i v = V := by
  unfold vs
  refine Prod.ext (funext fun y => ?_) rfl
  show mj_upd V.1 i v y = V.1 y
  by_cases e : y = i
  · subst e
    rw [mj_upd_self, h]
  · rw [mj_upd_ne e]
theorem VFR.nu {i k : Nat} {v : Int32} (h : VFR V) : VFR (vnu V t i k v) := fun k' hk' j hj => by
  unfold vnu
  by_cases e : k' = t ∧ j = i
  · obtain ⟨rfl, rfl⟩ := e
    rw [vfr_at]
    exact h k' hk' j hj
  · rw [vfr_ne e]
    exact h k' hk' j hj
theorem c_191m (h1 : s (b + 17 + 2 * t) 1 ≠ 2) : gX2_makeStep_191 b (b + 17 + 2 * t) s (-1) = some ((), s) := by
  unfold gX2_makeStep_191 gX2_makeStep_208
  rw [if_neg (by simp), if_pos rfl, c_225 h1]
theorem vfv_26 {ks : Nat} {words : Int32} (ht : t < 6) (hk : ks < 3) (hs : V.1 (3989 + t) = nI ks) : (vfv V t words).1 (3926 + t) = V.1 (3926 + t) := by
  by_cases c : 0 < (V.1 (3996 + t) - words).toInt
  · rw [vfv_a c, vs_ne (by omega), vcn_ne (by omega)]
  · rw [vfv_b c, vs_ne (by omega), vs_ne (by rw [hs, nI_int (by omega)]; show 3926 + t ≠ 3923 + ks; omega), vs_ne (by omega), vcn_ne (by omega)]
/-- a side is there -/
theorem c_fg1 {s1 : wt_S} {V1 : vV} (h : LC b lim s V zs fr t l) (hI : VI lim B V) (hb : vbz V.1 t) (hlm : lim ≤ 10000) (hll : V.1 (3968 + t) = nI (l + 1)) (h9 : V.1 (vco (vlf V t).1 l) = 9) (e1 : V.1 (vco (vlf V t).1 l + 1) = nI x) (hx1 : 1 ≤ x ∧ x ≤ 40) (e2 : V.1 (vco (vlf V t).1 l + 2) = Bf) (e3 : V.1 (vco (vlf V t).1 l + 3) = nI c) (hc1 : c < vsz V.1 (vlf V t).1) (hc2 : ¬ bt (V.1 (2238 + (vlf V t).1)) c) (hR : RC b lim s1 V1 zs fr) (hto : TO b t s s1) (hsd : vsd V t = some V1) :
    ∃ s' zs' fr', (wt_cl (gX2_callForeign_19 b (b + 17 + 2 * t) s1 (nI l)) fun v22 s21 => gX2_makeStep_191 b (b + 17 + 2 * t) s21 v22) = some ((), s') ∧ RC b lim s' (vfg lim V t (nI x) Bf (nI c)) zs' fr' ∧ TO b t s s' := by
  obtain ⟨-, hx, -, ht, -, h75, hl⟩ := h
  obtain ⟨np, z, z2, z3, k, l2, hP, h0, -, ⟨r1, -, r2⟩, ⟨hz3, -, hz33⟩, ⟨k1, k2⟩, -, -, hbg, -⟩ := hI.opn ht hb hlm
  have hP0 := hP
  obtain ⟨hj, hc, -, hz, h8, hzl, -, -, hq⟩ := hP
  obtain ⟨n1, n2, n3⟩ := hc.mn
  obtain ⟨d1, d2, d3, d4, d5⟩ := hc.2.2.2.2.2.2.1 h0
  have hi0 : V.2.2.1 t - 1 < V.2.2.1 t := by omega
  have hft : (vlf V t).1 < 10 := (d3.1 _ hi0).1
  have hl16 : l < 16 := by have := (hj.1.li hft).2; omega
  obtain ⟨zs0, zs1, zs2⟩ := hI.1.2.2.2.2.2
  obtain ⟨n, np', o1, -, -, -, -, -, -, -, -, -, -, -, -, o14, o15, o16, -⟩ := (hI.bz ht h0).2
  rw [← o1] at o14 o15 o16
  obtain ⟨hO, hsd1, e2', ⟨ks, ks1, ks2, ks3, ks4, hw⟩, hV1⟩ := vsd_ot hI ht (by rw [hz3, nI_int (by omega)]; show (z3 : Int).toNat ≤ 3; omega) hsd
  have hsc : ∀ i, i ≠ 3989 + t → (i < 3923 ∨ 3926 ≤ i) → V1.1 i = V.1 i := fun i g1 g2 => hw i g1 (by omega)
  have h96 : (vs V1 (3926 + t) 1).1 (3996 + t) + nI x = nI (vos V.1 (V.2.2.2 t) (V.2.2.1 t) + x) := by
    rw [vs_ne (by omega), hsc _ (by omega) (by omega), o14, nI_add]
  have h53 : ((vs V1 (3926 + t) 1).1 2053).toInt = zs0 := by rw [vs_ne (by omega), hsc _ (by omega) (by omega), zs1, nI_int (by omega)]
  have hO2 : OT t V (vs V1 (3926 + t) 1) := hO.trans (OT.vs ht (vown_t (c := 3926) (by omega)))
  have hj1 : VJ lim V1 := hj.ww hO.1 e2'
  have hj2 : VJ lim (vs V1 (3926 + t) 1) := VJ.vs hj1 (by omega)
  have hst1 : V1.1 (3926 + t) ≠ 0 := by
    rw [hsc _ (by omega) (by omega)]
    rcases hb with e | e <;> rw [e] <;> decide
  have hlf2 : vlf (vs V1 (3926 + t) 1) t = vlf V t := by unfold vlf; show V1.2.2.2 t (V1.2.2.1 t - 1) = _; rw [e2']
  have a1 : RC b lim (wt_u s1 (b + 17 + 2 * t) 1 1) (vs V1 (3926 + t) 1) zs fr := hR.ut hx hj1.1 hj1.vfr ht (e := (1, 3926)) (by decide) (v := 1) (fun _ _ => hst1)
  have t1 : TO b t s1 (wt_u s1 (b + 17 + 2 * t) 1 1) := TO.u (Or.inr (Or.inl rfl)) ht
  have hl2 : LC b lim (wt_u s1 (b + 17 + 2 * t) 1 1) (vs V1 (3926 + t) 1) zs fr t l := ⟨a1, hx, hj2, ht, by show 0 < V1.2.2.1 t; rw [e2']; exact h0, by rw [hlf2, vs_ne (by omega), hsc _ (by omega) (by omega)]; exact h75, by rw [hlf2, (hO2.1.sz hft).2.2.1]; exact hl⟩
  have e7 : s1 (b + 17 + 2 * t) 7 = nI ks := (hR.at ht (e := (7, 3989)) (by decide)).trans ks2
  have p1 : (vs V1 (3926 + t) 1).1 (vco (vlf V t).1 l + 1) = nI x := (hO2.1.co hft hl16 (by omega)).trans e1
  have hl2' : l < vli (vs V1 (3926 + t) 1).1 (vlf V t).1 := by rw [(hO2.1.sz hft).2.2.1]; exact hl
  have t9 := hl2.t9
  rw [hlf2] at t9
  unfold gX2_callForeign_19
  rw [e7, if_pos (nI_m1 (by omega)), wr_eq, t9, c_part1 a1.2.2.2.2.2 hj2.1 hft hl2', cl_some, p1, show (wt_u s1 (b + 17 + 2 * t) 1 1) (b + 17 + 2 * t) 8 = (vs V1 (3926 + t) 1).1 (3996 + t) from a1.at ht (e := (8, 3996)) (by decide), show (wt_u s1 (b + 17 + 2 * t) 1 1) (b + 1) 5 = (vs V1 (3926 + t) 1).1 2053 from a1.2.2.1.1 5 (by omega), h96, h53, nI_int (by omega)]
  unfold vfg
  by_cases cs : vos V.1 (V.2.2.2 t) (V.2.2.1 t) + x ≤ zs0
  · rw [if_pos (by omega), vhs_1 hsd (by rw [h96, h53, nI_int (by omega)]; omega), h96, wr_eq]
    dsimp only
    have a2 : RC b lim (wt_u (wt_u s1 (b + 17 + 2 * t) 1 1) (b + 17 + 2 * t) 8 (nI (vos V.1 (V.2.2.2 t) (V.2.2.1 t) + x))) (vs (vs V1 (3926 + t) 1) (3996 + t) (nI (vos V.1 (V.2.2.2 t) (V.2.2.1 t) + x))) zs fr := a1.ut hx hj2.1 hj2.vfr ht (e := (8, 3996)) (by decide) (fun q => absurd q (by decide))
    have t2 : TO b t s (wt_u (wt_u s1 (b + 17 + 2 * t) 1 1) (b + 17 + 2 * t) 8 (nI (vos V.1 (V.2.2.2 t) (V.2.2.1 t) + x))) := (hto.trans t1).trans (TO.u (Or.inr (Or.inl rfl)) ht)
    generalize wt_u (wt_u s1 (b + 17 + 2 * t) 1 1) (b + 17 + 2 * t) 8 (nI (vos V.1 (V.2.2.2 t) (V.2.2.1 t) + x)) = s3 at *
    generalize hV3 : vs (vs V1 (3926 + t) 1) (3996 + t) (nI (vos V.1 (V.2.2.2 t) (V.2.2.1 t) + x)) = V3 at *
    have g3 : ∀ i, i ≠ 3989 + t → i ≠ 3923 + ks → i ≠ 3926 + t → i ≠ 3996 + t → V3.1 i = V.1 i := fun i q1 q2 q3 q4 => by rw [← hV3, vs_ne q4, vs_ne q3, hw i q1 q2]
    have g96 : V3.1 (3996 + t) = nI (vos V.1 (V.2.2.2 t) (V.2.2.1 t) + x) := by rw [← hV3]; exact vs_at
    have g26 : V3.1 (3926 + t) = 1 := by rw [← hV3]; exact (vs_ne (by omega)).trans vs_at
    have g89 : V3.1 (3989 + t) = nI ks := by rw [← hV3, vs_ne (by omega), vs_ne (by omega)]; exact ks2
    have g23 : V3.1 (3923 + ks) = nI t := by rw [← hV3, vs_ne (by omega), vs_ne (by omega)]; exact ks3
    have e32 : V3.2 = V.2 := by rw [← hV3]; exact e2'
    have hw3 : vpe V.1 V3.1 := fun i hi => g3 i (by omega) (by omega) (by omega) (by omega)
    have hj3 : VJ lim V3 := hj.ww hw3 e32
    have hlf : vlf V3 t = vlf V t := by unfold vlf; rw [e32]
    have hl3 : LC b lim s3 V3 zs fr t l := ⟨a2, hx, hj3, ht, by rw [e32]; exact h0, by rw [hlf, g3 _ (by omega) (by omega) (by omega) (by omega)]; exact h75, by rw [hlf, (hw3.sz hft).2.2.1]; exact hl⟩
    have hl3' : l < vli V3.1 (vlf V t).1 := by rw [(hw3.sz hft).2.2.1]; exact hl
    have t9 := hl3.t9
    rw [hlf] at t9
    have p2 : V3.1 (vco (vlf V t).1 l + 2) = Bf := (hw3.co hft hl16 (by omega)).trans e2
    have p3 : V3.1 (vco (vlf V t).1 l + 3) = nI c := (hw3.co hft hl16 (by omega)).trans e3
    rw [t9, c_part2 a2.2.2.2.2.2 hj3.1 hft hl3', cl_some, p2, c_told a2.2.2.2.2.2, cl_some, if_rb, hlf]
    have hcn : (nI c).toInt.toNat = c := by
      have := (hj.1.sz hft).2
      rw [nI_int (by omega)]; rfl
    by_cases ct : tld V3.1 Bf
    · rw [if_pos ct, if_pos ct, cl_some]
      obtain ⟨f', hf', f10⟩ : ∃ f', Bf = nI f' ∧ f' < 10 := by
        obtain ⟨q1, q2⟩ := ct
        obtain ⟨f', y1, y2⟩ := nI_ex (v := Bf) (by omega)
        rw [y2, nI_int (by omega)] at q1
        exact ⟨f', y2, by omega⟩
      have hfn : Bf.toInt.toNat = f' := by rw [hf', nI_int (by omega)]; rfl
      have hs1 : 1 ≤ vsz V3.1 f' := by
        have := ct.2
        rw [hfn] at this
        unfold vsz
        omega
      have hcal : vcal V3.1 (vlf V t).1 l = nI f' := by
        rw [hw3.cal hft hl16]
        unfold vcal
        rw [if_neg (by rw [h9]; decide), if_pos h9, e2, hf']
      have hll3 : V3.1 (3968 + t) = nI (l + 1) := by rw [g3 _ (by omega) (by omega) (by omega) (by omega)]; exact hll
      have hP3 : Vpre lim V3 t np z := hP0.ww e32 (fun i hi _ => g3 i (by omega) (by omega) (by omega) (by omega)) (fun c hc => g3 _ (by omega) (by omega) (by omega) (by omega))
      have hE : vE V3.1 (vlf V3 t).1 f' := by
        rw [hlf]
        exact ⟨l, hl3', by rw [hcal, ← hf']; exact ct, by rw [hcal, ← hf', hfn]⟩
      have hCL : CL V3 t f' l c true := ⟨by rw [e32]; exact h0, by rw [hlf, g3 _ (by omega) (by omega) (by omega) (by omega)]; exact h75, hll3, by rw [hlf]; exact hl3', by rw [hlf, hw3.co0 hft hl16]; exact h9, by rw [hlf]; exact p3, by rw [hlf, (hw3.sz hft).1]; exact hc1, g26⟩
      obtain ⟨s', zs', fr', f1, f2, f3⟩ := c_call (k := k) (z2 := z2) (bk := 32 * (vlf V t).1 + (l + 1) + 2048) a2 hx hP3 f10 hs1 (by rw [g3 _ (by omega) (by omega) (by omega) (by omega)]; exact hI.1.2.2.1) (by rw [g3 _ (by omega) (by omega) (by omega) (by omega)]; exact r1) r2 (by rw [g3 _ (by omega) (by omega) (by omega) (by omega)]; exact k1) (Or.inr ⟨ks, ks1, g89, g23⟩) hCL hE (by rw [hlf]; rfl)
      rw [hlf] at f2
      refine ⟨s', zs', fr', by rw [hf']; exact f1, ?_, t2.trans f3⟩
      rw [hfn, hcn, hll3, nI_int (by omega)]
      exact f2
    · rw [if_neg ct, if_neg ct, t9, c_part3 a2.2.2.2.2.2 hj3.1 hft hl3', cl_some, p3, hl3.t11]
      have hc1' : c < vsz V3.1 (vlf V3 t).1 := by rw [hlf, (hw3.sz hft).1]; exact hc1
      have hc2' : ¬ bt (V3.1 (2238 + (vlf V3 t).1)) c := by rw [hlf, (hw3.sz hft).2.2.2]; exact hc2
      obtain ⟨s4, f1, f2, f3⟩ := hl3.nu (v := 3 * vnm (vlf V3 t) (nI c) + 1) hc1' hc2'
      rw [hl3.n hc1' hc2', cl_some, f1, cl_some]
      have hm : (vnu V3 t (V3.2.2.1 t - 1) c (3 * vnm (vlf V3 t) (nI c) + 1)).1 (3996 + t) - nI x = nI (vos V.1 (V.2.2.2 t) (V.2.2.1 t)) := by
        show V3.1 (3996 + t) - nI x = _
        rw [g96, nI_sub (by omega)]; congr 1; omega
      obtain ⟨s5, q1, q2, q3⟩ := c_ef (words := nI x) f2 hx hj3.1 hj3.vfr.nu ht hm (by omega) ks1 g89
      rw [q1, cl_some, cl_some]
      have h26 : s5 (b + 17 + 2 * t) 1 ≠ 2 := by
        rw [q2.at ht (e := (1, 3926)) (by decide)]
        show (vfv (vnu V3 t (V3.2.2.1 t - 1) c (3 * vnm (vlf V3 t) (nI c) + 1)) t (nI x)).1 (3926 + t) ≠ 2
        rw [vfv_26 (V := vnu V3 t (V3.2.2.1 t - 1) c (3 * vnm (vlf V3 t) (nI c) + 1)) ht ks1 g89]
        show V3.1 (3926 + t) ≠ 2
        rw [g26]
        decide
      refine ⟨s5, zs, fr, c_191m h26, ?_, (t2.trans f3).trans q3⟩
      rw [hcn, ← hlf]
      exact q2
  · rw [if_neg (by omega), vhs_2 hsd (by rw [h96, h53, nI_int (by omega)]; omega)]
    dsimp only
    have g4 : ∀ i, i ≠ 3989 + t → i ≠ 3923 + ks → i ≠ 3926 + t → (vs V1 (3926 + t) 1).1 i = V.1 i := fun i q1 q2 q3 => by rw [vs_ne q3, hw i q1 q2]
    obtain ⟨s4, zs4, fr4, o1, o2, o3⟩ := c_out (np := np) a1 hx hj2 ht (by rw [g4 _ (by omega) (by omega) (by omega)]; exact n1) n3 (by show Itp V1.2.1 t np; rw [e2']; exact hc.2.2.2.1) (by rw [vs_at]; decide) (Or.inr ⟨ks, ks1, by rw [vs_ne (by omega)]; exact ks2, by rw [vs_ne (by omega)]; exact ks3⟩)
    rw [o1, cl_some, cl_some]
    refine ⟨s4, zs4, fr4, c_191m ?_, o2, (hto.trans t1).trans o3⟩
    rw [o2.at ht (e := (1, 3926)) (by decide)]
    show (vot (vs V1 (3926 + t) 1) t).1 (3926 + t) ≠ 2
    unfold vot
    rw [vlg1_ne (by omega), vcn_ne (by omega), vs_at]
    decide
theorem c_foreign {A C : Int32} (h : LC b lim s V zs fr t l) (hI : VI lim B V) (hb : vbz V.1 t) (hlm : lim ≤ 10000) (hll : V.1 (3968 + t) = nI (l + 1)) (h9 : V.1 (vco (vlf V t).1 l) = 9) (e1 : V.1 (vco (vlf V t).1 l + 1) = A) (e2 : V.1 (vco (vlf V t).1 l + 2) = Bf) (e3 : V.1 (vco (vlf V t).1 l + 3) = C) :
    ∃ s' zs' fr', (wt_cl (gX2_callForeign b (b + 17 + 2 * t) s (nI l)) fun v22 s21 => gX2_makeStep_191 b (b + 17 + 2 * t) s21 v22) = some ((), s') ∧ RC b lim s' (vfg lim V t A Bf C) zs' fr' ∧ TO b t s s' := by
  have h' := h
  obtain ⟨hR, hx, hj, ht, h0, h75, hl⟩ := h'
  obtain ⟨np, z, z2, z3, k, l2, hP, -, -, -, ⟨hz3, -, hz33⟩, -, -, -, -, -⟩ := hI.opn ht hb hlm
  have hft := h.f.1
  have hv := (hI.2.1 _ hft).2.2 l hl
  unfold vlin vcan at hv
  obtain ⟨⟨x, xx, x1, x2⟩, -, hnu⟩ := hv.2.2.2.2.2.2.2.2.2 h9
  rw [e3] at hnu
  obtain ⟨c, rfl, c2, c3⟩ := hnu
  rw [e1] at xx
  subst xx
  have hzz : (V.1 2052).toInt.toNat = z3 := by rw [hz3, nI_int (by omega)]; rfl
  have e7 : s (b + 17 + 2 * t) 7 = V.1 (3989 + t) := hR.at ht (e := (7, 3989)) (by decide)
  unfold gX2_callForeign
  by_cases c89 : V.1 (3989 + t) = -1
  · rw [e7, c89, if_neg (by simp), c_freeSide hR hI.2.2.2.1 (fun t' ht' k hk e => hI.sdt ht' hk e) hz3 hz33, cl_some, wr_eq]
    have hvsd : vsd V t = (match vfs V.1 z3 0 with
      | none => none
      | some k => some (vs (vs V (3923 + k) (nI t)) (3989 + t) (nI k))) := by
      unfold vsd
      rw [if_pos c89, hzz]
      cases vfs V.1 z3 0 <;> rfl
    cases hv : vfs V.1 z3 0 with
    | none =>
      rw [hv] at hvsd
      have a1 : RC b lim (wt_u s (b + 17 + 2 * t) 7 (-1)) (vs V (3989 + t) (-1)) zs fr := hR.ut hx hj.1 hj.vfr ht (e := (7, 3989)) (by decide) (fun q => absurd q (by decide))
      rw [vs_id c89] at a1
      have hst1 : V.1 (3926 + t) ≠ 0 := by
        rcases hb with e | e <;> rw [e] <;> decide
      have t1 : TO b t s (wt_u s (b + 17 + 2 * t) 7 (-1)) := TO.u (Or.inr (Or.inl rfl)) ht
      show ∃ s' zs' fr', (wt_cl (gX2_callForeign_19 b (b + 17 + 2 * t) (wt_u s (b + 17 + 2 * t) 7 (-1)) (nI l)) fun v22 s21 => gX2_makeStep_191 b (b + 17 + 2 * t) s21 v22) = some ((), s') ∧ _
      unfold gX2_callForeign_19
      rw [wt_u_self, if_neg (by simp), wr_eq, wr_eq, cl_some]
      generalize wt_u s (b + 17 + 2 * t) 7 (-1) = s1 at *
      have a2 : RC b lim (wt_u s1 (b + 17 + 2 * t) 1 2) (vs V (3926 + t) 2) zs fr := a1.ut hx hj.1 hj.vfr ht (e := (1, 3926)) (by decide) (fun _ _ => hst1)
      have t2 : TO b t s1 (wt_u s1 (b + 17 + 2 * t) 1 2) := TO.u (Or.inr (Or.inl rfl)) ht
      have hj2 : VJ lim (vs V (3926 + t) 2) := VJ.vs hj (by omega)
      have a3 := a2.line (v := nI l) hx hj2 ht h0
      have t3 : TO b t (wt_u s1 (b + 17 + 2 * t) 1 2) (wt_u (wt_u s1 (b + 17 + 2 * t) 1 2) (b + 17 + 2 * t) 10 (nI l)) := TO.u (Or.inr (Or.inl rfl)) ht
      have hj3 : VJ lim (vs (vs V (3926 + t) 2) (3968 + t) (nI l)) := VJ.vs hj2 (by omega)
      obtain ⟨s', b1, b2, b3, -⟩ := c_addn (k := 10) (v := 1) a3 hx hj3.1 hj3.vfr ht (by omega)
      unfold gX2_makeStep_191 gX2_makeStep_208 gX2_makeStep_225
      rw [if_neg (by simp), if_pos rfl, if_neg (by rw [wt_u_nk (by omega), wt_u_self]; simp), show (10 : Int32) = nI 10 from rfl, b1, cl_some]
      refine ⟨s', zs, fr, rfl, ?_, ((t1.trans t2).trans t3).trans b3⟩
      unfold vfg
      rw [vhs_0 hvsd]
      dsimp only
      rw [hll, show nI (l + 1) - 1 = nI l by rw [i_sub1, nI_pred2]]
      exact b2
    | some k =>
      rw [hv] at hvsd
      have hk := vfs_lt hv
      have a1 : RC b lim (wt_u s (b + 17 + 2 * t) 7 (nI k)) (vs V (3989 + t) (nI k)) zs fr := hR.ut hx hj.1 hj.vfr ht (e := (7, 3989)) (by decide) (fun q => absurd q (by decide))
      have hj2 : VJ lim (vs V (3989 + t) (nI k)) := VJ.vs hj (by omega)
      have a2 := a1.v hx hj2.1 hj2.vfr (i := 3923 + k) (v := nI t) (by omega)
      rw [vs_cm (by omega)] at a2
      exact c_fg1 h hI hb hlm hll h9 e1 ⟨x1, x2⟩ e2 e3 c2 c3 a2 (TO.u (Or.inr (Or.inl rfl)) ht) hvsd
  · rw [e7, if_pos c89]
    exact c_fg1 h hI hb hlm hll h9 e1 ⟨x1, x2⟩ e2 e3 c2 c3 hR TO.refl (by unfold vsd; rw [if_neg c89])
end
