section
/-! ===== the class: a foreign call ===== -/
section
variable {b lim B : Nat} {s : wt_S} {V : vV} {zs : List (vP × Nat)} {fr : List Nat} {t l x c : Nat} {Bf : Int32}
theorem vs_id {i : Nat} {v : Int32} (h : V.1 i = v) : vs V i v = V := by
  unfold vs
  refine Prod.ext (funext fun y => ?_) rfl
  show mj_upd V.1 i v y = V.1 y
  by_cases e : y = i
  · subst e
    rw [mj_upd_self, h]
  · rw [mj_upd_ne e]
theorem VFR.nu {i k : Nat} {v : Int32} (h : VFR V) : VFR (vnu V t i k v) := fun k' hk' j hj => by
  unfold vnu
  by_cases e : k' = t ∧ j = i
  · obtain ⟨rfl, rfl⟩ := e
    rw [vfr_at]
    exact h k' hk' j hj
  · rw [vfr_ne e]
    exact h k' hk' j hj
theorem c_191m (h1 : s (b + 17 + 2 * t) 1 ≠ 2) : gX2_makeStep_191 b (b + 17 + 2 * t) s (-1) = some ((), s) := by
  unfold gX2_makeStep_191 gX2_makeStep_208
  rw [if_neg (by simp), if_pos rfl, c_225 h1]
theorem vfv_26 {ks : Nat} {words : Int32} (ht : t < 6) (hk : ks < 3) (hs : V.1 (3989 + t) = nI ks) : (vfv V t words).1 (3926 + t) = V.1 (3926 + t) := by
  by_cases c : 0 < (V.1 (3996 + t) - words).toInt
  · rw [vfv_a c, vs_ne (by omega), vcn_ne (by omega)]
  · rw [vfv_b c, vs_ne (by omega), vs_ne (by rw [hs, nI_int (by omega)]; show 3926 + t ≠ 3923 + ks; omega), vs_ne (by omega), vcn_ne (by omega)]
/-- a side is there -/
theorem c_fg1 {s1 : wt_S} {V1 : vV} (h : LC b lim s V zs fr t l) (hI : VI lim B V) (hb : vbz V.1 t) (hlm : lim ≤ 10000) (hll : V.1 (3968 + t) = nI (l + 1)) (h9 : V.1 (vco (vlf V t).1 l) = 9) (e1 : V.1 (vco (vlf V t).1 l + 1) = nI x) (hx1 : 1 ≤ x ∧ x ≤ 40) (e2 : V.1 (vco (vlf V t).1 l + 2) = Bf) (e3 : V.1 (vco (vlf V t).1 l + 3) = nI c) (hc1 : c < vsz V.1 (vlf V t).1) (hc2 : ¬ bt (V.1 (2238 + (vlf V t).1)) c) (hR : RC b lim s1 V1 zs fr) (hto : TO b t s s1) (hsd : vsd V t = some V1) :
    ∃ s' zs' fr', (wt_cl (gX2_callForeign_19 b (b + 17 + 2 * t) s1 (nI l)) fun v22 s21 => gX2_makeStep_191 b (b + 17 + 2 * t) s21 v22) = some ((), s') ∧ RC b lim s' (vfg lim V t (nI x) Bf (nI c)) zs' fr' ∧ TO b t s s' := by
  obtain ⟨-, hx, -, ht, -, h75, hl⟩ := h
  obtain ⟨np, z, z2, z3, k, l2, hP, h0, -, ⟨r1, -, r2⟩, ⟨hz3, -, hz33⟩, ⟨k1, k2⟩, -, -, hbg, -⟩ := hI.opn ht hb hlm
  have hP0 := hP
  obtain ⟨hj, hc, -, hz, h8, hzl, -, -, hq⟩ := hP
  obtain ⟨n1, n2, n3⟩ := hc.mn
  obtain ⟨d1, d2, d3, d4, d5⟩ := hc.2.2.2.2.2.2.1 h0
  have hi0 : V.2.2.1 t - 1 < V.2.2.1 t := by omega
  have hft : (vlf V t).1 < 10 := (d3.1 _ hi0).1
  have hl16 : l < 16 := by have := (hj.1.li hft).2; omega
  obtain ⟨zs0, zs1, zs2⟩ := hI.1.2.2.2.2.2
  obtain ⟨n, np', o1, -, -, -, -, -, -, -, -, -, -, -, -, o14, o15, o16, -⟩ := (hI.bz ht h0).2
  rw [← o1] at o14 o15 o16
  obtain ⟨hO, hsd1, e2', ⟨ks, ks1, ks2, ks3, ks4, hw⟩, hV1⟩ := vsd_ot hI ht (by rw [hz3, nI_int (by omega)]; show (z3 : Int).toNat ≤ 3; omega) hsd
  have hsc : ∀ i, i ≠ 3989 + t → (i < 3923 ∨ 3926 ≤ i) → V1.1 i = V.1 i := fun i g1 g2 => hw i g1 (by omega)
  have h96 : (vs V1 (3926 + t) 1).1 (3996 + t) + nI x = nI (vos V.1 (V.2.2.2 t) (V.2.2.1 t) + x) := by
    rw [vs_ne (by omega), hsc _ (by omega) (by omega), o14, nI_add]
  have h53 : ((vs V1 (3926 + t) 1).1 2053).toInt = zs0 := by rw [vs_ne (by omega), hsc _ (by omega) (by omega), zs1, nI_int (by omega)]
  have hO2 : OT t V (vs V1 (3926 + t) 1) := hO.trans (OT.vs ht (vown_t (c := 3926) (by omega)))
  have hj1 : VJ lim V1 := hj.ww hO.1 e2'
  have hj2 : VJ lim (vs V1 (3926 + t) 1) := VJ.vs hj1 (by omega)
  have hst1 : V1.1 (3926 + t) ≠ 0 := by
    rw [hsc _ (by omega) (by omega)]
    rcases hb with e | e <;> rw [e] <;> decide
  have hlf2 : vlf (vs V1 (3926 + t) 1) t = vlf V t := by unfold vlf; show V1.2.2.2 t (V1.2.2.1 t - 1) = _; rw [e2']
  have a1 : RC b lim (wt_u s1 (b + 17 + 2 * t) 1 1) (vs V1 (3926 + t) 1) zs fr := hR.ut hx hj1.1 hj1.vfr ht (e := (1, 3926)) (by decide) (v := 1) (fun _ _ => hst1)
  have t1 : TO b t s1 (wt_u s1 (b + 17 + 2 * t) 1 1) := TO.u (Or.inr (Or.inl rfl)) ht
  have hl2 : LC b lim (wt_u s1 (b + 17 + 2 * t) 1 1) (vs V1 (3926 + t) 1) zs fr t l := ⟨a1, hx, hj2, ht, by show 0 < V1.2.2.1 t; rw [e2']; exact h0, by rw [hlf2, vs_ne (by omega), hsc _ (by omega) (by omega)]; exact h75, by rw [hlf2, (hO2.1.sz hft).2.2.1]; exact hl⟩
  have e7 : s1 (b + 17 + 2 * t) 7 = nI ks := (hR.at ht (e := (7, 3989)) (by decide)).trans ks2
  have p1 : (vs V1 (3926 + t) 1).1 (vco (vlf V t).1 l + 1) = nI x := (hO2.1.co hft hl16 (by omega)).trans e1
  have hl2' : l < vli (vs V1 (3926 + t) 1).1 (vlf V t).1 := by rw [(hO2.1.sz hft).2.2.1]; exact hl
  have t9 := hl2.t9
  rw [hlf2] at t9
  unfold gX2_callForeign_19
  rw [e7, if_pos (nI_m1 (by omega)), wr_eq, t9, c_part1 a1.2.2.2.2.2 hj2.1 hft hl2', cl_some, p1, show (wt_u s1 (b + 17 + 2 * t) 1 1) (b + 17 + 2 * t) 8 = (vs V1 (3926 + t) 1).1 (3996 + t) from a1.at ht (e := (8, 3996)) (by decide), show (wt_u s1 (b + 17 + 2 * t) 1 1) (b + 1) 5 = (vs V1 (3926 + t) 1).1 2053 from a1.2.2.1.1 5 (by omega), h96, h53, nI_int (by omega)]
  unfold vfg
  by_cases cs : vos V.1 (V.2.2.2 t) (V.2.2.1 t) + x ≤ zs0
  · rw [if_pos (by omega), vhs_1 hsd (by rw [h96, h53, nI_int (by omega)]; omega), h96, wr_eq]
    dsimp only
    have a2 : RC b lim (wt_u (wt_u s1 (b + 17 + 2 * t) 1 1) (b + 17 + 2 * t) 8 (nI (vos V.1 (V.2.2.2 t) (V.2.2.1 t) + x))) (vs (vs V1 (3926 + t) 1) (3996 + t) (nI (vos V.1 (V.2.2.2 t) (V.2.2.1 t) + x))) zs fr := a1.ut hx hj2.1 hj2.vfr ht (e := (8, 3996)) (by decide) (fun q => absurd q (by decide))
    have t2 : TO b t s (wt_u (wt_u s1 (b + 17 + 2 * t) 1 1) (b + 17 + 2 * t) 8 (nI (vos V.1 (V.2.2.2 t) (V.2.2.1 t) + x))) := (hto.trans t1).trans (TO.u (Or.inr (Or.inl rfl)) ht)
    generalize wt_u (wt_u s1 (b + 17 + 2 * t) 1 1) (b + 17 + 2 * t) 8 (nI (vos V.1 (V.2.2.2 t) (V.2.2.1 t) + x)) = s3 at *
    generalize hV3 : vs (vs V1 (3926 + t) 1) (3996 + t) (nI (vos V.1 (V.2.2.2 t) (V.2.2.1 t) + x)) = V3 at *
    have g3 : ∀ i, i ≠ 3989 + t → i ≠ 3923 + ks → i ≠ 3926 + t → i ≠ 3996 + t → V3.1 i = V.1 i := fun i q1 q2 q3 q4 => by rw [← hV3, vs_ne q4, vs_ne q3, hw i q1 q2]
    have g96 : V3.1 (3996 + t) = nI (vos V.1 (V.2.2.2 t) (V.2.2.1 t) + x) := by rw [← hV3]; exact vs_at
    have g26 : V3.1 (3926 + t) = 1 := by rw [← hV3]; exact (vs_ne (by omega)).trans vs_at
    have g89 : V3.1 (3989 + t) = nI ks := by rw [← hV3, vs_ne (by omega), vs_ne (by omega)]; exact ks2
    have g23 : V3.1 (3923 + ks) = nI t := by rw [← hV3, vs_ne (by omega), vs_ne (by omega)]; exact ks3
    have e32 : V3.2 = V.2 := by rw [← hV3]; exact e2'
    have hw3 : vpe V.1 V3.1 := fun i hi => g3 i (by omega) (by omega) (by omega) (by omega)
    have hj3 : VJ lim V3 := hj.ww hw3 e32
    have hlf : vlf V3 t = vlf V t := by unfold vlf; rw [e32]
    have hl3 : LC b lim s3 V3 zs fr t l := ⟨a2, hx, hj3, ht, by rw [e32]; exact h0, by rw [hlf, g3 _ (by omega) (by omega) (by omega) (by omega)]; exact h75, by rw [hlf, (hw3.sz hft).2.2.1]; exact hl⟩
    have hl3' : l < vli V3.1 (vlf V t).1 := by rw [(hw3.sz hft).2.2.1]; exact hl
    have t9 := hl3.t9
    rw [hlf] at t9
    have p2 : V3.1 (vco (vlf V t).1 l + 2) = Bf := (hw3.co hft hl16 (by omega)).trans e2
    have p3 : V3.1 (vco (vlf V t).1 l + 3) = nI c := (hw3.co hft hl16 (by omega)).trans e3
    rw [t9, c_part2 a2.2.2.2.2.2 hj3.1 hft hl3', cl_some, p2, c_told a2.2.2.2.2.2, cl_some, if_rb, hlf]
    have hcn : (nI c).toInt.toNat = c := by
      have := (hj.1.sz hft).2
      rw [nI_int (by omega)]; rfl
    by_cases ct : tld V3.1 Bf
    · rw [if_pos ct, if_pos ct, cl_some]
      obtain ⟨f', hf', f10⟩ : ∃ f', Bf = nI f' ∧ f' < 10 := by
        obtain ⟨q1, q2⟩ := ct
        obtain ⟨f', y1, y2⟩ := nI_ex (v := Bf) (by omega)
        rw [y2, nI_int (by omega)] at q1
        exact ⟨f', y2, by omega⟩
      have hfn : Bf.toInt.toNat = f' := by rw [hf', nI_int (by omega)]; rfl
      have hs1 : 1 ≤ vsz V3.1 f' := by
        have := ct.2
        rw [hfn] at this
        unfold vsz
        omega
      have hcal : vcal V3.1 (vlf V t).1 l = nI f' := by
        rw [hw3.cal hft hl16]
        unfold vcal
        rw [if_neg (by rw [h9]; decide), if_pos h9, e2, hf']
      have hll3 : V3.1 (3968 + t) = nI (l + 1) := by rw [g3 _ (by omega) (by omega) (by omega) (by omega)]; exact hll
      have hP3 : Vpre lim V3 t np z := hP0.ww e32 (fun i hi _ => g3 i (by omega) (by omega) (by omega) (by omega)) (fun c hc => g3 _ (by omega) (by omega) (by omega) (by omega))
      have hE : vE V3.1 (vlf V3 t).1 f' := by
        rw [hlf]
        exact ⟨l, hl3', by rw [hcal, ← hf']; exact ct, by rw [hcal, ← hf', hfn]⟩
      have hCL : CL V3 t f' l c true := ⟨by rw [e32]; exact h0, by rw [hlf, g3 _ (by omega) (by omega) (by omega) (by omega)]; exact h75, hll3, by rw [hlf]; exact hl3', by rw [hlf, hw3.co0 hft hl16]; exact h9, by rw [hlf]; exact p3, by rw [hlf, (hw3.sz hft).1]; exact hc1, g26⟩
      obtain ⟨s', zs', fr', f1, f2, f3⟩ := c_call (k := k) (z2 := z2) (bk := 32 * (vlf V t).1 + (l + 1) + 2048) a2 hx hP3 f10 hs1 (by rw [g3 _ (by omega) (by omega) (by omega) (by omega)]; exact hI.1.2.2.1) (by rw [g3 _ (by omega) (by omega) (by omega) (by omega)]; exact r1) r2 (by rw [g3 _ (by omega) (by omega) (by omega) (by omega)]; exact k1) (Or.inr ⟨ks, ks1, g89, g23⟩) hCL hE (by rw [hlf]; rfl)
      rw [hlf] at f2
      refine ⟨s', zs', fr', by rw [hf']; exact f1, ?_, t2.trans f3⟩
      rw [hfn, hcn, hll3, nI_int (by omega)]
      exact f2
    · rw [if_neg ct, if_neg ct, t9, c_part3 a2.2.2.2.2.2 hj3.1 hft hl3', cl_some, p3, hl3.t11]
      have hc1' : c < vsz V3.1 (vlf V3 t).1 := by rw [hlf, (hw3.sz hft).1]; exact hc1
      have hc2' : ¬ bt (V3.1 (2238 + (vlf V3 t).1)) c := by rw [hlf, (hw3.sz hft).2.2.2]; exact hc2
      obtain ⟨s4, f1, f2, f3⟩ := hl3.nu (v := 3 * vnm (vlf V3 t) (nI c) + 1) hc1' hc2'
      rw [hl3.n hc1' hc2', cl_some, f1, cl_some]
      have hm : (vnu V3 t (V3.2.2.1 t - 1) c (3 * vnm (vlf V3 t) (nI c) + 1)).1 (3996 + t) - nI x = nI (vos V.1 (V.2.2.2 t) (V.2.2.1 t)) := by
        show V3.1 (3996 + t) - nI x = _
        rw [g96, nI_sub (by omega)]; congr 1; omega
      obtain ⟨s5, q1, q2, q3⟩ := c_ef (words := nI x) f2 hx hj3.1 hj3.vfr.nu ht hm (by omega) ks1 g89
      rw [q1, cl_some, cl_some]
      have h26 : s5 (b + 17 + 2 * t) 1 ≠ 2 := by
        rw [q2.at ht (e := (1, 3926)) (by decide)]
        show (vfv (vnu V3 t (V3.2.2.1 t - 1) c (3 * vnm (vlf V3 t) (nI c) + 1)) t (nI x)).1 (3926 + t) ≠ 2
        rw [vfv_26 (V := vnu V3 t (V3.2.2.1 t - 1) c (3 * vnm (vlf V3 t) (nI c) + 1)) ht ks1 g89]
        show V3.1 (3926 + t) ≠ 2
        rw [g26]
        decide
      refine ⟨s5, zs, fr, c_191m h26, ?_, (t2.trans f3).trans q3⟩
      rw [hcn, ← hlf]
      exact q2
  · rw [if_neg (by omega), vhs_2 hsd (by rw [h96, h53, nI_int (by omega)]; omega)]
    dsimp only
    have g4 : ∀ i, i ≠ 3989 + t → i ≠ 3923 + ks → i ≠ 3926 + t → (vs V1 (3926 + t) 1).1 i = V.1 i := fun i q1 q2 q3 => by rw [vs_ne q3, hw i q1 q2]
    obtain ⟨s4, zs4, fr4, o1, o2, o3⟩ := c_out (np := np) a1 hx hj2 ht (by rw [g4 _ (by omega) (by omega) (by omega)]; exact n1) n3 (by show Itp V1.2.1 t np; rw [e2']; exact hc.2.2.2.1) (by rw [vs_at]; decide) (Or.inr ⟨ks, ks1, by rw [vs_ne (by omega)]; exact ks2, by rw [vs_ne (by omega)]; exact ks3⟩)
    rw [o1, cl_some, cl_some]
    refine ⟨s4, zs4, fr4, c_191m ?_, o2, (hto.trans t1).trans o3⟩
    rw [o2.at ht (e := (1, 3926)) (by decide)]
    show (vot (vs V1 (3926 + t) 1) t).1 (3926 + t) ≠ 2
    unfold vot
    rw [vlg1_ne (by omega), vcn_ne (by omega), vs_at]
    decide
theorem c_foreign {A C : Int32} (h : LC b lim s V zs fr t l) (hI : VI lim B V) (hb : vbz V.1 t) (hlm : lim ≤ 10000) (hll : V.1 (3968 + t) = nI (l + 1)) (h9 : V.1 (vco (vlf V t).1 l) = 9) (e1 : V.1 (vco (vlf V t).1 l + 1) = A) (e2 : V.1 (vco (vlf V t).1 l + 2) = Bf) (e3 : V.1 (vco (vlf V t).1 l + 3) = C) :
    ∃ s' zs' fr', (wt_cl (gX2_callForeign b (b + 17 + 2 * t) s (nI l)) fun v22 s21 => gX2_makeStep_191 b (b + 17 + 2 * t) s21 v22) = some ((), s') ∧ RC b lim s' (vfg lim V t A Bf C) zs' fr' ∧ TO b t s s' := by
  have h' := h
  obtain ⟨hR, hx, hj, ht, h0, h75, hl⟩ := h'
  obtain ⟨np, z, z2, z3, k, l2, hP, -, -, -, ⟨hz3, -, hz33⟩, -, -, -, -, -⟩ := hI.opn ht hb hlm
  have hft := h.f.1
  have hv := (hI.2.1 _ hft).2.2 l hl
  unfold vlin vcan at hv
  obtain ⟨⟨x, xx, x1, x2⟩, -, hnu⟩ := hv.2.2.2.2.2.2.2.2.2 h9
  rw [e3] at hnu
  obtain ⟨c, rfl, c2, c3⟩ := hnu
  rw [e1] at xx
  subst xx
  have hzz : (V.1 2052).toInt.toNat = z3 := by rw [hz3, nI_int (by omega)]; rfl
  have e7 : s (b + 17 + 2 * t) 7 = V.1 (3989 + t) := hR.at ht (e := (7, 3989)) (by decide)
  unfold gX2_callForeign
  by_cases c89 : V.1 (3989 + t) = -1
  · rw [e7, c89, if_neg (by simp), c_freeSide hR hI.2.2.2.1 (fun t' ht' k hk e => hI.sdt ht' hk e) hz3 hz33, cl_some, wr_eq]
    have hvsd : vsd V t = (match vfs V.1 z3 0 with
      | none => none
      | some k => some (vs (vs V (3923 + k) (nI t)) (3989 + t) (nI k))) := by
      unfold vsd
      rw [if_pos c89, hzz]
      cases vfs V.1 z3 0 <;> rfl
    cases hv : vfs V.1 z3 0 with
    | none =>
      rw [hv] at hvsd
      have a1 : RC b lim (wt_u s (b + 17 + 2 * t) 7 (-1)) (vs V (3989 + t) (-1)) zs fr := hR.ut hx hj.1 hj.vfr ht (e := (7, 3989)) (by decide) (fun q => absurd q (by decide))
      rw [vs_id c89] at a1
      have hst1 : V.1 (3926 + t) ≠ 0 := by
        rcases hb with e | e <;> rw [e] <;> decide
      have t1 : TO b t s (wt_u s (b + 17 + 2 * t) 7 (-1)) := TO.u (Or.inr (Or.inl rfl)) ht
      show ∃ s' zs' fr', (wt_cl (gX2_callForeign_19 b (b + 17 + 2 * t) (wt_u s (b + 17 + 2 * t) 7 (-1)) (nI l)) fun v22 s21 => gX2_makeStep_191 b (b + 17 + 2 * t) s21 v22) = some ((), s') ∧ _
      unfold gX2_callForeign_19
      rw [wt_u_self, if_neg (by simp), wr_eq, wr_eq, cl_some]
      generalize wt_u s (b + 17 + 2 * t) 7 (-1) = s1 at *
      have a2 : RC b lim (wt_u s1 (b + 17 + 2 * t) 1 2) (vs V (3926 + t) 2) zs fr := a1.ut hx hj.1 hj.vfr ht (e := (1, 3926)) (by decide) (fun _ _ => hst1)
      have t2 : TO b t s1 (wt_u s1 (b + 17 + 2 * t) 1 2) := TO.u (Or.inr (Or.inl rfl)) ht
      have hj2 : VJ lim (vs V (3926 + t) 2) := VJ.vs hj (by omega)
      have a3 := a2.line (v := nI l) hx hj2 ht h0
      have t3 : TO b t (wt_u s1 (b + 17 + 2 * t) 1 2) (wt_u (wt_u s1 (b + 17 + 2 * t) 1 2) (b + 17 + 2 * t) 10 (nI l)) := TO.u (Or.inr (Or.inl rfl)) ht
      have hj3 : VJ lim (vs (vs V (3926 + t) 2) (3968 + t) (nI l)) := VJ.vs hj2 (by omega)
      obtain ⟨s', b1, b2, b3, -⟩ := c_addn (k := 10) (v := 1) a3 hx hj3.1 hj3.vfr ht (by omega)
      unfold gX2_makeStep_191 gX2_makeStep_208 gX2_makeStep_225
      rw [if_neg (by simp), if_pos rfl, if_neg (by rw [wt_u_nk (by omega), wt_u_self]; simp), show (10 : Int32) = nI 10 from rfl, b1, cl_some]
      refine ⟨s', zs, fr, rfl, ?_, ((t1.trans t2).trans t3).trans b3⟩
      unfold vfg
      rw [vhs_0 hvsd]
      dsimp only
      rw [hll, show nI (l + 1) - 1 = nI l by rw [i_sub1, nI_pred2]]
      exact b2
    | some k =>
      rw [hv] at hvsd
      have hk := vfs_lt hv
      have a1 : RC b lim (wt_u s (b + 17 + 2 * t) 7 (nI k)) (vs V (3989 + t) (nI k)) zs fr := hR.ut hx hj.1 hj.vfr ht (e := (7, 3989)) (by decide) (fun q => absurd q (by decide))
      have hj2 : VJ lim (vs V (3989 + t) (nI k)) := VJ.vs hj (by omega)
      have a2 := a1.v hx hj2.1 hj2.vfr (i := 3923 + k) (v := nI t) (by omega)
      rw [vs_cm (by omega)] at a2
      exact c_fg1 h hI hb hlm hll h9 e1 ⟨x1, x2⟩ e2 e3 c2 c3 a2 (TO.u (Or.inr (Or.inl rfl)) ht) hvsd
  · rw [e7, if_pos c89]
    exact c_fg1 h hI hb hlm hll h9 e1 ⟨x1, x2⟩ e2 e3 c2 c3 hR TO.refl (by unfold vsd; rw [if_neg c89])
end
end
section
/-! ===== the class: quiet ===== -/
section
variable {b lim : Nat} {s : wt_S} {V : vV} {zs : List (vP × Nat)} {fr : List Nat} {t np z z2 : Nat}
theorem c_kept (h : RC b lim s V zs fr) (hx : CX b lim) (hj : VJ lim V) (hc : Ico V t np) (ht : t < 6) (hr : V.1 2051 = nI z2) (hz : z2 ≤ 80) : gX4_keptWords b (b + 17 + 2 * t) s = some (nI (vkp V t), s) ∧ vkp V t ≤ 11000 := by
  obtain ⟨hn, hul⟩ := hc.n hj hx.2.2
  have hxm := hx.m
  have hus := hc.2.2.2.2.2.1
  have hvu : vuse V t = vus V.1 (V.2.2.2 t) (V.2.2.1 t) := vuse_of hus (by omega)
  have e5 : s (b + 17 + 2 * t) 5 = nI (vuse V t) := by rw [h.at ht (e := (5, 3961)) (by decide), hvu]; exact hus
  have e3 : s (b + 1) 3 = nI z2 := (h.2.2.1.1 3 (by omega)).trans hr
  have hz2 : (V.1 2051).toInt.toNat = z2 := by rw [hr, nI_int (by omega)]; rfl
  unfold gX4_keptWords gX4_keptWords_28 vkp
  rw [c_lastCovered h hx hj hc ht, cl_some, if_rb, e5, e3, hz2]
  by_cases c : vlc V t = true
  · rw [if_pos c, if_pos c, nI_add]
    exact ⟨rfl, by omega⟩
  · rw [if_neg c, if_neg c, show nI (vuse V t) + 0 = nI (vuse V t + 0) from nI_add _ 0]
    exact ⟨rfl, by omega⟩
theorem c_quiet (h : RC b lim s V zs fr) (hx : CX b lim) (hP : Vpre lim V t np z) (hr : V.1 2051 = nI z2) (hz2 : z2 ≤ 80) : ∃ s' zs' fr', gX4_makeSmaller b (b + 17 + 2 * t) s = some (rb ((vqu lim V t).1 = true), s') ∧ RC b lim s' (vqu lim V t).2 zs' fr' ∧ TO b t s s' := by
  obtain ⟨hj, hc, ht, hz, h8, hzl, hl, hl2, hq⟩ := hP
  obtain ⟨n1, n2, n3⟩ := hc.mn
  obtain ⟨hn, hul⟩ := hc.n hj hx.2.2
  have hz' : (V.1 2048).toInt.toNat = z := by rw [hz, nI_int (by omega)]; rfl
  have e2 : s (b + 17 + 2 * t) 2 = V.1 (3933 + t) := h.at ht (e := (2, 3933)) (by decide)
  unfold gX4_makeSmaller
  rw [e2]
  rcases hc.2.2.2.2.1 with ⟨m0, m1, m2⟩ | m0
  · subst m1
    obtain ⟨x, y, -, y2, y3, y4, y5, y6, -, -⟩ := zfind (t := t) (n := 0) h.1 hj.2.2.1 (hc.2.2.2.1.1 0 (by omega))
    have hch := h.ch ht (np := 1) n1
    have e12 := hch.1.2 y y2 y3 (by omega)
    obtain ⟨i1, -, i3, -⟩ := h.2.1.mem y2
    have hqo := hj.2.1.2 y.1 (h.mem y2)
    obtain ⟨k1, k2⟩ := c_kept h hx hj hc ht hr hz2
    have e0 : s (b + 1) 0 = nI z := (h.2.2.1.1 0 (by omega)).trans hz
    rw [m0, if_pos (by decide), e12, c_wordsOf i1, cl_some, k1, cl_some, i3, li_mul, nI_int (by omega), nI_int (by omega), nI_half2 (by omega), e0, nI_int (by omega), nI_int (by omega)]
    by_cases c1 : vln V.2.1 t 0 < 4 * vkp V t
    · rw [vqu_0 m0 (Or.inl c1), if_pos (by rw [y6] at c1; omega), rb_neg (by simp)]
      exact ⟨s, zs, fr, rfl, h, TO.refl⟩
    · rw [y6] at c1
      rw [if_neg (by omega)]
      by_cases c2 : y.1.2.1 / 2 < z
      · rw [vqu_0 m0 (Or.inr (Or.inl (by rw [y6, hz']; exact c2))), if_neg (by omega), rb_neg (by simp)]
        exact ⟨s, zs, fr, rfl, h, TO.refl⟩
      · rw [if_pos (by omega)]
        have hu : vus V.1 (V.2.2.2 t) (V.2.2.1 t) ≤ y.1.2.1 / 2 := by
          have := vuse_of hc.2.2.2.2.2.1 (by omega)
          unfold vkp at c1
          omega
        cases e : vgap lim 0 V.2.1 (y.1.2.1 / 2) with
        | none =>
          rw [vqu_0 m0 (Or.inr (Or.inr (by rw [y6]; exact e))), c_move_n h hx hj ht ⟨by omega, by omega⟩ e, cl_some, rb_neg (by simp)]
          exact ⟨s, zs, fr, rfl, h, TO.refl⟩
        | some g =>
          have hlen : zs.length < 256 := by
            have := Vlen hj.2.1 hq h8 hl2 (show z ≤ y.1.2.1 / 2 by omega) e
            rw [← h.1, List.length_map] at this
            exact this
          obtain ⟨s', zs', fr', a1, a2, a3⟩ := c_move h hx hj hc ht m0 (lg := 1) (e := (7, 4031)) (Or.inr ⟨rfl, rfl⟩) ⟨by omega, by omega⟩ hu hlen e
          rw [vqu_1 m0 (by rw [y6]; exact c1) (by rw [y6, hz']; exact c2) (by rw [y6]; exact e), y6, a1, cl_some, rb_pos rfl]
          exact ⟨s', zs', fr', rfl, a2, a3⟩
  · rw [m0, if_neg (by simp), vqu_l m0]
    obtain ⟨s1, zs1, fr1, a1, a2, a3, -⟩ := c_spare h hx hj ht (hc.nof (by omega))
    rw [a1, cl_some, rz_rb]
    exact ⟨s1, zs1, fr1, rfl, a2, a3.to ht⟩
end
end
section
/-! ===== the class: between two states (a frame has gone, LINE and AT aren't set yet) ===== -/
section
variable {b lim : Nat} {s s' : wt_S} {V V' : vV} {zs zs' : List (vP × Nat)} {fr fr' : List Nat} {t np k : Nat}
def RBtk (b : Nat) (s : wt_S) (V : vV) (zs : List (vP × Nat)) (k : Nat) : Prop := Ks b s V.1 k ∧ True ∧ Ka b s V zs k ∧ Kr b s V zs k ∧ Kg b s V.1 k ∧ Kz b s V zs k
def RBt (b lim : Nat) (s : wt_S) (V : vV) (zs : List (vP × Nat)) (fr : List Nat) (t : Nat) : Prop := zs.map Prod.fst = V.2.1 ∧ PC b lim s zs fr ∧ CG b s V.1 ∧ ((∀ k, k < 6 → k ≠ t → RCk b s V zs k) ∧ RBtk b s V zs t) ∧ VM (s (b + 15)) V ∧ RP 5 s V.1
theorem RC.op1 (h : RC b lim s V zs fr) (hx : CX b lim) (hp : Ipr V.1) (ho : OT t V V') (ht : t < 6) (hto : TO b t s s') (hfr : ∀ k, k < 6 → ∀ i, i < V.2.2.1 k → (V.2.2.2 k i).1 < 10) (hz : ∀ z : vP × Nat, z.1.2.2.1 ≠ t → (z ∈ zs' ↔ z ∈ zs)) (hu : ∀ z ∈ zs, z.1.2.2.1 ≠ t → s' (b + 5) z.2 = s (b + 5) z.2 ∧ s' (b + 6) z.2 = s (b + 6) z.2) (h1 : zs'.map Prod.fst = V'.2.1) (h2 : PC b lim s' zs' fr') (h3 : CG b s' V'.1) (h4 : RBtk b s' V' zs' t) (h5 : VM (s' (b + 15)) V') : RBt b lim s' V' zs' fr' t := by
  have hb := hx.b
  exact ⟨h1, h2, h3, ⟨fun k hk e => (h.2.2.2.1 k hk).ot ho hk e (hfr k hk) (hto.1 k hk e) hz (fun z hz1 hz2 => hu z hz1 (by omega)), h4⟩, h5, h.2.2.2.2.2.eq hp ho.1 (fun c c1 c2 => hto.2 c (by omega))⟩
theorem RBt.op (h : RBt b lim s V zs fr t) (hx : CX b lim) (hp : Ipr V.1) (ho : OT t V V') (ht : t < 6) (hto : TO b t s s') (hfr : ∀ k, k < 6 → ∀ i, i < V.2.2.1 k → (V.2.2.2 k i).1 < 10) (hz : ∀ z : vP × Nat, z.1.2.2.1 ≠ t → (z ∈ zs' ↔ z ∈ zs)) (hu : ∀ z ∈ zs, z.1.2.2.1 ≠ t → s' (b + 5) z.2 = s (b + 5) z.2 ∧ s' (b + 6) z.2 = s (b + 6) z.2) (h1 : zs'.map Prod.fst = V'.2.1) (h2 : PC b lim s' zs' fr') (h3 : CG b s' V'.1) (h4 : RBtk b s' V' zs' t) (h5 : VM (s' (b + 15)) V') : RBt b lim s' V' zs' fr' t := by
  have hb := hx.b
  exact ⟨h1, h2, h3, ⟨fun k hk e => (h.2.2.2.1.1 k hk e).ot ho hk e (hfr k hk) (hto.1 k hk e) hz (fun z hz1 hz2 => hu z hz1 (by omega)), h4⟩, h5, h.2.2.2.2.2.eq hp ho.1 (fun c c1 c2 => hto.2 c (by omega))⟩
/-- without the spare, between -/
theorem c_spareL (h : RBt b lim s V zs fr t) (hx : CX b lim) (hj : VJ lim V) (ht : t < 6) (hn : vnof V t 1000) : ∃ s' zs' fr', gX4_dropSpare b (b + 17 + 2 * t) s = some (rb ((V.2.1.find? (vkey t 1000)).isSome = true), s') ∧ RBt b lim s' (vsp V t) zs' fr' t ∧ XF b t s s' ∧ s' (b + 17 + 2 * t) = mj_upd (s (b + 17 + 2 * t)) 13 (-1) ∧ (∀ z ∈ zs', z ∈ zs) := by
  have hb := hx.b
  have hT : (s (b + 17 + 2 * t)) 13 = -1 → mj_upd (s (b + 17 + 2 * t)) 13 (-1) = s (b + 17 + 2 * t) := fun e => by
    funext j
    by_cases c : j = 13
    · subst c; rw [mj_upd_self, e]
    · rw [mj_upd_ne c]
  obtain ⟨r1, r2⟩ := h.2.2.2.1.2.2.2.2.1
  unfold gX4_dropSpare
  cases e : V.2.1.find? (vkey t 1000) with
  | none =>
    have hno : ∀ q ∈ V.2.1, ¬ (q.2.2.1 = t ∧ q.2.2.2 = 1000) := fun q hq hk => by
      have := List.find?_eq_none.mp e q hq
      simp [vkey, hk] at this
    have e13 := r2 hno
    refine ⟨s, zs, fr, ?_, ?_, XF.refl, (hT e13).symm, fun z hz => hz⟩
    · rw [if_neg (fun c => c e13), rb_neg (by simp)]
    · unfold vsp
      rw [e]
      exact h
  | some q =>
    have hq1 := List.mem_of_find?_eq_some e
    have hq2 := List.find?_some e
    have hq2 : q.2.2.1 = t ∧ q.2.2.2 = 1000 := by simpa [vkey] using hq2
    obtain ⟨x, z, z1, z2, z3, z4, -, -, z5, z6⟩ := zfind h.1 hj.2.2.1 ⟨q, hq1, hq2⟩
    have e13 := r1 z z2 z3 z4
    have hid := (h.2.1.mem z2).1
    obtain ⟨s2, w1, w2⟩ := c_writeLog (b := b) (s := wt_u s (b + 17 + 2 * t) 13 (-1)) (i1 := 5) hid
    have hP2 : PC b lim s2 zs fr := h.2.1.eq (fun c hc => by rw [w2 c (by omega) (by omega), wt_u_ne (by omega)])
    obtain ⟨s3, g1, g2, g3, g4, g5, g6⟩ := c_give hP2 (by rw [h.1]; exact hj.2.1) hx.2.2 z1
    have hX : XF b t s s3 := (XF.u.trans (XF.lf w2)).trans (XF.pf g6)
    have hT3 : s3 (b + 17 + 2 * t) = mj_upd (s (b + 17 + 2 * t)) 13 (-1) := by
      rw [g6 _ (by omega), w2 _ (by omega) (by omega), wt_u_at]
    have h5 : s3 (b + 5) = s (b + 5) := by rw [g3, w2 _ (by omega) (by omega), wt_u_ne (by omega)]
    have h6 : s3 (b + 6) = s (b + 6) := by rw [g4, w2 _ (by omega) (by omega), wt_u_ne (by omega)]
    have hv : vsp V t = vps (vlg1 V) (V.2.1.filter (fun q => !vkey t 1000 q)) := by
      unfold vsp
      rw [e]
      rfl
    refine ⟨s3, zs.eraseIdx x, z.2 :: fr, ?_, ?_, hX, hT3, fun y hy => ((z6 y).mp hy).1⟩
    · rw [e13, if_pos (nI_m1 (by omega)), wr_eq, w1, cl_some, g1, cl_some, rb_pos (by simp)]
    · obtain ⟨⟨a0, a1, a2⟩, -, ⟨p1, p2⟩, -, g, zz⟩ := h.2.2.2.1.2
      have hw : ∀ i, i ≠ 2067 → (vsp V t).1 i = V.1 i := fun i hi => vsp_w hi
      have h22 : (vsp V t).2.2 = V.2.2 := vsp_22
      have hot : OT t V (vsp V t) := OT.sp ht
      have tj : ∀ j, j ≠ 13 → s3 (b + 17 + 2 * t) j = s (b + 17 + 2 * t) j := fun j hj => by rw [hT3, mj_upd_ne hj]
      refine h.op hx hj.1 hot ht (hX.to ht) hj.vfr (fun y hy => ?_) (fun y _ _ => by rw [h5, h6]; exact ⟨rfl, rfl⟩) ?_ g2 ⟨fun j hj => ?_, fun j hj => ?_⟩ ⟨⟨?_, fun e' he' => ?_, fun e' he' => ?_⟩, trivial, ⟨?_, fun y hy => ?_⟩, ⟨fun y hy h1 h2 => ?_, fun _ => ?_⟩, ?_, fun y hy hyt => ?_⟩ ?_
      · rw [z6]
        exact ⟨fun q => q.1, fun q => ⟨q, fun c => hy c.1⟩⟩
      · rw [z5, hv]; rfl
      · rw [hX _ (by omega) (by omega) (by omega) (by omega), hw _ (by omega)]; exact h.2.2.1.1 j hj
      · rw [hX _ (by omega) (by omega) (by omega) (by omega), hw _ (by omega)]; exact h.2.2.1.2 j hj
      · rw [tj _ (by omega)]; exact a0
      · have := tf_p e' he'
        have := tf_n e' he'
        rw [tj _ (by omega), hw _ (by omega)]; exact a1 e' he'
      · have := ts_p e' he'
        rw [hX _ (by omega) (by omega) (by omega) (by omega), hw _ (by omega)]; exact a2 e' he'
      · rw [tj _ (by omega), hw _ (by omega)]; exact p1
      · rw [tj _ (by omega), hw _ (by omega)]
        exact p2 y ((z6 y).mp hy).1
      · exact absurd ⟨h1, h2⟩ ((z6 y).mp hy).2
      · rw [hT3, mj_upd_self]
      · unfold Kg
        rw [tj _ (by omega), hw _ (by omega), hw _ (by omega)]; exact g
      · rw [h5, h6, h22]
        obtain ⟨q1, q2, q3⟩ := zz y ((z6 y).mp hy).1 hyt
        rw [vud_pe hot.1 (hj.vfr t ht)]
        exact ⟨q1, q2, fun y' hy' => q3 y' ((z6 y').mp hy').1⟩
      · rw [hX _ (by omega) (by omega) (by omega) (by omega)]
        rw [hv]
        exact VM_vs (Or.inl (by omega)) (VM.sp hj h.2.2.2.2.1 (vnof_P hn))
end
end
section
/-! ===== the class: a piece is left ===== -/
section
variable {b lim : Nat} {s s' : wt_S} {V V' : vV} {zs zs' : List (vP × Nat)} {fr fr' : List Nat} {t np k : Nat}
/-- the piece below is the last one -/
theorem RBt.t12 (h : RBt b lim s V zs fr t) (hx : CX b lim) (hj : VJ lim V) (ht : t < 6) (hnp : V.1 (4066 + t) = nI np) (hn : 2 ≤ np ∧ np ≤ 256) (hit : Itp V.2.1 t np) {w : vP × Nat} (hw : w ∈ zs) (w1 : w.1.2.2.1 = t) (w2 : w.1.2.2.2 = np - 2) : RBt b lim (wt_u s (b + 17 + 2 * t) 12 (nI w.2)) (vs V (4066 + t) (V.1 (4066 + t) - 1)) zs fr t := by
  have hb := hx.b
  obtain ⟨⟨a0, a1, a2⟩, -, ⟨p1, p2⟩, ⟨r1, r2⟩, g, zz⟩ := h.2.2.2.1.2
  have hg : ∀ c, c ≠ b + 17 + 2 * t → wt_u s (b + 17 + 2 * t) 12 (nI w.2) c = s c := fun c hc => wt_u_ne hc
  have hT : ∀ j, j ≠ 12 → wt_u s (b + 17 + 2 * t) 12 (nI w.2) (b + 17 + 2 * t) j = s (b + 17 + 2 * t) j := fun j hj => wt_u_nk hj
  have e5 := hg (b + 5) (by omega)
  have e6 := hg (b + 6) (by omega)
  have hn1 : V.1 (4066 + t) - 1 = nI (np - 1) := by rw [hnp]; exact nI_sub (b := 1) (by omega)
  have hv : ∀ i, i ≠ 4066 + t → (vs V (4066 + t) (V.1 (4066 + t) - 1)).1 i = V.1 i := fun i hi => vs_ne hi
  have hm : ∀ z ∈ zs, z.1 ∈ V.2.1 := fun z hz => by rw [← h.1]; exact List.mem_map.mpr ⟨z, hz, rfl⟩
  refine h.op hx hj.1 (OT.vs ht (vown_t (c := 4066) (by omega))) ht (TO.u (by omega) ht) hj.vfr (fun z _ => Iff.rfl) (fun z _ _ => ⟨by rw [e5], by rw [e6]⟩) h.1 (h.2.1.eq (fun c hc => hg c (by omega))) (h.2.2.1.keep (hg _ (by omega)) (hg _ (by omega)) (fun i _ _ => hv i (by omega))) ⟨⟨?_, fun e he => ?_, fun e he => ?_⟩, trivial, ⟨fun e => ?_, fun z hz e q => ?_⟩, ⟨fun z hz e q => ?_, fun e => ?_⟩, fun e => ?_, fun z hz e => ?_⟩ ?_
  · rw [hT _ (by omega)]; exact a0
  · have q := tf_n e he
    have q2 := tf_p e he
    rw [hT _ (by omega), hv _ (by omega)]; exact a1 e he
  · have q := ts_n e he
    have q2 := ts_p e he
    rw [hg _ (by omega), hv _ (by omega)]; exact a2 e he
  · rw [vs_at, hn1] at e
    exact absurd ((nI_inj (by omega) (by omega)).mp (e.trans (show (0 : Int32) = nI 0 from rfl))) (by omega)
  · rw [vs_at, hn1] at q
    have hz2 := hit.2 z.1 (hm z hz) e
    have hz3 : z.1.2.2.2 + 1 = np - 1 := (nI_inj (by omega) (by omega)).mp q
    rw [wt_u_self, zuniq h.1 hj.2.2.1 hz hw (e.trans w1.symm) (by omega)]
  · rw [hT _ (by omega)]; exact r1 z hz e q
  · rw [hT _ (by omega)]; exact r2 e
  · rw [hT _ (by omega), hv _ (by omega)]; exact g (by rw [← hv (3926 + t) (by omega)]; exact e)
  · rw [e5, e6]
    have := zz z hz e
    refine ⟨?_, this.2⟩
    show s (b + 5) z.2 = nI (vud (vs V (4066 + t) (V.1 (4066 + t) - 1)).1 (V.2.2.2 t) z.1.2.2.2 (V.2.2.1 t))
    rw [vud_pe (w := V.1) (fun i hi => hv i (by omega)) (fun i hi => (hj.fit ht hi).1)]
    exact this.1
  · rw [hg _ (by omega)]
    exact VM_vs (by omega) h.2.2.2.2.1
end
end
section
/-! ===== the class: a piece is given back, a piece becomes the spare ===== -/
section
variable {b lim : Nat} {s s' : wt_S} {V V' : vV} {zs zs' : List (vP × Nat)} {fr fr' : List Nat} {t np k n : Nat}
theorem c_giveL (h : RBt b lim s V zs fr t) (hx : CX b lim) (hj : VJ lim V) (ht : t < 6) {y : vP × Nat} (hy : y ∈ zs) (y1 : y.1.2.2.1 = t) (y2 : y.1.2.2.2 = n) (hn1 : n ≠ 1000) (hof : vnof V t n) : ∃ s' zs' fr', (wt_cl (gX9_writeLog b s 5 (nI y.2)) fun _ s4 => (wt_cl (gX5_giveBack b s4 (nI y.2)) fun _ s5 => some ((), s5))) = some ((), s') ∧ RBt b lim s' (vps (vlg1 V) (V.2.1.filter (fun q => !vkey t n q))) zs' fr' t ∧ XF b t s s' ∧ s' (b + 17 + 2 * t) = s (b + 17 + 2 * t) := by
  have hb := hx.b
  have hm : ∀ z ∈ zs, z.1 ∈ V.2.1 := fun z hz => by rw [← h.1]; exact List.mem_map.mpr ⟨z, hz, rfl⟩
  obtain ⟨x, z, z1, z2, z3, z4, -, -, z5, z6⟩ := zfind h.1 hj.2.2.1 ⟨y.1, hm y hy, y1, y2⟩
  have hzy : z = y := zuniq h.1 hj.2.2.1 z2 hy (z3.trans y1.symm) (z4.trans y2.symm)
  subst hzy
  have hid := (h.2.1.mem z2).1
  obtain ⟨s2, w1, w2⟩ := c_writeLog (b := b) (s := s) (i1 := 5) hid
  have hP2 : PC b lim s2 zs fr := h.2.1.eq (fun c hc => by rw [w2 c (by omega) (by omega)])
  obtain ⟨s3, g1, g2, g3, g4, g5, g6⟩ := c_give hP2 (by rw [h.1]; exact hj.2.1) hx.2.2 z1
  have hX : XF b t s s3 := (XF.lf w2).trans (XF.pf g6)
  have hT3 : s3 (b + 17 + 2 * t) = s (b + 17 + 2 * t) := by rw [g6 _ (by omega), w2 _ (by omega) (by omega)]
  have h5 : s3 (b + 5) = s (b + 5) := by rw [g3, w2 _ (by omega) (by omega)]
  have h6 : s3 (b + 6) = s (b + 6) := by rw [g4, w2 _ (by omega) (by omega)]
  refine ⟨s3, zs.eraseIdx x, z.2 :: fr, by rw [w1, cl_some, g1, cl_some], ?_, hX, hT3⟩
  obtain ⟨⟨a0, a1, a2⟩, -, ⟨p1, p2⟩, ⟨r1, r2⟩, g, zz⟩ := h.2.2.2.1.2
  have hw : ∀ i, i ≠ 2067 → (vps (vlg1 V) (V.2.1.filter (fun q => !vkey t n q))).1 i = V.1 i := fun i hi => vlg1_ne hi
  have hot : OT t V (vps (vlg1 V) (V.2.1.filter (fun q => !vkey t n q))) := (OT.lg ht).trans (OT.flt (V := vlg1 V))
  refine h.op hx hj.1 hot ht (hX.to ht) hj.vfr (fun y hy => ?_) (fun y _ _ => by rw [h5, h6]; exact ⟨rfl, rfl⟩) z5 g2 ⟨fun j hj => ?_, fun j hj => ?_⟩ ⟨⟨?_, fun e' he' => ?_, fun e' he' => ?_⟩, trivial, ⟨?_, fun y hy => ?_⟩, ⟨fun y hy => ?_, fun hq => ?_⟩, ?_, fun y hy hyt => ?_⟩ ?_
  · rw [z6]
    exact ⟨fun q => q.1, fun q => ⟨q, fun c => hy c.1⟩⟩
  · rw [hX _ (by omega) (by omega) (by omega) (by omega), hw _ (by omega)]; exact h.2.2.1.1 j hj
  · rw [hX _ (by omega) (by omega) (by omega) (by omega), hw _ (by omega)]; exact h.2.2.1.2 j hj
  · rw [hT3]; exact a0
  · have := tf_p e' he'
    rw [hT3, hw _ (by omega)]; exact a1 e' he'
  · have := ts_p e' he'
    rw [hX _ (by omega) (by omega) (by omega) (by omega), hw _ (by omega)]; exact a2 e' he'
  · rw [hT3, hw _ (by omega)]; exact p1
  · rw [hT3, hw _ (by omega)]; exact p2 y ((z6 y).mp hy).1
  · rw [hT3]; exact r1 y ((z6 y).mp hy).1
  · rw [hT3]
    refine r2 (fun q hq1 hq2 => hq q (List.mem_filter.mpr ⟨hq1, ?_⟩) hq2)
    simp only [vkey, Bool.not_eq_true', decide_eq_false_iff_not]
    intro hc
    exact hn1 (hc.2.symm.trans hq2.2)
  · unfold Kg
    rw [hT3, hw _ (by omega), hw _ (by omega)]; exact g
  · rw [h5, h6]
    obtain ⟨q1, q2, q3⟩ := zz y ((z6 y).mp hy).1 hyt
    refine ⟨?_, q2, fun y' hy' => q3 y' ((z6 y').mp hy').1⟩
    show s (b + 5) y.2 = nI (vud (vlg1 V).1 (V.2.2.2 t) y.1.2.2.2 (V.2.2.1 t))
    rw [vud_pe (w := V.1) (w' := (vlg1 V).1) hot.1 (hj.vfr t ht)]
    exact q1
  · rw [hX _ (by omega) (by omega) (by omega) (by omega)]
    exact VM_vs (Or.inl (by omega)) (VM.sp hj h.2.2.2.2.1 (vnof_P hof))
end
end
section
/-! ===== the class: a piece becomes the spare ===== -/
section
variable {b lim : Nat} {s s' : wt_S} {V V' : vV} {zs zs' : List (vP × Nat)} {fr fr' : List Nat} {t np k n : Nat}
/-- a piece gets another number -/
def zre (t n n' : Nat) (z : vP × Nat) : vP × Nat := (if vkey t n z.1 then (z.1.1, z.1.2.1, z.1.2.2.1, n') else z.1, z.2)
theorem zre_y {n' : Nat} {z : vP × Nat} (h1 : z.1.2.2.1 = t) (h2 : z.1.2.2.2 = n) : (zre t n n' z).1 = (z.1.1, z.1.2.1, z.1.2.2.1, n') := if_pos (by simp [vkey, h1, h2])
theorem zre_n {n' : Nat} {z : vP × Nat} (h : ¬ (z.1.2.2.1 = t ∧ z.1.2.2.2 = n)) : zre t n n' z = z := by
  unfold zre
  rw [if_neg (by simpa [vkey] using h)]
theorem zre_1 {n' : Nat} {z : vP × Nat} : (zre t n n' z).2 = z.2 ∧ (zre t n n' z).1.1 = z.1.1 ∧ (zre t n n' z).1.2.1 = z.1.2.1 ∧ (zre t n n' z).1.2.2.1 = z.1.2.2.1 := by
  unfold zre
  by_cases c : vkey t n z.1 = true
  · rw [if_pos c]; exact ⟨rfl, rfl, rfl, rfl⟩
  · rw [if_neg c]; exact ⟨rfl, rfl, rfl, rfl⟩
theorem c_renL (h : RBt b lim s V zs fr t) (hx : CX b lim) (hj : VJ lim V) (ht : t < 6) {y : vP × Nat} (hy : y ∈ zs) (y1 : y.1.2.2.1 = t) (y2 : y.1.2.2.2 = n) (hn1 : n < 999) (hnl : ∀ z ∈ zs, z.1.2.2.1 = t → z.1.2.2.2 ≤ n) (hof : vnof V t n) (hof2 : vnof V t 1000) (h66 : V.1 (4066 + t) = nI n) (hn0 : 1 ≤ n) : ∃ s', (wt_wr s (b + 17 + 2 * t) 13 (nI y.2) fun s8 => (wt_cl (gX9_writeLog b s8 3 (nI y.2)) fun _ s9 => some ((), s9))) = some ((), s') ∧ RBt b lim s' (vlg1 (vps V (vren t n 1000 V.2.1))) (zs.map (zre t n 1000)) fr t ∧ XF b t s s' ∧ ∀ j, j ≠ 13 → s' (b + 17 + 2 * t) j = s (b + 17 + 2 * t) j := by
  have hb := hx.b
  have hid := (h.2.1.mem hy).1
  obtain ⟨s2, w1, w2⟩ := c_writeLog (b := b) (s := wt_u s (b + 17 + 2 * t) 13 (nI y.2)) (i1 := 3) hid
  have hX : XF b t s s2 := XF.u.trans (XF.lf w2)
  have hT3 : s2 (b + 17 + 2 * t) = mj_upd (s (b + 17 + 2 * t)) 13 (nI y.2) := by rw [w2 _ (by omega) (by omega), wt_u_at]
  have tj : ∀ j, j ≠ 13 → s2 (b + 17 + 2 * t) j = s (b + 17 + 2 * t) j := fun j hj => by rw [hT3, mj_upd_ne hj]
  have hc : ∀ c, c ≠ b + 11 → c ≠ b + 12 → c ≠ b + 17 + 2 * t → s2 c = s c := fun c c1 c2 c3 => by rw [w2 c c1 c2, wt_u_ne c3]
  have h5 : s2 (b + 5) = s (b + 5) := hc _ (by omega) (by omega) (by omega)
  have h6 : s2 (b + 6) = s (b + 6) := hc _ (by omega) (by omega) (by omega)
  refine ⟨s2, by rw [wr_eq, w1, cl_some], ?_, hX, tj⟩
  obtain ⟨⟨a0, a1, a2⟩, -, ⟨p1, p2⟩, ⟨r1, r2⟩, g, zz⟩ := h.2.2.2.1.2
  have hw : ∀ i, i ≠ 2067 → (vlg1 (vps V (vren t n 1000 V.2.1))).1 i = V.1 i := fun i hi => vlg1_ne hi
  have hot : OT t V (vlg1 (vps V (vren t n 1000 V.2.1))) := OT.ren.trans (OT.lg ht)
  have hud : ∀ m, vud (vlg1 (vps V (vren t n 1000 V.2.1))).1 (V.2.2.2 t) m (V.2.2.1 t) = vud V.1 (V.2.2.2 t) m (V.2.2.1 t) := fun m => vud_pe (w := V.1) hot.1 (hj.vfr t ht)
  have key : ∀ z' ∈ zs.map (zre t n 1000), ∃ z ∈ zs, z'.2 = z.2 ∧ z'.1.2.2.1 = z.1.2.2.1 ∧ ((z.1.2.2.1 = t ∧ z = y ∧ z'.1.2.2.2 = 1000) ∨ (¬ (z.1.2.2.1 = t ∧ z.1.2.2.2 = n) ∧ z' = z)) := fun z' hz' => by
    obtain ⟨z, hz, rfl⟩ := List.mem_map.mp hz'
    refine ⟨z, hz, zre_1.1, zre_1.2.2.2, ?_⟩
    by_cases c : z.1.2.2.1 = t ∧ z.1.2.2.2 = n
    · refine Or.inl ⟨c.1, zuniq h.1 hj.2.2.1 hz hy (c.1.trans y1.symm) (c.2.trans y2.symm), ?_⟩
      rw [zre_y c.1 c.2]
    · exact Or.inr ⟨c, zre_n c⟩
  refine h.op hx hj.1 hot ht (hX.to ht) hj.vfr (fun z hz => ?_) (fun z _ _ => by rw [h5, h6]; exact ⟨rfl, rfl⟩) ?_ ((h.2.1.eq (fun c hc' => hc c (by omega) (by omega) (by omega))).map (fun z _ => zre_1)) ⟨fun j hj => ?_, fun j hj => ?_⟩ ⟨⟨?_, fun e' he' => ?_, fun e' he' => ?_⟩, trivial, ⟨?_, fun z' hz' e' q' => ?_⟩, ⟨fun z' hz' e' q' => ?_, fun hq => ?_⟩, ?_, fun z' hz' e' => ?_⟩ ?_
  · constructor
    · intro hz'
      obtain ⟨z0, c1, c2, c3, c4 | c4⟩ := key z hz'
      · exact absurd (c3.trans c4.1) hz
      · rw [c4.2]; exact c1
    · intro hz'
      exact List.mem_map.mpr ⟨z, hz', zre_n (fun c => hz c.1)⟩
  · show _ = vren t n 1000 V.2.1
    rw [← h.1]
    unfold vren
    rw [List.map_map, List.map_map]
    rfl
  · rw [hc _ (by omega) (by omega) (by omega), hw _ (by omega)]; exact h.2.2.1.1 j hj
  · rw [hc _ (by omega) (by omega) (by omega), hw _ (by omega)]; exact h.2.2.1.2 j hj
  · rw [tj _ (by omega)]; exact a0
  · have := tf_p e' he'
    have := tf_n e' he'
    rw [tj _ (by omega), hw _ (by omega)]; exact a1 e' he'
  · have := ts_p e' he'
    rw [hc _ (by omega) (by omega) (by omega), hw _ (by omega)]; exact a2 e' he'
  · rw [tj _ (by omega), hw _ (by omega)]; exact p1
  · rw [hw _ (by omega)] at q'
    rw [tj _ (by omega)]
    obtain ⟨z0, c1, c2, c3, c4 | c4⟩ := key z' hz'
    · rw [c4.2.2, h66] at q'
      exact absurd ((nI_inj (by omega) (by omega)).mp q') (by omega)
    · rw [c4.2] at e' q' ⊢
      exact p2 z0 c1 e' q'
  · obtain ⟨z0, c1, c2, c3, c4 | c4⟩ := key z' hz'
    · rw [hT3, mj_upd_self, c2, c4.2.1]
    · rw [c4.2] at e' q'
      have := hnl z0 c1 e'
      omega
  · have hin : (zre t n 1000 y).1 ∈ vren t n 1000 V.2.1 := by
      have : (zs.map (zre t n 1000)).map Prod.fst = vren t n 1000 V.2.1 := by
        rw [← h.1]
        unfold vren
        rw [List.map_map, List.map_map]
        rfl
      rw [← this]
      exact List.mem_map.mpr ⟨_, List.mem_map.mpr ⟨y, hy, rfl⟩, rfl⟩
    exact absurd ⟨zre_1.2.2.2.trans y1, by rw [zre_y y1 y2]⟩ (hq _ hin)
  · unfold Kg
    rw [tj _ (by omega), hw _ (by omega), hw _ (by omega)]; exact g
  · rw [h5, h6]
    show s (b + 5) z'.2 = nI (vud (vlg1 (vps V (vren t n 1000 V.2.1))).1 (V.2.2.2 t) z'.1.2.2.2 (V.2.2.1 t)) ∧ _
    rw [hud]
    obtain ⟨z0, c1, c2, c3, c4 | c4⟩ := key z' hz'
    · obtain ⟨q1, q2, q3⟩ := zz z0 c1 c4.1
      rw [c2, c4.2.2]
      refine ⟨?_, fun q => by omega, fun u hu u1 u2 => ?_⟩
      · rw [q1, c4.2.1, y2, vud_0 hof, vud_0 hof2]
      · obtain ⟨u0, d1, d2, d3, d4 | d4⟩ := key u hu
        · rw [d4.2.2] at u2; omega
        · have := hnl u0 d1 (d3.symm.trans u1)
          rw [d4.2] at u2
          omega
    · have e0 := e'
      rw [c4.2] at e' ⊢
      obtain ⟨q1, q2, q3⟩ := zz z0 c1 e'
      refine ⟨q1, q2, fun u hu u1 u2 => ?_⟩
      obtain ⟨u0, d1, d2, d3, d4 | d4⟩ := key u hu
      · have := hnl z0 c1 e'
        rw [d4.2.2] at u2; omega
      · rw [d4.2] at u1 u2 ⊢
        exact q3 u0 d1 u1 u2
  · rw [hc _ (by omega) (by omega) (by omega)]
    exact VM_vs (Or.inl (by omega)) (VM.ren hj h.2.2.2.2.1 hof hof2)
end
end
section
/-! ===== the class: leaving a piece ===== -/
section
variable {b lim : Nat} {s s' : wt_S} {V V' : vV} {zs zs' : List (vP × Nat)} {fr fr' : List Nat} {t np k n : Nat}
theorem c_leaveP (h : RBt b lim s V zs fr t) (hx : CX b lim) (hj : VJ lim V) (ht : t < 6) (hnp : V.1 (4066 + t) = nI np) (hn : 2 ≤ np ∧ np ≤ 256) (hit : Itp V.2.1 t np) (hof : vnof V t (np - 1)) (hof2 : vnof V t 1000) (hhot : V.1 2049 = 0 ∨ V.1 2049 = 1) {F : vF} (hF : F.2.1 = np - 1) (hF0 : F.2.2.1 = 0) : ∃ s' zs' fr', gX4_leavePiece b (b + 17 + 2 * t) s = some ((), s') ∧ RBt b lim s' (vlv V t F) zs' fr' t ∧ XF b t s s' ∧ ∀ j, j ≠ 12 → j ≠ 13 → s' (b + 17 + 2 * t) j = s (b + 17 + 2 * t) j := by
  have hb := hx.b
  obtain ⟨-, y, -, y2, y3, y4, -⟩ := zfind (t := t) (n := np - 1) h.1 hj.2.2.1 (hit.1 (np - 1) (by omega))
  obtain ⟨-, w, -, w2, w3, w4, -⟩ := zfind (t := t) (n := np - 2) h.1 hj.2.2.1 (hit.1 (np - 2) (by omega))
  obtain ⟨-, -, ⟨p1, p2⟩, -, -, zz⟩ := h.2.2.2.1.2
  have e12 : s (b + 17 + 2 * t) 12 = nI y.2 := p2 y y2 y3 (by rw [hnp, y4]; congr 1; omega)
  have hbel : s (b + 6) y.2 = nI w.2 := (zz y y2 y3).2.2 w w2 w3 (by omega)
  have hid := (h.2.1.mem y2).1
  have hA := h.t12 hx hj ht hnp hn hit w2 w3 w4
  have hj3 : VJ lim (vs V (4066 + t) (V.1 (4066 + t) - 1)) := VJ.vs hj (by omega)
  have hX1 : XF b t s (wt_u s (b + 17 + 2 * t) 12 (nI w.2)) := XF.u
  have hT1 : ∀ j, j ≠ 12 → wt_u s (b + 17 + 2 * t) 12 (nI w.2) (b + 17 + 2 * t) j = s (b + 17 + 2 * t) j := fun j hj => wt_u_nk hj
  have e49 : wt_u s (b + 17 + 2 * t) 12 (nI w.2) (b + 1) 1 = V.1 2049 := (hA.2.2.1.1 1 (by omega)).trans (vs_ne (by omega))
  have hFc : ¬ (F.2.2.1 ≠ 0 ∨ F.2.1 = 0) := by omega
  unfold gX4_leavePiece
  rw [e12, c_belowOf hid, cl_some, hbel, wr_eq, e49]
  rcases hhot with h0 | h1
  · rw [h0, if_pos (by decide), vlv_1 hFc h0, hF]
    obtain ⟨s', zs', fr', a1, a2, a3, a4⟩ := c_giveL (n := np - 1) hA hx hj3 ht y2 y3 y4 (by omega) hof
    exact ⟨s', zs', fr', a1, a2, hX1.trans a3, fun j j1 j2 => by rw [a4]; exact hT1 j j1⟩
  · rw [h1, if_neg (by simp), vlv_2 hFc (by rw [h1]; decide), hF]
    obtain ⟨s6, zs6, fr6, a1, a2, a3, a4, a5⟩ := c_spareL hA hx hj3 ht hof2
    have hj6 : VJ lim (vsp (vs V (4066 + t) (V.1 (4066 + t) - 1)) t) := by
      unfold vsp
      split
      · refine VJ.flt (V := vlg1 (vs V (4066 + t) (V.1 (4066 + t) - 1))) (VJ.vs hj3 (by omega)) (fun np2 g0 a1 a2 => Or.inl ?_)
        apply Classical.byContradiction
        intro hgt
        have a1 : Itp V.2.1 t np2 := a1
        obtain ⟨q, q1, q2, q3⟩ := a1.1 999 (by omega)
        rcases hit.2 q q1 q2 with g | g <;> omega
      · exact hj3
    have hps : (vsp (vs V (4066 + t) (V.1 (4066 + t) - 1)) t).2.1 = V.2.1.filter (fun q => !vkey t 1000 q) := vsp_ps
    have hy6 : y ∈ zs6 := by
      have hin : y.1 ∈ (vsp (vs V (4066 + t) (V.1 (4066 + t) - 1)) t).2.1 := by
        rw [hps]
        refine List.mem_filter.mpr ⟨by rw [← h.1]; exact List.mem_map.mpr ⟨y, y2, rfl⟩, ?_⟩
        simp only [vkey, Bool.not_eq_true', decide_eq_false_iff_not]
        omega
      rw [← a2.1] at hin
      obtain ⟨y', q1, q2⟩ := List.mem_map.mp hin
      have := zuniq h.1 hj.2.2.1 (a5 y' q1) y2 (by rw [q2]) (by rw [q2])
      rw [← this]
      exact q1
    have hle : ∀ z ∈ zs6, z.1.2.2.1 = t → z.1.2.2.2 ≤ np - 1 := fun z hz e => by
      have hin : z.1 ∈ V.2.1.filter (fun q => !vkey t 1000 q) := by
        rw [← hps, ← a2.1]
        exact List.mem_map.mpr ⟨z, hz, rfl⟩
      obtain ⟨q1, q2⟩ := List.mem_filter.mp hin
      simp only [vkey, Bool.not_eq_true', decide_eq_false_iff_not] at q2
      have := hit.2 z.1 q1 e
      omega
    have h22 : (vsp (vs V (4066 + t) (V.1 (4066 + t) - 1)) t).2.2 = V.2.2 := vsp_22
    obtain ⟨s', c1, c2, c3, c4⟩ := c_renL (n := np - 1) a2 hx hj6 ht hy6 y3 y4 (by omega) hle (by unfold vnof; rw [h22]; exact hof) (by unfold vnof; rw [h22]; exact hof2) (by rw [vsp_w (by omega), vs_at, hnp]; exact nI_sub (b := 1) (by omega)) (by omega)
    rw [a1, cl_some]
    refine ⟨s', _, fr6, c1, c2, (hX1.trans a3).trans c3, fun j j1 j2 => ?_⟩
    rw [c4 j j2, a4, mj_upd_ne j2]
    exact hT1 j j1
end
end
section
/-! ===== the class: the last frame goes ===== -/
section
variable {b lim : Nat} {s s' : wt_S} {V V' : vV} {zs zs' : List (vP × Nat)} {fr fr' : List Nat} {t np k n m : Nat}
/-- the picture without the last frame -/
def vgn (V : vV) (t : Nat) : vV := vnf (vs (vs V (3961 + t) (V.1 (3961 + t) - (V.1 (2228 + (vlf V t).1) + 2))) (3954 + t) (V.1 (3954 + t) - 1)) t (V.2.2.1 t - 1)
theorem c_gone (h : RC b lim s V zs fr) (hx : CX b lim) (hj : VJ lim V) (ht : t < 6) (h0 : 0 < V.2.2.1 t) {y : vP × Nat} (hy : y ∈ zs) (y1 : y.1.2.2.1 = t) (y2 : y.1.2.2.2 = (vlf V t).2.1) : RBt b lim (wt_u (wt_u (wt_u s (b + 5) y.2 (s (b + 5) y.2 + -(nI (vwd V.1 (vlf V t).1)))) (b + 17 + 2 * t) 5 (s (b + 17 + 2 * t) 5 - nI (vwd V.1 (vlf V t).1))) (b + 17 + 2 * t) 4 (s (b + 17 + 2 * t) 4 - 1)) (vgn V t) zs fr t := by
  have hb := hx.b
  obtain ⟨m, hm⟩ : ∃ m, V.2.2.1 t = m + 1 := ⟨V.2.2.1 t - 1, by omega⟩
  have hlf : vlf V t = V.2.2.2 t m := by unfold vlf; rw [hm, Nat.add_sub_cancel]
  have hft : (vlf V t).1 < 10 := by rw [hlf]; exact hj.vfr t ht m (by omega)
  have hwd := hj.1.wd hft
  obtain ⟨⟨a0, a1, a2⟩, -, ⟨p1, p2⟩, ⟨r1, r2⟩, g, zz⟩ := h.2.2.2.1 t ht
  have e4 : s (b + 17 + 2 * t) 4 = V.1 (3954 + t) := a1 (4, 3954) (by decide)
  have e5 : s (b + 17 + 2 * t) 5 = V.1 (3961 + t) := a1 (5, 3961) (by decide)
  have hv : ∀ i, i ≠ 3961 + t → i ≠ 3954 + t → (vgn V t).1 i = V.1 i := fun i i1 i2 => (vs_ne i2).trans (vs_ne i1)
  have hv4 : (vgn V t).1 (3954 + t) = V.1 (3954 + t) - 1 := vs_at
  have hv5 : (vgn V t).1 (3961 + t) = V.1 (3961 + t) - nI (vwd V.1 (vlf V t).1) := by rw [← hwd.1]; exact (vs_ne (by omega)).trans vs_at
  have hw : vpe V.1 (vgn V t).1 := fun i hi => hv i (by omega) (by omega)
  have hn1 : (vgn V t).2.2.1 t = m := by show mj_upd V.2.2.1 t (V.2.2.1 t - 1) t = m; rw [mj_upd_self, hm, Nat.add_sub_cancel]
  generalize hS : wt_u (wt_u (wt_u s (b + 5) y.2 (s (b + 5) y.2 + -(nI (vwd V.1 (vlf V t).1)))) (b + 17 + 2 * t) 5 (s (b + 17 + 2 * t) 5 - nI (vwd V.1 (vlf V t).1))) (b + 17 + 2 * t) 4 (s (b + 17 + 2 * t) 4 - 1) = S
  have hc : ∀ c, c ≠ b + 5 → c ≠ b + 17 + 2 * t → S c = s c := fun c c1 c2 => by rw [← hS, wt_u_ne c2, wt_u_ne c2, wt_u_ne c1]
  have tj : ∀ j, j ≠ 4 → j ≠ 5 → S (b + 17 + 2 * t) j = s (b + 17 + 2 * t) j := fun j j4 j5 => by rw [← hS, wt_u_nk j4, wt_u_nk j5, wt_u_ne (by omega)]
  have t4 : S (b + 17 + 2 * t) 4 = V.1 (3954 + t) - 1 := by rw [← hS, wt_u_self, e4]
  have t5 : S (b + 17 + 2 * t) 5 = V.1 (3961 + t) - nI (vwd V.1 (vlf V t).1) := by rw [← hS, wt_u_nk (by omega), wt_u_self, e5]
  have c5 : ∀ x, x ≠ y.2 → S (b + 5) x = s (b + 5) x := fun x hx => by rw [← hS, wt_u_ne (by omega), wt_u_ne (by omega), wt_u_nk hx]
  have c5y : S (b + 5) y.2 = s (b + 5) y.2 + -(nI (vwd V.1 (vlf V t).1)) := by rw [← hS, wt_u_ne (by omega), wt_u_ne (by omega), wt_u_self]
  have h6 : S (b + 6) = s (b + 6) := hc _ (by omega) (by omega)
  have hto : TO b t s S := by rw [← hS]; exact ((TO.u (by omega) ht).trans (TO.u (by omega) ht)).trans (TO.u (by omega) ht)
  have hot : OT t V (vgn V t) := ((OT.vs ht (vown_t (c := 3961) (by omega))).trans (OT.vs ht (vown_t (c := 3954) (by omega)))).trans OT.nf
  refine h.op1 hx hj.1 hot ht hto hj.vfr (fun z _ => Iff.rfl) (fun z hz hzt => ⟨c5 _ (fun e => hzt (by rw [h.2.1.inj hz hy e]; exact y1)), by rw [h6]⟩) h.1 (h.2.1.eq (fun c hc' => hc c (by omega) (by omega))) (h.2.2.1.keep (hc _ (by omega) (by omega)) (hc _ (by omega) (by omega)) (fun i _ _ => hv i (by omega) (by omega))) ⟨⟨?_, fun e he => ?_, fun e he => ?_⟩, trivial, ⟨?_, fun z hz e q => ?_⟩, ⟨fun z hz e q => ?_, fun e => ?_⟩, ?_, fun z hz e => ?_⟩ ?_
  · rw [tj _ (by omega) (by omega)]; exact a0
  · have hk := a1 e he
    simp only [tf, List.mem_cons, List.not_mem_nil, or_false] at he
    rcases he with rfl | rfl | rfl | rfl | rfl | rfl | rfl | rfl | rfl | rfl
    · rw [tj _ (by omega) (by omega), hv _ (by omega) (by omega)]; exact hk
    · rw [tj _ (by omega) (by omega), hv _ (by omega) (by omega)]; exact hk
    · rw [tj _ (by omega) (by omega), hv _ (by omega) (by omega)]; exact hk
    · exact t4.trans hv4.symm
    · exact t5.trans hv5.symm
    · rw [tj _ (by omega) (by omega), hv _ (by omega) (by omega)]; exact hk
    · rw [tj _ (by omega) (by omega), hv _ (by omega) (by omega)]; exact hk
    · rw [tj _ (by omega) (by omega), hv _ (by omega) (by omega)]; exact hk
    · rw [tj _ (by omega) (by omega), hv _ (by omega) (by omega)]; exact hk
    · rw [tj _ (by omega) (by omega), hv _ (by omega) (by omega)]; exact hk
  · have hk := a2 e he
    simp only [ts, List.mem_cons, List.not_mem_nil, or_false] at he
    rcases he with rfl | rfl | rfl | rfl | rfl | rfl | rfl <;> (rw [hc _ (by omega) (by omega), hv _ (by omega) (by omega)]; exact hk)
  · rw [tj _ (by omega) (by omega), hv _ (by omega) (by omega)]; exact p1
  · rw [tj _ (by omega) (by omega)]; rw [hv _ (by omega) (by omega)] at q; exact p2 z hz e q
  · rw [tj _ (by omega) (by omega)]; exact r1 z hz e q
  · rw [tj _ (by omega) (by omega)]; exact r2 e
  · unfold Kg
    rw [tj _ (by omega) (by omega), hv _ (by omega) (by omega), hv _ (by omega) (by omega)]; exact g
  · obtain ⟨q1, q2, q3⟩ := zz z hz e
    rw [h6, hn1]
    refine ⟨?_, q2, q3⟩
    show S (b + 5) z.2 = nI (vud (vgn V t).1 (V.2.2.2 t) z.1.2.2.2 m)
    rw [vud_pe (w := V.1) hw (fun i hi => hj.vfr t ht i (by omega))]
    rw [hm] at q1
    have q1 : s (b + 5) z.2 = nI (vud V.1 (V.2.2.2 t) z.1.2.2.2 m + if (V.2.2.2 t m).2.1 = z.1.2.2.2 then vwd V.1 (V.2.2.2 t m).1 else 0) := q1
    by_cases c : z.2 = y.2
    · have hzy := h.2.1.inj hz hy c
      subst hzy
      rw [c5y, q1, if_pos (by rw [← hlf]; exact y2.symm), hlf, ← Int32.sub_eq_add_neg, nI_sub (by omega), Nat.add_sub_cancel]
    · rw [c5 _ c, q1, if_neg (fun q => c (by rw [zuniq h.1 hj.2.2.1 hz hy (e.trans y1.symm) (q.symm.trans (by rw [y2, hlf]))])), Nat.add_zero]
  · rw [hc _ (by omega) (by omega)]
    refine VM.ps hj h.2.2.2.2.1 (fun i i1 i2 => hv i (by omega) (by omega)) (fun t' ht' => ⟨?_, fun i hi => ⟨rfl, rfl⟩⟩)
    by_cases c : t' = t
    · subst c; rw [hn1]; omega
    · show mj_upd V.2.2.1 t (V.2.2.1 t - 1) t' ≤ _
      rw [mj_upd_ne c]
      exact Nat.le_refl _
end
end
section
/-! ===== the class: the frame below goes on ===== -/
section
variable {b lim : Nat} {s s' : wt_S} {V V' : vV} {zs zs' : List (vP × Nat)} {fr fr' : List Nat} {t np k n m : Nat}
theorem RBt.rc (h : RBt b lim s V zs fr t) (hx : CX b lim) (hj : VJ lim V) (ht : t < 6) (h0 : 0 < V.2.2.1 t) {f l x : Int32} : RC b lim (wt_u (wt_u (wt_u s (b + 17 + 2 * t) 11 (nI (vpl V t (V.2.2.1 t - 1)))) (b + 17 + 2 * t) 9 f) (b + 17 + 2 * t) 10 l) (vs (vs (vs V (3982 + t) x) (3975 + t) f) (3968 + t) l) zs fr ∧ TO b t s (wt_u (wt_u (wt_u s (b + 17 + 2 * t) 11 (nI (vpl V t (V.2.2.1 t - 1)))) (b + 17 + 2 * t) 9 f) (b + 17 + 2 * t) 10 l) := by
  have hb := hx.b
  obtain ⟨⟨a0, a1, a2⟩, -, ⟨p1, p2⟩, ⟨r1, r2⟩, g, zz⟩ := h.2.2.2.1.2
  have hv : ∀ i, i ≠ 3982 + t → i ≠ 3975 + t → i ≠ 3968 + t → (vs (vs (vs V (3982 + t) x) (3975 + t) f) (3968 + t) l).1 i = V.1 i := fun i i1 i2 i3 => (vs_ne i3).trans ((vs_ne i2).trans (vs_ne i1))
  have hv9 : (vs (vs (vs V (3982 + t) x) (3975 + t) f) (3968 + t) l).1 (3975 + t) = f := (vs_ne (by omega)).trans vs_at
  have hv10 : (vs (vs (vs V (3982 + t) x) (3975 + t) f) (3968 + t) l).1 (3968 + t) = l := vs_at
  have hot : OT t V (vs (vs (vs V (3982 + t) x) (3975 + t) f) (3968 + t) l) := ((OT.vs ht (vown_t (c := 3982) (by omega))).trans (OT.vs ht (vown_t (c := 3975) (by omega)))).trans (OT.vs ht (vown_t (c := 3968) (by omega)))
  have h2 : (vs (vs (vs V (3982 + t) x) (3975 + t) f) (3968 + t) l).2 = V.2 := rfl
  have hvm : VM (s (b + 15)) (vs (vs (vs V (3982 + t) x) (3975 + t) f) (3968 + t) l) := VM_vs (by omega) (VM_vs (by omega) (VM_vs (by omega) h.2.2.2.2.1))
  generalize vs (vs (vs V (3982 + t) x) (3975 + t) f) (3968 + t) l = V' at *
  have hto : TO b t s (wt_u (wt_u (wt_u s (b + 17 + 2 * t) 11 (nI (vpl V t (V.2.2.1 t - 1)))) (b + 17 + 2 * t) 9 f) (b + 17 + 2 * t) 10 l) := ((TO.u (by omega) ht).trans (TO.u (by omega) ht)).trans (TO.u (by omega) ht)
  generalize hS : wt_u (wt_u (wt_u s (b + 17 + 2 * t) 11 (nI (vpl V t (V.2.2.1 t - 1)))) (b + 17 + 2 * t) 9 f) (b + 17 + 2 * t) 10 l = S at *
  have hc : ∀ c, c ≠ b + 17 + 2 * t → S c = s c := fun c c2 => by rw [← hS, wt_u_ne c2, wt_u_ne c2, wt_u_ne c2]
  have tj : ∀ j, j ≠ 9 → j ≠ 10 → j ≠ 11 → S (b + 17 + 2 * t) j = s (b + 17 + 2 * t) j := fun j j4 j5 j6 => by rw [← hS, wt_u_nk j5, wt_u_nk j4, wt_u_nk j6]
  have t9 : S (b + 17 + 2 * t) 9 = f := by rw [← hS, wt_u_nk (by omega), wt_u_self]
  have t10 : S (b + 17 + 2 * t) 10 = l := by rw [← hS, wt_u_self]
  have t11 : S (b + 17 + 2 * t) 11 = nI (vpl V t (V.2.2.1 t - 1)) := by rw [← hS, wt_u_nk (by omega), wt_u_nk (by omega), wt_u_self]
  have h5 := hc (b + 5) (by omega)
  have h6 := hc (b + 6) (by omega)
  have hpl : ∀ i, vpl V' t i = vpl V t i := fun i => by unfold vpl; rw [h2]
  refine ⟨⟨by rw [h2]; exact h.1, h.2.1.eq (fun c hc' => hc c (by omega)), h.2.2.1.keep (hc _ (by omega)) (hc _ (by omega)) (fun i _ _ => hv i (by omega) (by omega) (by omega)), fun k hk => ?_, by rw [hc _ (by omega)]; exact hvm, h.2.2.2.2.2.eq hj.1 hot.1 (fun c c1 c2 => hto.2 c (by omega))⟩, hto⟩
  by_cases e : k = t
  · subst e
    refine ⟨⟨?_, fun e he => ?_, fun e he => ?_⟩, ⟨fun e => ?_, fun e => ?_⟩, ⟨?_, fun z hz e q => ?_⟩, ⟨fun z hz e q => ?_, fun e => ?_⟩, ?_, fun z hz e => ?_⟩
    · rw [tj _ (by omega) (by omega) (by omega)]; exact a0
    · have hk := a1 e he
      simp only [tf, List.mem_cons, List.not_mem_nil, or_false] at he
      rcases he with rfl | rfl | rfl | rfl | rfl | rfl | rfl | rfl | rfl | rfl
      · rw [tj _ (by omega) (by omega) (by omega), hv _ (by omega) (by omega) (by omega)]; exact hk
      · rw [tj _ (by omega) (by omega) (by omega), hv _ (by omega) (by omega) (by omega)]; exact hk
      · rw [tj _ (by omega) (by omega) (by omega), hv _ (by omega) (by omega) (by omega)]; exact hk
      · rw [tj _ (by omega) (by omega) (by omega), hv _ (by omega) (by omega) (by omega)]; exact hk
      · rw [tj _ (by omega) (by omega) (by omega), hv _ (by omega) (by omega) (by omega)]; exact hk
      · rw [tj _ (by omega) (by omega) (by omega), hv _ (by omega) (by omega) (by omega)]; exact hk
      · rw [tj _ (by omega) (by omega) (by omega), hv _ (by omega) (by omega) (by omega)]; exact hk
      · rw [tj _ (by omega) (by omega) (by omega), hv _ (by omega) (by omega) (by omega)]; exact hk
      · exact t9.trans hv9.symm
      · rw [tj _ (by omega) (by omega) (by omega), hv _ (by omega) (by omega) (by omega)]; exact hk
    · have hk := a2 e he
      simp only [ts, List.mem_cons, List.not_mem_nil, or_false] at he
      rcases he with rfl | rfl | rfl | rfl | rfl | rfl | rfl <;> (rw [hc _ (by omega), hv _ (by omega) (by omega) (by omega)]; exact hk)
    · rw [h2] at e
      omega
    · rw [t10, t11, hv10, hpl, h2]; exact ⟨rfl, rfl⟩
    · rw [tj _ (by omega) (by omega) (by omega), hv _ (by omega) (by omega) (by omega)]; exact p1
    · rw [tj _ (by omega) (by omega) (by omega)]; rw [hv _ (by omega) (by omega) (by omega)] at q; exact p2 z hz e q
    · rw [tj _ (by omega) (by omega) (by omega)]; exact r1 z hz e q
    · rw [tj _ (by omega) (by omega) (by omega)]; rw [h2] at e; exact r2 e
    · unfold Kg
      rw [tj _ (by omega) (by omega) (by omega), hv _ (by omega) (by omega) (by omega), hv _ (by omega) (by omega) (by omega)]; exact g
    · obtain ⟨q1, q2, q3⟩ := zz z hz e
      rw [h5, h6, h2, vud_pe (w := V.1) hot.1 (hj.vfr k ht)]
      exact ⟨q1, q2, q3⟩
  · exact (h.2.2.2.1.1 k hk e).ot hot hk e (hj.vfr k hk) (hto.1 k hk e) (fun _ _ => Iff.rfl) (fun z _ _ => by rw [h5, h6]; exact ⟨rfl, rfl⟩)
end
end
section
/-! ===== the class: the frame below gets the result ===== -/
section
variable {b lim : Nat} {s s' : wt_S} {V V' : vV} {zs zs' : List (vP × Nat)} {fr fr' : List Nat} {t np k n m bk : Nat} {v : Int32}
theorem c_112 (h : RBt b lim s V zs fr t) (hx : CX b lim) (hj : VJ lim V) (ht : t < 6) (hn : V.2.2.1 t = m + 1) (hbk : bk < 4096) (b2 : bk % 1024 / 32 = (V.2.2.2 t m).1) (b3 : 1 ≤ bk % 32) (b4 : bk % 32 - 1 < vli V.1 (V.2.2.2 t m).1) (hk69 : V.1 (vco (V.2.2.2 t m).1 (bk % 32 - 1)) = 6 ∨ V.1 (vco (V.2.2.2 t m).1 (bk % 32 - 1)) = 9) (hef : 2048 ≤ bk → ∃ ks mm, ks < 3 ∧ V.1 (3989 + t) = nI ks ∧ V.1 (3996 + t) - V.1 (vco (V.2.2.2 t m).1 (bk % 32 - 1) + 1) = nI mm ∧ mm < 2147483648) :
    ∃ s', gX2_leaveFrame_112 b (b + 17 + 2 * t) s v (nI (vpl V t m)) (nI bk) = some ((), s') ∧ RC b lim s' (let V3 := vs (vs (vs V (3982 + t) (nI (vpl V t m))) (3975 + t) (nI (bk % 1024 / 32))) (3968 + t) (nI (bk % 32)); let c := vco (bk % 1024 / 32) (bk % 32 - 1); let V4 := vnu V3 t m (V.1 (c + 3)).toInt.toNat v; if 2048 ≤ bk then vfv V4 t (V.1 (c + 1)) else V4) zs fr ∧ TO b t s s' := by
  have hb := hx.b
  have hxm := hx.m
  have hfit := hj.fit ht (show m < V.2.2.1 t by omega)
  have hfm := hfit.1
  have hp8 := hfit.2.2
  unfold vwd at hp8
  have hl16 := (hj.1.li hfm).2
  obtain ⟨c, c1, c2, c3⟩ := vlin_c (l := bk % 32 - 1) hj.1 hfm b4 hk69
  have hsz := (hj.1.sz hfm).2
  have hcn : (V.1 (vco (bk % 1024 / 32) (bk % 32 - 1) + 3)).toInt.toNat = c := by
    rw [b2, c1, nI_int (by omega)]
    rfl
  obtain ⟨r1, r2⟩ := h.rc (f := nI (bk % 1024 / 32)) (l := nI (bk % 32)) (x := nI (vpl V t m)) hx hj ht (by omega)
  rw [hn, Nat.add_sub_cancel] at r1 r2
  obtain ⟨bb1, bb2, bb3, bb4, bb5⟩ := bk_at hbk
  unfold gX2_leaveFrame_112
  rw [if_pos (nI_m1 (by omega)), bb5, bb4, wr_eq, wr_eq, wr_eq]
  have t9 : wt_u (wt_u (wt_u s (b + 17 + 2 * t) 11 (nI (vpl V t m))) (b + 17 + 2 * t) 9 (nI (bk % 1024 / 32))) (b + 17 + 2 * t) 10 (nI (bk % 32)) (b + 17 + 2 * t) 9 = nI (V.2.2.2 t m).1 := by rw [wt_u_nk (by omega), wt_u_self, b2]
  have t10 : wt_u (wt_u (wt_u s (b + 17 + 2 * t) 11 (nI (vpl V t m))) (b + 17 + 2 * t) 9 (nI (bk % 1024 / 32))) (b + 17 + 2 * t) 10 (nI (bk % 32)) (b + 17 + 2 * t) 10 = nI (bk % 32) := wt_u_self
  have hj3 : VJ lim (vs (vs (vs V (3982 + t) (nI (vpl V t m))) (3975 + t) (nI (bk % 1024 / 32))) (3968 + t) (nI (bk % 32))) := VJ.vs (VJ.vs (VJ.vs hj (by omega)) (by omega)) (by omega)
  have hv : ∀ i, i ≠ 3982 + t → i ≠ 3975 + t → i ≠ 3968 + t → (vs (vs (vs V (3982 + t) (nI (vpl V t m))) (3975 + t) (nI (bk % 1024 / 32))) (3968 + t) (nI (bk % 32))).1 i = V.1 i := fun i i1 i2 i3 => (vs_ne i3).trans ((vs_ne i2).trans (vs_ne i1))
  have h2 : (vs (vs (vs V (3982 + t) (nI (vpl V t m))) (3975 + t) (nI (bk % 1024 / 32))) (3968 + t) (nI (bk % 32))).2 = V.2 := rfl
  dsimp only
  rw [hcn]
  generalize vs (vs (vs V (3982 + t) (nI (vpl V t m))) (3975 + t) (nI (bk % 1024 / 32))) (3968 + t) (nI (bk % 32)) = V3 at *
  generalize wt_u (wt_u (wt_u s (b + 17 + 2 * t) 11 (nI (vpl V t m))) (b + 17 + 2 * t) 9 (nI (bk % 1024 / 32))) (b + 17 + 2 * t) 10 (nI (bk % 32)) = S3 at *
  have hw3 : vpe V.1 V3.1 := fun i hi => hv i (by omega) (by omega) (by omega)
  have hl3 : bk % 32 - 1 < vli V3.1 (V.2.2.2 t m).1 := by rw [(hw3.sz hfm).2.2.1]; exact b4
  have hpl : vpl V3 t m = vpl V t m := by unfold vpl; rw [h2]
  have hfr : V3.2.2.2 t m = V.2.2.2 t m := by rw [h2]
  have k4 := r1.num (i := m) (k := c) (v := v) hx hj3 ht (by rw [h2]; omega) (by rw [hfr, (hw3.sz hfm).1]; exact c2) (by rw [hfr, (hw3.sz hfm).2.2.2]; exact c3)
  rw [hpl] at k4
  have t4 : TO b t s (wt_u S3 (b + 15) (vpl V t m + 2 + c) v) := r2.trans (TO.u (by omega) ht)
  rw [t9, t10, li_sub (by omega), c_part3 r1.2.2.2.2.2 hj3.1 hfm hl3, cl_some, hw3.co hfm (by omega) (by omega), c1, c_ad, c_put (by omega), cl_some]
  by_cases cc : 2048 ≤ bk
  · obtain ⟨ks, mm, e1, e2, e3, e4⟩ := hef cc
    rw [if_pos cc, if_neg (fun e => by have := bb2.mp e; omega), wt_u_ne (show b + 17 + 2 * t ≠ b + 15 by omega), t9, t10, li_sub (by omega), c_part1 k4.2.2.2.2.2 hj3.1 hfm hl3, cl_some, b2]
    obtain ⟨s', f1, f2, f3⟩ := c_ef (m := mm) (words := V.1 (vco (V.2.2.2 t m).1 (bk % 32 - 1) + 1)) k4 hx hj3.1 hj3.vfr.nu ht (by
      show V3.1 (3996 + t) - _ = _
      rw [hv _ (by omega) (by omega) (by omega)]
      exact e3) e4 e1 (by
      show V3.1 (3989 + t) = _
      rw [hv _ (by omega) (by omega) (by omega)]
      exact e2)
    have hco : (vnu V3 t m c v).1 (vco (V.2.2.2 t m).1 (bk % 32 - 1) + 1) = V.1 (vco (V.2.2.2 t m).1 (bk % 32 - 1) + 1) := hw3.co hfm (by omega) (by omega)
    rw [hco, f1, cl_some]
    exact ⟨s', rfl, f2, t4.trans f3⟩
  · rw [if_neg cc, if_pos (bb2.mpr (by omega))]
    exact ⟨_, rfl, k4, t4⟩
end
end
section
/-! ===== the class: a frame returns to the one below ===== -/
section
variable {b lim : Nat} {s s' : wt_S} {V V' : vV} {zs zs' : List (vP × Nat)} {fr fr' : List Nat} {t np k n m z : Nat} {v : Int32} {Z : (Nat → Int32) → Int32 → Int32 → Int32 → Bool}
theorem c_leave (h : RC b lim s V zs fr) (hx : CX b lim) (hP : Vpre lim V t np z) (hn : V.2.2.1 t = m + 2) (hhot : V.1 2049 = 0 ∨ V.1 2049 = 1) (hk : V.1 2067 = nI k) (hef : 2048 ≤ (V.2.2.2 t (m + 1)).2.2.2.1 → ∃ ks mm, ks < 3 ∧ V.1 (3989 + t) = nI ks ∧ V.1 (3996 + t) - V.1 (vco (V.2.2.2 t m).1 ((V.2.2.2 t (m + 1)).2.2.2.1 % 32 - 1) + 1) = nI mm ∧ mm < 2147483648) : ∃ s' zs' fr', gX2_leaveFrame b (b + 17 + 2 * t) s v = some ((), s') ∧ RC b lim s' (vrt Z V t v) zs' fr' ∧ TO b t s s' := by
  have hb := hx.b
  have hxm := hx.m
  obtain ⟨hj, hc, ht, hz, h8, hzl, hl, hl2, hq⟩ := hP
  obtain ⟨n1, n2, n3⟩ := hc.mn
  obtain ⟨d1, d2, d3, d4, d5⟩ := hc.2.2.2.2.2.2.1 (by omega)
  rw [hn] at d1 d2 d3 d4 d5
  rw [show m + 2 - 1 = m + 1 from rfl] at d2 d4 d5
  have hlf : vlf V t = V.2.2.2 t (m + 1) := by unfold vlf; rw [hn]; rfl
  have hfit := hj.fit ht (show m + 1 < V.2.2.1 t by omega)
  have hp8 := hfit.2.2
  unfold vwd at hp8
  obtain ⟨M0, M1, M2, M3⟩ := h.2.2.2.2.1 t ht (m + 1) (by omega)
  have hbk := d3.bk (i := m + 1) (by omega)
  obtain ⟨b1, b2, b3, b4, b5⟩ := d3.2.2.1 m (by omega)
  have hud := d1.ud (m + 1) (by omega)
  have t11 := ((h.2.2.2.1 t ht).2.1.2 (by omega)).2
  rw [hn] at t11
  have t11 : s (b + 17 + 2 * t) 11 = nI (vpl V t (m + 1)) := t11
  have t9 : s (b + 17 + 2 * t) 9 = nI (V.2.2.2 t (m + 1)).1 := (h.at ht (e := (9, 3975)) (by decide)).trans d5
  obtain ⟨-, y, -, y2, y3, y4, -⟩ := zfind (t := t) (n := np - 1) h.1 hj.2.2.1 (hc.2.2.2.1.1 (np - 1) (by omega))
  have e12 : s (b + 17 + 2 * t) 12 = nI y.2 := (h.ch ht (np := np) n1).1.2 y y2 y3 (by omega)
  have hid := (h.2.1.mem y2).1
  have hG := c_gone h hx hj ht (by omega) y2 y3 (by rw [hlf, d2, y4])
  rw [hlf] at hG
  unfold gX2_leaveFrame
  rw [t11, c_word (by omega), cl_some, M1, if_neg (by omega), t11, show nI (vpl V t (m + 1)) + 1 = nI (vpl V t (m + 1) + 1) from nI_add _ 1, c_word (by omega), cl_some, M2, t9, c_frameWords h.2.2.2.2.2 hj.1 hfit.1, cl_some, e12, c_use hid, cl_some, wr_eq, wr_eq, wt_u_ne (show b + 17 + 2 * t ≠ b + 5 by omega), wt_u_nk (show 4 ≠ 5 by omega), wt_u_ne (show b + 17 + 2 * t ≠ b + 5 by omega)]
  have hto : TO b t s (wt_u (wt_u (wt_u s (b + 5) y.2 (s (b + 5) y.2 + -(nI (vwd V.1 (V.2.2.2 t (m + 1)).1)))) (b + 17 + 2 * t) 5 (s (b + 17 + 2 * t) 5 - nI (vwd V.1 (V.2.2.2 t (m + 1)).1))) (b + 17 + 2 * t) 4 (s (b + 17 + 2 * t) 4 - 1)) := ((TO.u (by omega) ht).trans (TO.u (by omega) ht)).trans (TO.u (by omega) ht)
  have e12' : (wt_u (wt_u (wt_u s (b + 5) y.2 (s (b + 5) y.2 + -(nI (vwd V.1 (V.2.2.2 t (m + 1)).1)))) (b + 17 + 2 * t) 5 (s (b + 17 + 2 * t) 5 - nI (vwd V.1 (V.2.2.2 t (m + 1)).1))) (b + 17 + 2 * t) 4 (s (b + 17 + 2 * t) 4 - 1)) (b + 17 + 2 * t) 12 = nI y.2 := by rw [wt_u_nk (by omega), wt_u_nk (by omega), wt_u_ne (by omega)]; exact e12
  generalize (wt_u (wt_u (wt_u s (b + 5) y.2 (s (b + 5) y.2 + -(nI (vwd V.1 (V.2.2.2 t (m + 1)).1)))) (b + 17 + 2 * t) 5 (s (b + 17 + 2 * t) 5 - nI (vwd V.1 (V.2.2.2 t (m + 1)).1))) (b + 17 + 2 * t) 4 (s (b + 17 + 2 * t) 4 - 1)) = S at *
  have hv : ∀ i, i ≠ 3961 + t → i ≠ 3954 + t → (vgn V t).1 i = V.1 i := fun i i1 i2 => (vs_ne i2).trans (vs_ne i1)
  have hw : vpe V.1 (vgn V t).1 := fun i hi => hv i (by omega) (by omega)
  have hn1 : (vgn V t).2.2.1 t = m + 1 := by show mj_upd V.2.2.1 t (V.2.2.1 t - 1) t = m + 1; rw [mj_upd_self, hn]; rfl
  have hf1 : (vgn V t).2.2.2 = V.2.2.2 := rfl
  have hp1 : (vgn V t).2.1 = V.2.1 := rfl
  have hj1 : VJ lim (vgn V t) := VJ.nf (VJ.vs (VJ.vs hj (by omega)) (by omega)) (by show V.2.2.1 t - 1 ≤ V.2.2.1 t; omega)
  have hvrt : vrt Z V t v = (let V2 := if V.1 (3933 + t) = 1 then vlv (vgn V t) t (V.2.2.2 t (m + 1)) else vgn V t; let V3 := vs (vs (vs V2 (3982 + t) (nI (vpl V2 t m))) (3975 + t) (nI ((V.2.2.2 t (m + 1)).2.2.2.1 % 1024 / 32))) (3968 + t) (nI ((V.2.2.2 t (m + 1)).2.2.2.1 % 32)); let c := vco ((V.2.2.2 t (m + 1)).2.2.2.1 % 1024 / 32) ((V.2.2.2 t (m + 1)).2.2.2.1 % 32 - 1); let V4 := vnu V3 t m (V.1 (c + 3)).toInt.toNat v; if 2048 ≤ (V.2.2.2 t (m + 1)).2.2.2.1 then vfv V4 t (V.1 (c + 1)) else V4) := by
    unfold vrt
    rw [hn, show m + 2 - 1 = m + 1 from rfl]
    dsimp only
    rw [if_neg (by omega)]
    unfold vgn
    rw [hlf, hn]
    rfl
  have hus : S (b + 5) y.2 = nI (V.2.2.2 t (m + 1)).2.2.1 := by
    have q1 := (hG.2.2.2.1.2.2.2.2.2.2 y y2 y3).1
    rw [q1, hn1, hf1, vud_pe (w := V.1) hw (fun i hi => hj.vfr t ht i (by omega)), y4, ← d2]
    have : vud V.1 (V.2.2.2 t) (V.2.2.2 t (m + 1)).2.1 (m + 1 + 1) = vud V.1 (V.2.2.2 t) (V.2.2.2 t (m + 1)).2.1 (m + 1) + vwd V.1 (V.2.2.2 t (m + 1)).1 := by
      show _ + (if _ then _ else 0) = _
      rw [if_pos rfl]
    rw [this] at hud
    congr 1
    omega
  -- behind leaving
  have key : ∀ (V2 : vV) (S2 : wt_S) zs2 fr2, RBt b lim S2 V2 zs2 fr2 t → VJ lim V2 → V2.2.2 = (vgn V t).2.2 → (∀ i, i ≠ 2067 → i ≠ 4066 + t → V2.1 i = (vgn V t).1 i) → vpl V2 t m = vpl V t m → TO b t s S2 → V2 = (if V.1 (3933 + t) = 1 then vlv (vgn V t) t (V.2.2.2 t (m + 1)) else vgn V t) → ∃ s' zs' fr', gX2_leaveFrame_112 b (b + 17 + 2 * t) S2 v (nI (vpl V t m)) (nI (V.2.2.2 t (m + 1)).2.2.2.1) = some ((), s') ∧ RC b lim s' (vrt Z V t v) zs' fr' ∧ TO b t s s' := by
    intro V2 S2 zs2 fr2 g1 g2 g3 g4 g5 g6 g7
    have hV2 : ∀ i, i ≠ 2067 → i ≠ 4066 + t → i ≠ 3961 + t → i ≠ 3954 + t → V2.1 i = V.1 i := fun i i1 i2 i3 i4 => (g4 i i1 i2).trans (hv i i3 i4)
    have hfm := hj.vfr t ht m (by omega)
    have hl16 := (hj.1.li hfm).2
    have hw2 : vpe V.1 V2.1 := fun i hi => hV2 i (by omega) (by omega) (by omega) (by omega)
    have e23 : V2.2.2.2 = V.2.2.2 := by rw [g3]; rfl
    obtain ⟨s', o1, o2, o3⟩ := c_112 (m := m) (bk := (V.2.2.2 t (m + 1)).2.2.2.1) (v := v) g1 hx g2 ht (by rw [g3]; exact hn1) b1 (by rw [e23]; exact b2) b3 (by rw [e23, (hw2.sz hfm).2.2.1]; exact b4) (by rw [e23, hw2.co0 hfm (by omega)]; rcases b5 with ⟨-, e, -⟩ | ⟨-, e, -⟩; exact Or.inl e; exact Or.inr e) (fun e => by
      rw [e23, hV2 _ (by omega) (by omega) (by omega) (by omega), hV2 _ (by omega) (by omega) (by omega) (by omega), hw2.co hfm (by omega) (by omega)]
      exact hef e)
    rw [g5] at o1
    refine ⟨s', zs2, fr2, o1, ?_, g6.trans o3⟩
    rw [hvrt, ← g7]
    dsimp only at o2 ⊢
    rw [b2, hw2.co hfm (by omega) (by omega), hw2.co hfm (by omega) (by omega)] at o2
    rw [b2]
    exact o2
  have key0 : (V.2.2.2 t (m + 1)).2.2.1 ≠ 0 ∨ (V.2.2.2 t (m + 1)).2.1 = 0 → ∃ s' zs' fr', gX2_leaveFrame_112 b (b + 17 + 2 * t) S v (nI (vpl V t m)) (nI (V.2.2.2 t (m + 1)).2.2.2.1) = some ((), s') ∧ RC b lim s' (vrt Z V t v) zs' fr' ∧ TO b t s s' := fun hF => key (vgn V t) S zs fr hG hj1 rfl (fun _ _ _ => rfl) rfl hto (by rw [vlv_0 hF]; split <;> rfl)
  rw [e12', c_usedOf hid, cl_some, hus, show m + 1 - 1 = m from rfl]
  by_cases cu : (V.2.2.2 t (m + 1)).2.2.1 = 0
  · rw [cu, if_neg (by simp [nI]), e12', c_belowOf hid, cl_some]
    obtain ⟨-, q2, q3⟩ := hG.2.2.2.1.2.2.2.2.2.2 y y2 y3
    by_cases cn : np = 1
    · rw [if_pos (q2 (by omega))]
      exact key0 (Or.inr (by omega))
    · obtain ⟨-, w, -, w2, w3, w4, -⟩ := zfind (t := t) (n := np - 2) h.1 hj.2.2.1 (hc.2.2.2.1.1 (np - 2) (by omega))
      rw [if_neg (by rw [q3 w w2 w3 (by omega)]; exact nI_m1 (by have := (h.2.1.mem w2).1; omega))]
      have cm : V.1 (3933 + t) = 1 := by
        rcases hc.2.2.2.2.1 with e | e
        · exact absurd e.2.1 cn
        · exact e
      have hlt : ∀ i, i < m + 1 → (V.2.2.2 t i).2.1 < np - 1 := fun i gi => by
        have := d1.drop cu (fun i _ => by unfold vwd; omega) i gi
        omega
      have hof : vnof (vgn V t) t (np - 1) := fun i gi => by
        rw [hn1] at gi
        have := hlt i gi
        rw [hf1]
        omega
      have hof2 : vnof (vgn V t) t 1000 := fun i gi => by
        rw [hn1] at gi
        have := hlt i gi
        rw [hf1]
        omega
      have h66 : (vgn V t).1 (4066 + t) = nI np := (hv _ (by omega) (by omega)).trans n1
      have h49 : (vgn V t).1 2049 = 0 ∨ (vgn V t).1 2049 = 1 := by rw [hv _ (by omega) (by omega)]; exact hhot
      obtain ⟨S2, zs2, fr2, o1, o2, o3, o4⟩ := c_leaveP (F := V.2.2.2 t (m + 1)) hG hx hj1 ht h66 (by omega) hc.2.2.2.1 hof hof2 h49 d2 cu
      obtain ⟨v1, v2, -, -, v5, np2, -, -, v8⟩ := vlv_inv (F := V.2.2.2 t (m + 1)) (z := 0) (k := k) hj1 ht h66 hc.2.2.1 hc.2.2.2.1 d2 (fun _ _ => hof) (fun i gi => by rw [hn1] at gi; have := hlt i gi; rw [hf1]; omega) ((hv _ (by omega) (by omega)).trans hk) (fun _ _ => Nat.zero_le _)
      have hplm : vpl (vlv (vgn V t) t (V.2.2.2 t (m + 1))) t m = vpl V t m := by
        have := (v8.2 m (by rw [hn1]; omega)).2.1
        unfold vpl
        rw [show (vlv (vgn V t) t (V.2.2.2 t (m + 1))).2.2.2 = V.2.2.2 by rw [v2, hf1]]
        rw [hf1, hp1] at this
        rw [this]
      rw [o1, cl_some]
      exact key _ S2 zs2 fr2 o2 v1 v2 v5 hplm (hto.trans (o3.to ht)) (by rw [if_pos cm])
  · rw [if_pos (fun e => cu (by
      have hh : (V.2.2.2 t (m + 1)).2.2.1 < 2147483648 := by unfold vpl at hp8; omega
      exact (nI_inj hh (by omega)).mp (e.trans (show (0 : Int32) = nI 0 from rfl))))]
    exact key0 (Or.inl cu)
end
end
section
/-! ===== done: the order of what is set ===== -/
section
variable {V : vV} {t : Nat} {v : Int32}
theorem vga_vs {i : Nat} (h1 : i ≠ 3989 + t) (h2 : i ≠ 3996 + t) (h3 : i ≠ 4066 + t) (h4 : i ≠ 3954 + t) (h5 : i ≠ 3961 + t) (h6 : i ≠ 3975 + t) (h7 : i ≠ 3923 + (V.1 (3989 + t)).toInt.toNat) : vga (vs V i v) t = vs (vga V t) i v := by
  have hnf : ∀ X : vV, vnf (vs X i v) t 0 = vs (vnf X t 0) i v := fun _ => rfl
  have hps : vps (vs V i v) ((vs V i v).2.1.filter (fun q => decide (q.2.2.1 ≠ t))) = vs (vps V (V.2.1.filter (fun q => decide (q.2.2.1 ≠ t)))) i v := rfl
  have h89 : (vs V i v).1 (3989 + t) = V.1 (3989 + t) := vs_ne (Ne.symm h1)
  unfold vga
  dsimp only
  rw [h89, hps]
  by_cases c : V.1 (3989 + t) = -1
  · rw [if_pos c, if_pos c, vs_cm h1, vs_cm h2, vs_cm h3, vs_cm h4, hnf, vs_cm h5, vs_cm h6]
  · rw [if_neg c, if_neg c, vs_cm h7, vs_cm h1, vs_cm h2, vs_cm h3, vs_cm h4, hnf, vs_cm h5, vs_cm h6]
theorem vdn_o (hs : V.1 (3989 + t) = -1 ∨ ∃ k, k < 3 ∧ V.1 (3989 + t) = nI k) : vga (vs (vs V (3926 + t) 3) (3940 + t) v) t = vs (vga (vs V (3940 + t) v) t) (3926 + t) 3 := by
  have h89 : (vs V (3940 + t) v).1 (3989 + t) = V.1 (3989 + t) := vs_ne (by omega)
  rw [vs_cm (by omega)]
  refine vga_vs (by omega) (by omega) (by omega) (by omega) (by omega) (by omega) ?_
  rw [h89]
  rcases hs with e | ⟨k, k1, e⟩
  · rw [e]
    show 3926 + t ≠ 3923 + 0
    omega
  · rw [e, nI_int (by omega)]
    show 3926 + t ≠ 3923 + k
    omega
end
end
