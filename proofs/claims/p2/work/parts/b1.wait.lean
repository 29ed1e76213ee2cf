/-! ===== a task that waits stands before a foreign call ===== -/
section
variable {lim B B' t np z k f bk l x : Nat} {V V' : vV} {v : Int32} {Z : (Nat → Int32) → Int32 → Int32 → Int32 → Bool} {h2 : Int32 × Option (Nat × Nat)}
def WL (V : vV) (t : Nat) : Prop := V.1 (3926 + t) = 2 → ∃ l, V.1 (3968 + t) = nI l ∧ l < vli V.1 (vlf V t).1 ∧ V.1 (vco (vlf V t).1 l) = 9
theorem WL.no (h : V.1 (3926 + t) ≠ 2) : WL V t := fun e => absurd e h
theorem WL.eq (h : WL V t) (hp : Ipr V.1) (hw : vpe V.1 V'.1) (hf : (vlf V t).1 < 10) (h1 : V'.1 (3926 + t) = V.1 (3926 + t)) (h2 : V'.1 (3968 + t) = V.1 (3968 + t)) (h3 : (vlf V' t).1 = (vlf V t).1) : WL V' t := fun e => by
  rw [h1] at e
  obtain ⟨l, l1, l2, l3⟩ := h e
  have hl := (hp.li hf).2
  exact ⟨l, by rw [h2]; exact l1, by rw [h3, (hw.sz hf).2.2.1]; exact l2, by rw [h3, hw.co0 hf (by omega)]; exact l3⟩
theorem vbz_f (hI : VI lim B V) (ht : t < 6) (hb : vbz V.1 t) : 0 < V.2.2.1 t ∧ (vlf V t).1 < 10 := by
  rcases hI.2.2.2.2.2 t ht with ⟨-, n, np, c1, c2, c3, c4, c5, c6, c7, c8, c9, -⟩ | b
  · refine ⟨by omega, ?_⟩
    unfold vlf
    rw [c1, Nat.add_sub_cancel]
    exact (c9.1 n (by omega)).1
  · exfalso
    rcases hb with e | e <;> rcases b.2.2.2.2.2.2.2.1 with g | g | g <;> rw [e] at g <;> exact absurd g (by decide)
theorem WL.ot {t' : Nat} (h : WL V t') (hI : VI lim B V) (hO : OT t V V') (ht' : t' < 6) (hne : t' ≠ t) : WL V' t' := by
  have a1 := hO.at ht' hne (c := 3926) (by omega)
  by_cases c : V.1 (3926 + t') = 2
  · have a2 := hO.at ht' hne (c := 3968) (by omega)
    have a3 := (hO.2.2.1 t' ht' hne).2
    refine h.eq hI.2.1 hO.1 (vbz_f hI ht' (Or.inr c)).2 a1 a2 ?_
    unfold vlf
    rw [a3.1, a3.2]
  · exact WL.no (by rw [a1]; exact c)
theorem vcl_26 (hP : Vpre lim V t np z) (hf : f < 10) (hs1 : 1 ≤ vsz V.1 f) (hk : V.1 2067 = nI k) : (vcl lim V t f bk h2).1 (3926 + t) = V.1 (3926 + t) ∨ (vcl lim V t f bk h2).1 (3926 + t) = 4 := by
  unfold vcl
  by_cases c : vlc V t = true
  · rw [if_pos c]
    left
    rw [vpu_w.1 _ (by omega) (by omega) (by omega) (by omega) (by omega) (by omega), vcn_ne (by omega)]
  · rw [if_neg c]
    have hnc := (vlc_iff hP.1 hP.2.1).1 (by simpa using c)
    obtain ⟨v1, v2, v3⟩ := vrm_inv hP hf hs1 hk hnc
    generalize hres : vrm lim V t f = res at *
    obtain ⟨bb, V1⟩ := res
    cases bb with
    | true =>
      obtain ⟨r1, r2, r3, -, r5, np2, r6, r7⟩ := v1 rfl
      left
      show (vpu V1 t f _ _ _).1 (3926 + t) = _
      rw [vpu_w.1 _ (by omega) (by omega) (by omega) (by omega) (by omega) (by omega)]
      exact r5 _ (fun q => by unfold vrs vgs at q; omega)
    | false =>
      obtain ⟨V2, o1, -⟩ := v2 rfl
      have o1 : V1 = vot V2 t := o1
      right
      show V1.1 (3926 + t) = 4
      rw [o1]
      unfold vot
      rw [vlg1_ne (by omega), vcn_ne (by omega), vs_at]
theorem vlv_w {F : vF} {i : Nat} (h1 : i ≠ 2067) (h2 : i ≠ 4066 + t) : (vlv V t F).1 i = V.1 i := by
  by_cases c : F.2.2.1 ≠ 0 ∨ F.2.1 = 0
  · rw [vlv_0 c]
  by_cases c2 : V.1 2049 = 0
  · rw [vlv_1 c c2]
    exact (vlg1_ne h1).trans (vs_ne h2)
  · rw [vlv_2 c c2]
    exact (vlg1_ne h1).trans ((vsp_w h1).trans (vs_ne h2))
theorem vdn_26 (hsd : V.1 (3989 + t) = -1 ∨ ∃ k, k < 3 ∧ V.1 (3989 + t) = nI k) : (vdn Z V t v).1 (3926 + t) = 3 := by
  have e : ∀ i, (vs (vs V (3926 + t) 3) (3940 + t) v).1 i = if i = 3940 + t then v else if i = 3926 + t then 3 else V.1 i := fun i => by
    by_cases c : i = 3940 + t
    · rw [if_pos c, c, vs_at]
    rw [if_neg c, vs_ne c]
    by_cases c : i = 3926 + t
    · rw [if_pos c, c, vs_at]
    rw [if_neg c, vs_ne c]
  have q : (vs (vs V (3926 + t) 3) (3940 + t) v).1 (3989 + t) = -1 ∨ ∃ k, k < 3 ∧ (vs (vs V (3926 + t) 3) (3940 + t) v).1 (3989 + t) = nI k := by
    rw [e, if_neg (by omega), if_neg (by omega)]; exact hsd
  have r : (vlg1 (vcn (vga (vs (vs V (3926 + t) 3) (3940 + t) v) t) 0 1)).1 (3926 + t) = 3 := by
    rw [vlg1_ne (by omega), vcn_ne (by omega), (vga_i q).1 (by omega), if_neg (by omega), if_neg (by omega), e, if_neg (by omega), if_pos rfl]
  unfold vdn
  dsimp only
  split
  · rw [vinc_ne (by omega)]; exact r
  · exact r
theorem vfv_26' {words : Int32} (hs : (V.1 (3989 + t)).toInt.toNat < 3) : (vfv V t words).1 (3926 + t) = V.1 (3926 + t) := by
  by_cases c : 0 < (V.1 (3996 + t) - words).toInt
  · rw [vfv_a c, vs_ne (by omega), vcn_ne (by omega)]
  · rw [vfv_b c, vs_ne (by omega), vs_ne (by omega), vs_ne (by omega), vcn_ne (by omega)]
theorem sd_lt (hsd : V.1 (3989 + t) = -1 ∨ ∃ k, k < 3 ∧ V.1 (3989 + t) = nI k) : (V.1 (3989 + t)).toInt.toNat < 3 := by
  rcases hsd with e | ⟨k, e1, e⟩
  · rw [e]; decide
  · rw [e, nI_int (by omega)]
    show k < 3
    exact e1
theorem vrt_26 (hsd : V.1 (3989 + t) = -1 ∨ ∃ k, k < 3 ∧ V.1 (3989 + t) = nI k) : (vrt Z V t v).1 (3926 + t) = V.1 (3926 + t) ∨ (vrt Z V t v).1 (3926 + t) = 3 := by
  unfold vrt
  dsimp only
  generalize hV1 : vnf (vs (vs V (3961 + t) (V.1 (3961 + t) - (V.1 (2228 + (V.2.2.2 t (V.2.2.1 t - 1)).1) + 2))) (3954 + t) (V.1 (3954 + t) - 1)) t (V.2.2.1 t - 1) = V1
  have e1 : ∀ i, i ≠ 3961 + t → i ≠ 3954 + t → V1.1 i = V.1 i := fun i i1 i2 => by rw [← hV1]; exact (vs_ne i2).trans (vs_ne i1)
  split
  · right
    exact vdn_26 (by rw [e1 _ (by omega) (by omega)]; exact hsd)
  · left
    have e2 : ∀ i, i ≠ 2067 → i ≠ 4066 + t → (if V.1 (3933 + t) = 1 then vlv V1 t (V.2.2.2 t (V.2.2.1 t - 1)) else V1).1 i = V1.1 i := fun i i1 i2 => by
      split
      · exact vlv_w i1 i2
      · rfl
    generalize (if V.1 (3933 + t) = 1 then vlv V1 t (V.2.2.2 t (V.2.2.1 t - 1)) else V1) = V2 at *
    split
    · rw [vfv_26']
      · show (vs (vs (vs V2 _ _) _ _) _ _).1 (3926 + t) = _
        rw [vs_ne (by omega), vs_ne (by omega), vs_ne (by omega), e2 _ (by omega) (by omega), e1 _ (by omega) (by omega)]
      · have : (vs (vs (vs V2 (3982 + t) (nI (vpl V2 t (V.2.2.1 t - 1 - 1)))) (3975 + t) (nI ((V.2.2.2 t (V.2.2.1 t - 1)).2.2.2.1 % 1024 / 32))) (3968 + t) (nI ((V.2.2.2 t (V.2.2.1 t - 1)).2.2.2.1 % 32))).1 (3989 + t) = V.1 (3989 + t) := by
          rw [vs_ne (by omega), vs_ne (by omega), vs_ne (by omega), e2 _ (by omega) (by omega), e1 _ (by omega) (by omega)]
        show ((vs (vs (vs V2 _ _) _ _) _ _).1 (3989 + t)).toInt.toNat < 3
        rw [this]
        exact sd_lt hsd
    · show (vs (vs (vs V2 _ _) _ _) _ _).1 (3926 + t) = _
      rw [vs_ne (by omega), vs_ne (by omega), vs_ne (by omega), e2 _ (by omega) (by omega), e1 _ (by omega) (by omega)]
/-- what quiet leaves -/
theorem vqu_w {i : Nat} (h1 : i ≠ 2067) (h2 : i ≠ 2061) (h3 : i ≠ 4031 + t) (h4 : i ≠ 3982 + t) (h5 : i ≠ 4017 + t) (h6 : i ≠ 2059) : (vqu lim V t).2.1 i = V.1 i ∧ (vqu lim V t).2.2.2 = V.2.2 := by
  unfold vqu
  split
  · exact ⟨vsp_w h1, vsp_22⟩
  split
  · exact ⟨rfl, rfl⟩
  cases vgap lim 0 V.2.1 (vln V.2.1 t 0 / 2) with
  | none => exact ⟨rfl, rfl⟩
  | some g => exact ⟨(vlg1_ne h1).trans ((vcn_ne (by omega)).trans ((vinc_ne h3).trans (vmv_ne h4 h5 h6))), rfl⟩
theorem wl_qu (h : WL V t) (hI : VI lim B V) (ht : t < 6) (hb : vbz V.1 t) : WL (vqu lim V t).2 t := by
  have a := fun i h1 h2 h3 h4 h5 h6 => (vqu_w (lim := lim) (V := V) (t := t) (i := i) h1 h2 h3 h4 h5 h6).1
  have b := (vqu_w (lim := lim) (V := V) (t := t) (i := 0) (by omega) (by omega) (by omega) (by omega) (by omega) (by omega)).2
  refine h.eq hI.2.1 (fun i hi => a i (by omega) (by omega) (by omega) (by omega) (by omega) (by omega)) (vbz_f hI ht hb).2 (a _ (by omega) (by omega) (by omega) (by omega) (by omega) (by omega)) (a _ (by omega) (by omega) (by omega) (by omega) (by omega) (by omega)) ?_
  unfold vlf
  rw [b]
theorem wl_fg {f slot : Int32} (hI : VI lim B V) (ht : t < 6) (hb : vbz V.1 t) (hlm : lim ≤ 10000) (hl : l < vli V.1 (vlf V t).1) (hll : V.1 (3968 + t) = nI (l + 1)) (h9 : V.1 (vco (vlf V t).1 l) = 9) : WL (vfg lim V t v f slot) t := by
  obtain ⟨np, z, z2, z3, k, l', hP, h0, hhot, -, ⟨s1, s2, s3⟩, ⟨k1, k2⟩, -, hs, -, -⟩ := hI.opn ht hb hlm
  have hft := (vbz_f hI ht hb).2
  have hz3 : (V.1 2052).toInt.toNat ≤ 3 := by rw [s1, nI_int (by omega)]; exact s3
  unfold vfg
  cases e : vhs V t v with
  | mk bb V1 =>
  cases bb with
  | true =>
    obtain ⟨x1, x2, x3, x4⟩ := vhs_T hP hz3 hs e
    have h26 : V1.1 (3926 + t) = 1 := by
      cases ed : vsd V t with
      | none => rw [vhs_0 ed] at e; cases e
      | some V2 =>
        by_cases c : ((vs V2 (3926 + t) 1).1 (3996 + t) + v).toInt ≤ ((vs V2 (3926 + t) 1).1 2053).toInt
        · rw [vhs_1 ed c] at e
          rw [← (Prod.mk.inj e).2, vs_ne (by omega), vs_at]
        · rw [vhs_2 ed c] at e
          cases e
    dsimp only
    split
    · rename_i ct
      have hf10 : f.toInt.toNat < 10 := by have := ct.1; omega
      have := vcl_26 (bk := 32 * (vlf V1 t).1 + (V1.1 (3968 + t)).toInt.toNat + 2048) (h2 := vha V1.1 f.toInt.toNat (vlf V1 t) slot.toInt.toNat) x4 hf10 (by have := ct.2; unfold vsz; omega) ((x3 _ (by omega) (by omega) (by omega) (by omega)).trans k1)
      rw [h26] at this
      exact WL.no (by rcases this with e | e <;> rw [e] <;> decide)
    · refine WL.no ?_
      obtain ⟨ks, k3, k4⟩ := x2
      rw [vfv_26 ht k3 (V := vnu V1 t (V1.2.2.1 t - 1) slot.toInt.toNat (3 * vnm (vlf V1 t) slot + 1)) k4]
      show V1.1 (3926 + t) ≠ 2
      rw [h26]; decide
  | false =>
    dsimp only
    cases ed : vsd V t with
    | none =>
      rw [vhs_0 ed] at e
      rw [← (Prod.mk.inj e).2]
      have hv : ∀ i, i ≠ 2064 → i ≠ 3968 + t → i ≠ 3926 + t → (vcn (vs (vs V (3926 + t) 2) (3968 + t) (V.1 (3968 + t) - 1)) 10 1).1 i = V.1 i := fun i i1 i2 i3 => (vcn_ne (by omega)).trans ((vs_ne i2).trans (vs_ne i3))
      have hw : vpe V.1 (vcn (vs (vs V (3926 + t) 2) (3968 + t) (V.1 (3968 + t) - 1)) 10 1).1 := fun i hi => hv i (by omega) (by omega) (by omega)
      have hl16 := (hI.2.1.li hft).2
      intro _
      refine ⟨l, ?_, ?_, ?_⟩
      · rw [vcn_ne (by omega), vs_at, hll, i_sub1, nI_pred2]
      · show l < vli _ (vlf V t).1
        rw [(hw.sz hft).2.2.1]; exact hl
      · show (vcn (vs (vs V (3926 + t) 2) (3968 + t) (V.1 (3968 + t) - 1)) 10 1).1 (vco (vlf V t).1 l) = 9
        rw [hw.co0 hft (by omega)]; exact h9
    | some V2 =>
      by_cases c : ((vs V2 (3926 + t) 1).1 (3996 + t) + v).toInt ≤ ((vs V2 (3926 + t) 1).1 2053).toInt
      · rw [vhs_1 ed c] at e
        cases e
      · rw [vhs_2 ed c] at e
        rw [← (Prod.mk.inj e).2]
        refine WL.no ?_
        unfold vot
        rw [vlg1_ne (by omega), vcn_ne (by omega), vs_at]
        decide
theorem wl_st (hI : VI lim B V) (ht : t < 6) (hb : vbz V.1 t) (hW : WL V t) (hlm : lim ≤ 10000) : WL (vst lim Z V t) t := by
  obtain ⟨np, z, z2, z3, k, l, hP, h0, -, -, -, -, ⟨l1, l2⟩, hsd0, -, -⟩ := hI.opn ht hb hlm
  have hft := (vbz_f hI ht hb).2
  have hI1 : VI lim B (vinc V (3947 + t)) := hI.vs ht hb (vown_t (c := 3947) (by omega)) (by omega) (fun e => absurd e (by omega))
  have hb1 : vbz (vinc V (3947 + t)).1 t := by unfold vbz; rw [vinc_ne (by omega)]; exact hb
  have hI2 : VI lim B (vcn (vinc V (3947 + t)) 2 1) := hI1.vs ht hb1 (Or.inl (by omega)) (by omega) (fun e => absurd e (by omega))
  have hb2 : vbz (vcn (vinc V (3947 + t)) 2 1).1 t := by unfold vbz; rw [vcn_ne (by omega)]; exact hb1
  have hll : (V.1 (3968 + t)).toInt.toNat = l := by rw [l1, nI_int (by omega)]; rfl
  unfold vst
  dsimp only
  rw [hll]
  generalize hV1 : vcn (vinc V (3947 + t)) 2 1 = V1 at *
  have hat : ∀ i, i ≠ 3947 + t → i ≠ 2056 → V1.1 i = V.1 i := fun i g1 g2 => by rw [← hV1, vcn_ne (by omega), vinc_ne g1]
  have hV12 : V1.2 = V.2 := by rw [← hV1]; rfl
  split
  · rename_i cl
    have hl16 : l < 16 := by have := (hI.2.1.li hft).2; omega
    have hL : V1.1 (3968 + t) + 1 = nI (l + 1) := by rw [hat _ (by omega) (by omega), l1, nI_1]
    have hI3 : VI lim B (vs V1 (3968 + t) (V1.1 (3968 + t) + 1)) := hI2.vs ht hb2 (vown_t (c := 3968) (by omega)) (by omega) (fun _ => ⟨l + 1, by omega, hL⟩)
    have hb3 : vbz (vs V1 (3968 + t) (V1.1 (3968 + t) + 1)).1 t := by unfold vbz; rw [vs_ne (by omega)]; exact hb2
    have hL3 : (vs V1 (3968 + t) (V1.1 (3968 + t) + 1)).1 (3968 + t) = nI (l + 1) := by rw [vs_at, hL]
    have hat3 : ∀ i, i ≠ 3968 + t → i ≠ 3947 + t → i ≠ 2056 → (vs V1 (3968 + t) (V1.1 (3968 + t) + 1)).1 i = V.1 i := fun i g0 g1 g2 => (vs_ne g0).trans (hat i g1 g2)
    have e32 : (vs V1 (3968 + t) (V1.1 (3968 + t) + 1)).2 = V.2 := hV12
    generalize hV3 : vs V1 (3968 + t) (V1.1 (3968 + t) + 1) = V3 at *
    have hw3 : vpe V.1 V3.1 := fun i hi => hat3 i (by omega) (by omega) (by omega)
    have hlf : vlf V3 t = vlf V t := by unfold vlf; rw [e32]
    by_cases k9 : V.1 (vco (vlf V t).1 l) = 9
    · rw [k9, vln1_9]
      exact wl_fg (l := l) hI3 ht hb3 hlm (by rw [hlf, (hw3.sz hft).2.2.1]; exact cl) hL3 (by rw [hlf, hw3.co0 hft hl16]; exact k9)
    have h1 : V3.1 (3926 + t) = 1 := by
      rw [hat3 _ (by omega) (by omega) (by omega)]
      rcases hb with e | e
      · exact e
      · obtain ⟨l', e1, e2, e3⟩ := hW e
        have := (hI.2.1.li hft).2
        have : l' = l := (nI_inj (by omega) (by omega)).mp (e1.symm.trans l1)
        rw [this] at e3
        exact absurd e3 k9
    have hno : ∀ {X : vV}, X.1 (3926 + t) = V3.1 (3926 + t) → WL X t := fun e => WL.no (by rw [e, h1]; decide)
    obtain ⟨np', z', -, -, k', -, hP', -, -, -, -, ⟨k1', -⟩, -, hs', -, -⟩ := hI3.opn ht hb3 hlm
    unfold vln1
    dsimp only
    split
    · exact hno rfl
    split
    · exact hno rfl
    split
    · exact hno rfl
    split
    · exact hno rfl
    split
    · exact hno rfl
    split
    · split
      · exact hno rfl
      · exact hno rfl
    split
    · split
      · rename_i ct
        have := vcl_26 (bk := 32 * (vlf V3 t).1 + l + 1) (h2 := vha V3.1 (V.1 (vco (vlf V t).1 l + 1)).toInt.toNat (vlf V3 t) (V.1 (vco (vlf V t).1 l + 2)).toInt.toNat) hP' (f := (V.1 (vco (vlf V t).1 l + 1)).toInt.toNat) (by have := ct.1; omega) (by have := ct.2; unfold vsz; omega) k1'
        rw [h1] at this
        exact WL.no (by rcases this with e | e <;> rw [e] <;> decide)
      · exact hno rfl
    split
    · split
      · exact hno rfl
      · exact hno (vs_ne (by omega))
    split
    · have := vrt_26 (Z := Z) (v := vnm (vlf V3 t) (V.1 (vco (vlf V t).1 l + 1))) hs'
      rw [h1] at this
      exact WL.no (by rcases this with e | e <;> rw [e] <;> decide)
    exact hno (vqu_w (by omega) (by omega) (by omega) (by omega) (by omega) (by omega)).1
  · rename_i cl
    have h1 : V1.1 (3926 + t) = 1 := by
      rw [hat _ (by omega) (by omega)]
      rcases hb with e | e
      · exact e
      · obtain ⟨l', e1, e2, e3⟩ := hW e
        have := (hI.2.1.li hft).2
        have : l' = l := (nI_inj (by omega) (by omega)).mp (e1.symm.trans l1)
        omega
    have := vrt_26 (Z := Z) (V := V1) (t := t) (v := 0) (by rw [hat _ (by omega) (by omega)]; exact hsd0)
    rw [h1] at this
    exact WL.no (by rcases this with e | e <;> rw [e] <;> decide)
end
