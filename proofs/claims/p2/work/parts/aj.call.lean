/-! ===== the class: room is made and the frame comes ===== -/
section
variable {b lim : Nat} {s s1 : wt_S} {V V1 : vV} {zs : List (vP × Nat)} {fr : List Nat} {t np z k f l k0 cvn bk z2 : Nat} {fo : Bool}
theorem c_225 (h1 : s (b + 17 + 2 * t) 1 ≠ 2) : gX2_makeStep_225 b (b + 17 + 2 * t) s = some ((), s) := by
  unfold gX2_makeStep_225
  rw [if_pos h1]
theorem vha_pe {w w' : Nat → Int32} {F : vF} (h : vpe w w') (hf : f < 10) (hF : F.1 < 10) : vha w' f F k0 = vha w f F k0 := by
  unfold vha
  rw [(h.sz hf).2.2.2, (h.sz hF).2.2.2]
/-- what a line must be to call -/
def CL (V : vV) (t f l k0 : Nat) (fo : Bool) : Prop := 0 < V.2.2.1 t ∧ V.1 (3975 + t) = nI (vlf V t).1 ∧ V.1 (3968 + t) = nI (l + 1) ∧ l < vli V.1 (vlf V t).1 ∧ V.1 (vco (vlf V t).1 l) = (if fo then 9 else 6) ∧ V.1 (vco (vlf V t).1 l + (if fo then 3 else 2)) = nI k0 ∧ k0 < vsz V.1 (vlf V t).1 ∧ V.1 (3926 + t) = 1
theorem c_enter2 (h : RC b lim s1 V1 zs fr) (hx : CX b lim) (hp : Ipr V.1) (hfr : (vlf V t).1 < 10) (hj : VJ lim V1) (hw : vpe V.1 V1.1) (h2 : V1.2.2 = V.2.2) (hc : Icn V1 t np) (ht : t < 6) (hf : f < 10) (hs1 : 1 ≤ vsz V.1 f) (hr : vud V1.1 (V1.2.2.2 t) (np - 1) (V1.2.2.1 t) + vwd V1.1 f ≤ vln V1.2.1 t (np - 1)) (hL : CL V t f l k0 fo) (h75 : V1.1 (3975 + t) = V.1 (3975 + t)) (h68 : V1.1 (3968 + t) = V.1 (3968 + t)) (h26 : V1.1 (3926 + t) = V.1 (3926 + t)) (hcv : cvn ≤ 1024) (hbk : bk = 32 * (vlf V t).1 + (l + 1) + cvn + if fo then 2048 else 0) :
    ∃ s', gX2_makeStep_208 b (b + 17 + 2 * t) s1 (nI f) (nI cvn) = some ((), s') ∧ RC b lim s' (vpu V1 t f bk (vha V.1 f (vlf V t) k0).1 (vha V.1 f (vlf V t) k0).2) zs fr ∧ TO b t s1 s' := by
  obtain ⟨l0, l1, l2, l3, l4, l5, l6, l7⟩ := hL
  have hlf : V1.2.2.2 t (V1.2.2.1 t - 1) = vlf V t := by rw [h2]; rfl
  have hl16 : l < 16 := by have := (hp.li hfr).2; omega
  obtain ⟨w1, w2, w3, w4⟩ := hw.sz hfr
  obtain ⟨s', a1, a2, a3⟩ := c_enter (V := V1) (l := l) (k0 := k0) (cvn := cvn) (fo := fo) (f := f) h hx hj hc ht hf (by rw [(hw.sz hf).1]; exact hs1) hr (by rw [h2]; exact l0) (by rw [hlf, h75]; exact l1) (by rw [h68]; exact l2) (by rw [hlf, w3]; exact l3) hcv (by rw [hlf, hw.co0 hfr hl16]; exact l4) (by rw [hlf, hw.co hfr hl16 (by cases fo <;> decide)]; exact l5) (by rw [hlf, w1]; exact l6)
  rw [hlf, vha_pe hw hf hfr, ← hbk] at a2
  have hst : s' (b + 17 + 2 * t) 1 ≠ 2 := by
    rw [a2.at ht (e := (1, 3926)) (by decide)]
    show (vpu V1 t f bk (vha V.1 f (vlf V t) k0).1 (vha V.1 f (vlf V t) k0).2).1 (3926 + t) ≠ 2
    rw [vpu_w.1 _ (by omega) (by omega) (by omega) (by omega) (by omega) (by omega), h26, l7]
    decide
  refine ⟨s', ?_, a2, a3⟩
  unfold gX2_makeStep_208
  rw [if_neg (nI_m1 (by omega)), a1, cl_some, c_225 hst]
theorem c_call (h : RC b lim s V zs fr) (hx : CX b lim) (hP : Vpre lim V t np z) (hf : f < 10) (hs1 : 1 ≤ vsz V.1 f) (hmg : V.1 2050 = 0 ∨ V.1 2050 = 1) (hr : V.1 2051 = nI z2) (hz2 : z2 ≤ 80) (hk : V.1 2067 = nI k) (hsd : V.1 (3989 + t) = -1 ∨ ∃ k, k < 3 ∧ V.1 (3989 + t) = nI k ∧ V.1 (3923 + k) = nI t) (hL : CL V t f l k0 fo) (hE : vE V.1 (vlf V t).1 f) (hbk : bk = 32 * (vlf V t).1 + l + 1 + if fo then 2048 else 0) :
    ∃ s' zs' fr', gX2_makeStep_191 b (b + 17 + 2 * t) s (nI f) = some ((), s') ∧ RC b lim s' (vcl lim V t f bk (vha V.1 f (vlf V t) k0)) zs' fr' ∧ TO b t s s' := by
  have hP0 := hP
  obtain ⟨hj, hc, ht, hz, h8, hzl, hl, hl2, hq⟩ := hP
  have l0 := hL.1
  have l7 := hL.2.2.2.2.2.2.2
  have hfr : (vlf V t).1 < 10 := (hj.fit ht (show V.2.2.1 t - 1 < V.2.2.1 t by omega)).1
  obtain ⟨s1, zs1, fr1, a1, a2, a3⟩ := c_room h hx hP0 hf hs1 hmg hr hz2 hk (by rw [l7]; decide) hsd
  unfold gX2_makeStep_191
  rw [if_pos (nI_m1 (by omega)), a1, cl_some]
  unfold vcl
  by_cases c : vlc V t = true
  · rw [if_pos c] at a2 ⊢
    rw [if_pos c]
    obtain ⟨d, x1, x2, x3⟩ := vlc_room hj hc ht c hE
    have hd := (vdp_le hj.1 hf x1).1
    have hw : vpe V.1 (vcn V 11 1).1 := fun i hi => vcn_ne (by omega)
    have hud := (hw.us (fr := V.2.2.2 t) (n := V.2.2.1 t) (k := np - 1) (fun i hi => (hj.fit ht hi).1)).2
    obtain ⟨s', e1, e2, e3⟩ := c_enter2 (cvn := 1024) (bk := bk + 1024) a2 hx hj.1 hfr (VJ.vs hj (by omega)) hw rfl ((ico_vs hc hj.1 (by omega) (by omega)).n') ht hf hs1 (by
      show vud (vcn V 11 1).1 (V.2.2.2 t) (np - 1) (V.2.2.1 t) + vwd (vcn V 11 1).1 f ≤ vln V.2.1 t (np - 1)
      rw [hud, (hw.sz hf).2.1]
      omega) hL (vcn_ne (by omega)) (vcn_ne (by omega)) (vcn_ne (by omega)) (by omega) (by omega)
    exact ⟨s', zs1, fr1, e1, e2, a3.trans e3⟩
  · have c' : vlc V t = false := by simpa using c
    rw [if_neg c] at a2 ⊢
    rw [if_neg c]
    have hnc := (vlc_iff hj hc).1 c'
    obtain ⟨v1, v2, v3⟩ := vrm_inv hP0 hf hs1 hk hnc
    generalize hres : vrm lim V t f = res at *
    obtain ⟨bb, V1⟩ := res
    cases bb with
    | true =>
      obtain ⟨r1, r2, r3, -, r5, np2, r6, r7⟩ := v1 rfl
      have r7 : vud V.1 (V.2.2.2 t) (np2 - 1) (V.2.2.1 t) + vnd V.1 f ≤ vln V1.2.1 t (np2 - 1) := r7
      have hnd := vnd_ge (w := V.1) hj.1 hf
      have hw : vpe V.1 V1.1 := fun i hi => r5 i (fun q => by unfold vrs vgs at q; omega)
      have hud := (hw.us (fr := V.2.2.2 t) (n := V.2.2.1 t) (k := np2 - 1) (fun i hi => (hj.fit ht hi).1)).2
      have key : ∀ cvn, cvn ≤ 1024 → ∃ s', gX2_makeStep_208 b (b + 17 + 2 * t) s1 (nI f) (nI cvn) = some ((), s') ∧ RC b lim s' (vpu V1 t f (bk + cvn) (vha V.1 f (vlf V t) k0).1 (vha V.1 f (vlf V t) k0).2) zs1 fr1 ∧ TO b t s1 s' := fun cvn hcv =>
        c_enter2 (cvn := cvn) (bk := bk + cvn) a2 hx hj.1 hfr r1 hw r2 r6 ht hf hs1 (by
          rw [show V1.2.2.2 = V.2.2.2 by rw [r2], show V1.2.2.1 = V.2.2.1 by rw [r2], hud, (hw.sz hf).2.1]
          omega) hL (r5 _ (fun q => by unfold vrs vgs at q; omega)) (r5 _ (fun q => by unfold vrs vgs at q; omega)) (r5 _ (fun q => by unfold vrs vgs at q; omega)) hcv (by omega)
      simp only [if_true]
      by_cases cm : vmg V.1 f = true
      · simp only [if_pos cm]
        obtain ⟨s', e1, e2, e3⟩ := key 1024 (by omega)
        exact ⟨s', zs1, fr1, e1, e2, a3.trans e3⟩
      · simp only [if_neg cm]
        obtain ⟨s', e1, e2, e3⟩ := key 0 (by omega)
        exact ⟨s', zs1, fr1, e1, e2, a3.trans e3⟩
    | false =>
      obtain ⟨V2, o1, -⟩ := v2 rfl
      have o1 : V1 = vot V2 t := o1
      simp only [Bool.false_eq_true, if_false] at a2 ⊢
      refine ⟨s1, zs1, fr1, ?_, a2, a3⟩
      unfold gX2_makeStep_208
      rw [if_pos rfl, c_225]
      rw [a2.at ht (e := (1, 3926)) (by decide)]
      show V1.1 (3926 + t) ≠ 2
      rw [o1]
      unfold vot
      rw [vlg1_ne (by omega), vcn_ne (by omega), vs_at]
      decide
end
