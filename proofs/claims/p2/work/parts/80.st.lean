/-! ===== a step keeps what always holds ===== -/
section
variable {lim B t : Nat} {V : vV} {Z : (Nat → Int32) → Int32 → Int32 → Int32 → Bool}
theorem vi_st (hI : VI lim B V) (ht : t < 6) (hb : vbz V.1 t) (hlm : lim ≤ 10000) : VI lim (B + 4) (vst lim Z V t) := by
  obtain ⟨np, z, z2, z3, k, l, hP, h0, -, -, -, -, ⟨l1, l2⟩, -, -, -⟩ := hI.opn ht hb hlm
  obtain ⟨hj, hc, -, -, -, -, -, -, -⟩ := hP
  obtain ⟨d1, d2, d3, d4, d5⟩ := hc.2.2.2.2.2.2.1 h0
  have hi0 : V.2.2.1 t - 1 < V.2.2.1 t := by omega
  have hft : (vlf V t).1 < 10 := (d3.1 _ hi0).1
  have hI1 : VI lim B (vinc V (3947 + t)) := hI.vs ht hb (vown_t (c := 3947) (by omega)) (by omega) (fun e => absurd e (by omega))
  have hb1 : vbz (vinc V (3947 + t)).1 t := by unfold vbz; rw [vinc_ne (by omega)]; exact hb
  have hI2 : VI lim B (vcn (vinc V (3947 + t)) 2 1) := hI1.vs ht hb1 (Or.inl (by omega)) (by omega) (fun e => absurd e (by omega))
  have hb2 : vbz (vcn (vinc V (3947 + t)) 2 1).1 t := by unfold vbz; rw [vcn_ne (by omega)]; exact hb1
  have hll : (V.1 (3968 + t)).toInt.toNat = l := by rw [l1, nI_int (by omega)]; rfl
  unfold vst
  dsimp only
  rw [hll]
  generalize hV1 : vcn (vinc V (3947 + t)) 2 1 = V1 at *
  have hat : ∀ i, i ≠ 3947 + t → i ≠ 2056 → V1.1 i = V.1 i := fun i g1 g2 => by rw [← hV1, vcn_ne (by omega), vinc_ne g1]
  have hV12 : V1.2 = V.2 := by rw [← hV1]; rfl
  split
  · rename_i cl
    have hl16 : l < 16 := by have := (hj.1.li hft).2; omega
    have hL : V1.1 (3968 + t) + 1 = nI (l + 1) := by rw [hat _ (by omega) (by omega), l1, nI_1]
    have hI3 : VI lim B (vs V1 (3968 + t) (V1.1 (3968 + t) + 1)) := hI2.vs ht hb2 (vown_t (c := 3968) (by omega)) (by omega) (fun _ => ⟨l + 1, by omega, hL⟩)
    have hb3 : vbz (vs V1 (3968 + t) (V1.1 (3968 + t) + 1)).1 t := by unfold vbz; rw [vs_ne (by omega)]; exact hb2
    have hL3 : (vs V1 (3968 + t) (V1.1 (3968 + t) + 1)).1 (3968 + t) = nI (l + 1) := by rw [vs_at, hL]
    have hat3 : ∀ i, i ≠ 3968 + t → i ≠ 3947 + t → i ≠ 2056 → (vs V1 (3968 + t) (V1.1 (3968 + t) + 1)).1 i = V.1 i := fun i g0 g1 g2 => (vs_ne g0).trans (hat i g1 g2)
    have e32 : (vs V1 (3968 + t) (V1.1 (3968 + t) + 1)).2 = V.2 := hV12
    generalize hV3 : vs V1 (3968 + t) (V1.1 (3968 + t) + 1) = V3 at *
    have hw3 : vpe V.1 V3.1 := fun i hi => hat3 i (by omega) (by omega) (by omega)
    have hlf : vlf V3 t = vlf V t := by unfold vlf; rw [e32]
    have hv := (hI.2.1 _ hft).2.2 l cl
    unfold vlin vcan at hv
    obtain ⟨-, p0, p1, p3, p4, p5, p6, p7, p8, p9⟩ := hv
    unfold vln1
    dsimp only
    rw [hlf]
    split
    · exact (vi_nu hI3 ht).mono (by omega)
    split
    · exact (vi_nu hI3 ht).mono (by omega)
    split
    · exact (vi_nu hI3 ht).mono (by omega)
    split
    · rename_i e
      obtain ⟨q1, q2⟩ := p3 e
      obtain ⟨b, b1, b2, b3, b4, b5⟩ := vnum_nat hj.1 hft q2
      rw [b2]
      refine VI.mono (B := B) (vi_po hI3 ht (Nat.le_refl _) ?_ ?_) (by omega)
      · show b < vsz V3.1 (vlf V3 t).1
        rw [hlf, (hw3.sz hft).1]; exact b3
      · show ¬ bt (V3.1 (2238 + (vlf V3 t).1)) b
        rw [hlf, (hw3.sz hft).2.2.2]; exact b5
    split
    · exact (vi_nu hI3 ht).mono (by omega)
    split
    · split
      · exact hI3.mono (by omega)
      · exact (vi_nu hI3 ht).mono (by omega)
    split
    · rename_i e
      obtain ⟨⟨f, f1, f10⟩, ⟨k0, y1, y2⟩, q3⟩ := p6 e
      have hsz := (hj.1.sz hft).2
      split
      · rename_i ct
        have hfn : (V.1 (vco (vlf V t).1 l + 1)).toInt.toNat = f := by rw [f1, nI_int (by omega)]; rfl
        have hkn : (V.1 (vco (vlf V t).1 l + 2)).toInt.toNat = k0 := by rw [y1, nI_int (by omega)]; rfl
        have hs1 : 1 ≤ vsz V3.1 f := by
          have := ct.2
          rw [hfn] at this
          unfold vsz
          omega
        rw [hfn, hkn]
        have := vi_call (l := l) (k0 := k0) hI3 ht hb3 hlm f10 hs1 (by rw [hlf, (hw3.sz hft).2.2.1]; exact cl) (by rw [hlf, hw3.co0 hft hl16]; exact e) (by rw [hlf, hw3.co hft hl16 (by omega)]; exact f1) (by rw [f1] at ct; exact ct) (by rw [hlf, (hw3.sz hft).1]; exact y2)
        rw [hlf] at this
        exact this.mono (by omega)
      · exact (vi_nu hI3 ht).mono (by omega)
    split
    · rename_i e
      obtain ⟨-, l9, q1, q2⟩ := p7 e
      split
      · exact hI3.mono (by omega)
      · have a : VI lim B (vs V3 (3968 + t) (V.1 (vco (vlf V t).1 l + 2))) := hI3.vs ht hb3 (vown_t (c := 3968) (by omega)) (by omega) (fun _ => ⟨l9, by omega, q1⟩)
        exact a.mono (by omega)
    split
    · exact (vi_rt hI3 ht hb3 hlm).mono (by omega)
    split
    · rename_i e
      obtain ⟨⟨x, x1, -⟩, -⟩ := p9 e
      rw [x1]
      exact vi_fg (l := l) hI3 ht hb3 hlm (by rw [hlf, (hw3.sz hft).2.2.1]; exact cl) hL3 (by rw [hlf, hw3.co0 hft hl16]; exact e) (by rw [hlf, hw3.co hft hl16 (by omega)]; exact x1) (by rw [hlf, hw3.co hft hl16 (by omega)]) (by rw [hlf, hw3.co hft hl16 (by omega)])
    · exact (vi_qu hI3 ht hb3 hlm).mono (by omega)
  · exact (vi_rt hI2 ht hb2 hlm).mono (by omega)
end
