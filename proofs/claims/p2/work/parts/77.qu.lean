/-! ===== quiet keeps what always holds ===== -/
section
variable {lim B t : Nat} {V : vV}
theorem vi_qu (hI : VI lim B V) (ht : t < 6) (hb : vbz V.1 t) (hlm : lim ≤ 10000) : VI lim (B + 1) (vqu lim V t).2 := by
  obtain ⟨np, z, z2, z3, k, l2, hP, h0, -, -, -, -, -, -, -, -⟩ := hI.opn ht hb hlm
  have hP0 := hP
  obtain ⟨hj, hc, -, hz, h8, hzl, -, -, -⟩ := hP
  have hN := hc.n hj hlm
  have hz0 : (V.1 2048).toInt.toNat = z := by rw [hz, nI_int (by omega)]; rfl
  have huse := vuse_of hc.2.2.2.2.2.1 (by omega)
  unfold vqu
  rcases hc.2.2.2.2.1 with ⟨m0, m1, m2⟩ | m0
  · subst m1
    rw [if_neg (by rw [m0]; decide)]
    by_cases c : vln V.2.1 t 0 < 4 * vkp V t ∨ vln V.2.1 t 0 / 2 < (V.1 2048).toInt.toNat
    · rw [if_pos c]
      exact hI.mono (Nat.le_succ B)
    · rw [if_neg c]
      rw [hz0] at c
      have hle : vuse V t ≤ vkp V t := by unfold vkp; exact Nat.le_add_right _ _
      cases e : vgap lim 0 V.2.1 (vln V.2.1 t 0 / 2) with
      | none => exact hI.mono (Nat.le_succ B)
      | some g =>
        have hM : VI lim B (vmv V t g (vln V.2.1 t 0 / 2)) := by
          refine vi_mv hI hb hP0 (vgap0 hj.2.1 e) (by omega) (by omega) (fun i hi hcv d hd => ?_) m0
          obtain ⟨d1, -, d3, -, -⟩ := hc.2.2.2.2.2.2.1 h0
          have hlc : vlc V t = true := by
            cases hv : vlc V t with
            | true => rfl
            | false => exact absurd hcv ((vlc_iff hj hc).1 hv i hi)
          obtain ⟨d', x1, x2, -⟩ := d3.2.2.2.2.1 i hi hcv
          rw [hd] at x1
          cases x1
          have ho := d1.one i hi
          have hm : vus V.1 (V.2.2.2 t) i ≤ vus V.1 (V.2.2.2 t) (V.2.2.1 t) := vus_mono (Nat.le_of_lt hi)
          have hk : vkp V t = vuse V t + (V.1 2051).toInt.toNat := by unfold vkp; rw [if_pos hlc]
          omega
        have hb1 : vbz (vmv V t g (vln V.2.1 t 0 / 2)).1 t := by
          unfold vbz at hb ⊢
          rw [vmv_ne (by omega) (by omega) (by omega)]
          exact hb
        have h1 : VI lim B (vinc (vmv V t g (vln V.2.1 t 0 / 2)) (4031 + t)) := hM.vs ht hb1 (vown_t (c := 4031) (by omega)) (by omega) (fun e => absurd e (by omega))
        have hb2 : vbz (vinc (vmv V t g (vln V.2.1 t 0 / 2)) (4031 + t)).1 t := by unfold vbz; rw [vinc_ne (by omega)]; exact hb1
        have h2 : VI lim B (vcn (vinc (vmv V t g (vln V.2.1 t 0 / 2)) (4031 + t)) 7 1) := h1.vs ht hb2 (Or.inl (by omega)) (by omega) (fun e => absurd e (by omega))
        have hb3 : vbz (vcn (vinc (vmv V t g (vln V.2.1 t 0 / 2)) (4031 + t)) 7 1).1 t := by unfold vbz; rw [vcn_ne (by omega)]; exact hb2
        exact vi_lg h2 ht hb3
  · rw [if_pos m0]
    exact vi_sp hI ht hb
end
