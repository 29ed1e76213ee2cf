/-! ===== the class: quiet ===== -/
section
variable {b lim : Nat} {s : wt_S} {V : vV} {zs : List (vP × Nat)} {fr : List Nat} {t np z z2 : Nat}
theorem c_kept (h : RC b lim s V zs fr) (hx : CX b lim) (hj : VJ lim V) (hc : Ico V t np) (ht : t < 6) (hr : V.1 2051 = nI z2) (hz : z2 ≤ 80) : gX4_keptWords b (b + 17 + 2 * t) s = some (nI (vkp V t), s) ∧ vkp V t ≤ 11000 := by
  obtain ⟨hn, hul⟩ := hc.n hj hx.2.2
  have hxm := hx.m
  have hus := hc.2.2.2.2.2.1
  have hvu : vuse V t = vus V.1 (V.2.2.2 t) (V.2.2.1 t) := vuse_of hus (by omega)
  have e5 : s (b + 17 + 2 * t) 5 = nI (vuse V t) := by rw [h.at ht (e := (5, 3961)) (by decide), hvu]; exact hus
  have e3 : s (b + 1) 3 = nI z2 := (h.2.2.1.1 3 (by omega)).trans hr
  have hz2 : (V.1 2051).toInt.toNat = z2 := by rw [hr, nI_int (by omega)]; rfl
  unfold gX4_keptWords gX4_keptWords_28 vkp
  rw [c_lastCovered h hx hj hc ht, cl_some, if_rb, e5, e3, hz2]
  by_cases c : vlc V t = true
  · rw [if_pos c, if_pos c, nI_add]
    exact ⟨rfl, by omega⟩
  · rw [if_neg c, if_neg c, show nI (vuse V t) + 0 = nI (vuse V t + 0) from nI_add _ 0]
    exact ⟨rfl, by omega⟩
theorem c_quiet (h : RC b lim s V zs fr) (hx : CX b lim) (hP : Vpre lim V t np z) (hr : V.1 2051 = nI z2) (hz2 : z2 ≤ 80) : ∃ s' zs' fr', gX4_makeSmaller b (b + 17 + 2 * t) s = some (rb ((vqu lim V t).1 = true), s') ∧ RC b lim s' (vqu lim V t).2 zs' fr' ∧ TO b t s s' := by
  obtain ⟨hj, hc, ht, hz, h8, hzl, hl, hl2, hq⟩ := hP
  obtain ⟨n1, n2, n3⟩ := hc.mn
  obtain ⟨hn, hul⟩ := hc.n hj hx.2.2
  have hz' : (V.1 2048).toInt.toNat = z := by rw [hz, nI_int (by omega)]; rfl
  have e2 : s (b + 17 + 2 * t) 2 = V.1 (3933 + t) := h.at ht (e := (2, 3933)) (by decide)
  unfold gX4_makeSmaller
  rw [e2]
  rcases hc.2.2.2.2.1 with ⟨m0, m1, m2⟩ | m0
  · subst m1
    obtain ⟨x, y, -, y2, y3, y4, y5, y6, -, -⟩ := zfind (t := t) (n := 0) h.1 hj.2.2.1 (hc.2.2.2.1.1 0 (by omega))
    have hch := h.ch ht (np := 1) n1
    have e12 := hch.1.2 y y2 y3 (by omega)
    obtain ⟨i1, -, i3, -⟩ := h.2.1.mem y2
    have hqo := hj.2.1.2 y.1 (h.mem y2)
    obtain ⟨k1, k2⟩ := c_kept h hx hj hc ht hr hz2
    have e0 : s (b + 1) 0 = nI z := (h.2.2.1.1 0 (by omega)).trans hz
    rw [m0, if_pos (by decide), e12, c_wordsOf i1, cl_some, k1, cl_some, i3, li_mul, nI_int (by omega), nI_int (by omega), nI_half2 (by omega), e0, nI_int (by omega), nI_int (by omega)]
    by_cases c1 : vln V.2.1 t 0 < 4 * vkp V t
    · rw [vqu_0 m0 (Or.inl c1), if_pos (by rw [y6] at c1; omega), rb_neg (by simp)]
      exact ⟨s, zs, fr, rfl, h, TO.refl⟩
    · rw [y6] at c1
      rw [if_neg (by omega)]
      by_cases c2 : y.1.2.1 / 2 < z
      · rw [vqu_0 m0 (Or.inr (Or.inl (by rw [y6, hz']; exact c2))), if_neg (by omega), rb_neg (by simp)]
        exact ⟨s, zs, fr, rfl, h, TO.refl⟩
      · rw [if_pos (by omega)]
        have hu : vus V.1 (V.2.2.2 t) (V.2.2.1 t) ≤ y.1.2.1 / 2 := by
          have := vuse_of hc.2.2.2.2.2.1 (by omega)
          unfold vkp at c1
          omega
        cases e : vgap lim 0 V.2.1 (y.1.2.1 / 2) with
        | none =>
          rw [vqu_0 m0 (Or.inr (Or.inr (by rw [y6]; exact e))), c_move_n h hx hj ht ⟨by omega, by omega⟩ e, cl_some, rb_neg (by simp)]
          exact ⟨s, zs, fr, rfl, h, TO.refl⟩
        | some g =>
          have hlen : zs.length < 256 := by
            have := Vlen hj.2.1 hq h8 hl2 (show z ≤ y.1.2.1 / 2 by omega) e
            rw [← h.1, List.length_map] at this
            exact this
          obtain ⟨s', zs', fr', a1, a2, a3⟩ := c_move h hx hj hc ht m0 (lg := 1) (e := (7, 4031)) (Or.inr ⟨rfl, rfl⟩) ⟨by omega, by omega⟩ hu hlen e
          rw [vqu_1 m0 (by rw [y6]; exact c1) (by rw [y6, hz']; exact c2) (by rw [y6]; exact e), y6, a1, cl_some, rb_pos rfl]
          exact ⟨s', zs', fr', rfl, a2, a3⟩
  · rw [m0, if_neg (by simp), vqu_l m0]
    obtain ⟨s1, zs1, fr1, a1, a2, a3, -⟩ := c_spare h hx hj ht (hc.nof (by omega))
    rw [a1, cl_some, rz_rb]
    exact ⟨s1, zs1, fr1, rfl, a2, a3.to ht⟩
end
