/-! ===== the reference: quiet, foreign calls ===== -/
section
variable {s : wt_S} {V : vV} {t np z k : Nat}
theorem vqu_l (m : V.1 (3933 + t) = 1) {lim : Nat} : vqu lim V t = ((V.2.1.find? (vkey t 1000)).isSome, vsp V t) := by
  unfold vqu
  rw [if_pos m]
theorem vqu_0 (m : V.1 (3933 + t) = 0) {lim : Nat} (c : vln V.2.1 t 0 < 4 * vkp V t ∨ vln V.2.1 t 0 / 2 < (V.1 2048).toInt.toNat ∨ vgap lim 0 V.2.1 (vln V.2.1 t 0 / 2) = none) : vqu lim V t = (false, V) := by
  unfold vqu
  rw [if_neg (by rw [m]; decide)]
  split
  · rfl
  · rename_i g
    have : vgap lim 0 V.2.1 (vln V.2.1 t 0 / 2) = none := by
      rcases c with c | c | c
      · exact absurd (Or.inl c) g
      · exact absurd (Or.inr c) g
      · exact c
    rw [this]
theorem vqu_1 (m : V.1 (3933 + t) = 0) {lim g : Nat} (c1 : ¬ vln V.2.1 t 0 < 4 * vkp V t) (c2 : ¬ vln V.2.1 t 0 / 2 < (V.1 2048).toInt.toNat) (e : vgap lim 0 V.2.1 (vln V.2.1 t 0 / 2) = some g) : vqu lim V t = (true, vlg1 (vcn (vinc (vmv V t g (vln V.2.1 t 0 / 2)) (4031 + t)) 7 1)) := by
  unfold vqu
  rw [if_neg (by rw [m]; decide), if_neg (fun q => q.elim c1 c2), e]
theorem half_all : ∀ a b : Fin 64, (nI (64 * a.val + b.val)) / 2 = nI ((64 * a.val + b.val) / 2) := by decide +kernel
theorem nI_half {a : Nat} (h : a < 4096) : nI a / 2 = nI (a / 2) := by
  have := half_all ⟨a / 64, by omega⟩ ⟨a % 64, by omega⟩
  rw [show 64 * (a / 64) + a % 64 = a by omega] at this
  exact this
theorem q_keptOf {z2 : Nat} (h : RS s V) (hj : VJ 2048 V) (hc : Ico V t np) (ht : t < 6) (hr : V.1 2051 = nI z2) (hz : z2 ≤ 80) : gX11_keptOf s (nI t) = some (nI (vkp V t), s) ∧ vkp V t ≤ 2200 := by
  have hN := hc.n hj (by omega)
  have hu := vuse_of hc.2.2.2.2.2.1 (by omega)
  have hr2 : (V.1 2051).toInt.toNat = z2 := by rw [hr, nI_int (by omega)]; rfl
  unfold gX11_keptOf gX11_keptOf_30 vkp
  rw [li_add, ix_nI (by omega) (by omega), q_isCovered h hj rfl hc ht, cl_some, if_rb, h.tk (c := 3961) (by omega) ht, hc.2.2.2.2.2.1, h.se (c := 2051) (by omega), hu, hr, nI_int (by omega)]
  by_cases c : vlc V t = true
  · rw [if_pos c, if_pos c, nI_add]
    exact ⟨rfl, by show _ + z2 ≤ 2200; omega⟩
  · rw [if_neg c, if_neg c, Int32.add_zero]
    exact ⟨rfl, by omega⟩
theorem q_quiets {z2 : Nat} (h : RS s V) (hP : Vpre 2048 V t np z) (hr : V.1 2051 = nI z2) (hz2 : z2 ≤ 80) (hk : V.1 2067 = nI k) (hk2 : k < 2147483300) : ∃ s', gX11_quiets s (nI t) = some (rb ((vqu 2048 V t).1 = true), s') ∧ RS s' (vqu 2048 V t).2 ∧ RF s s' := by
  obtain ⟨hj, hc, ht, hz, h8, hzl, hl, hl2, hq⟩ := hP
  have hN := hc.n hj hl
  have hz' : (V.1 2048).toInt.toNat = z := by rw [hz, nI_int (by omega)]; rfl
  unfold gX11_quiets
  rw [if_pos h.1, li_add, ix_nI (by omega) (by omega), h.tk (c := 3933) (by omega) ht]
  rcases hc.2.2.2.2.1 with ⟨m0, m1, m2⟩ | m0
  · subst m1
    obtain ⟨x, q, x1, x2, x3, x4, x5, x6, x7, x8⟩ := vfi_some (hc.2.2.2.1.1 0 (by omega))
    have hl256 := h.2.2.1.2.1
    have hqo := hj.2.1.2 q x4
    have hpo : gX11_pieceOf s (nI t) 0 = some (oI (some x), s) := by
      have := q_pieceOf (t := t) (number := 0) h.2.2.1 hj.2.1 ht (by omega)
      rw [x1] at this
      exact this
    obtain ⟨hkp1, hkp2⟩ := q_keptOf h hj hc ht hr hz2
    rw [if_pos (by rw [m0]; decide), hpo, cl_some, oI_some, li_add, ix_nI (by omega) (by omega), hkp1, cl_some, (h.2.2.1.2.2 x q x2).2.1, li_mul, nI_int (by omega), nI_int (by omega), nI_half (by omega), h.se (c := 2048) (by omega), hz, nI_int (by omega), nI_int (by omega)]
    by_cases c1 : vln V.2.1 t 0 < 4 * vkp V t
    · rw [vqu_0 m0 (Or.inl c1), if_pos (by rw [x8] at c1; omega), rb_neg (by simp)]
      exact ⟨s, rfl, h, RF.refl⟩
    · rw [x8] at c1
      rw [if_neg (by omega)]
      by_cases c2 : q.2.1 / 2 < z
      · rw [vqu_0 m0 (Or.inr (Or.inl (by rw [x8, hz']; exact c2))), if_pos (by omega), rb_neg (by simp)]
        exact ⟨s, rfl, h, RF.refl⟩
      · rw [if_neg (by omega)]
        have hu : vus V.1 (V.2.2.2 t) (V.2.2.1 t) ≤ q.2.1 / 2 := by
          have := vuse_of hc.2.2.2.2.2.1 (by omega)
          unfold vkp at c1
          omega
        obtain ⟨mv1, mv2⟩ := q_moves (words := q.2.1 / 2) h hj hc ht ⟨by omega, by omega⟩ hu
        cases e : vgap 2048 0 V.2.1 (q.2.1 / 2) with
        | none =>
          rw [vqu_0 m0 (Or.inr (Or.inr (by rw [x8]; exact e))), mv1 e, cl_some, if_neg (by simp), rb_neg (by simp)]
          exact ⟨s, rfl, h, RF.refl⟩
        | some g =>
          rw [vqu_1 m0 (by rw [x8]; exact c1) (by rw [x8, hz']; exact c2) (by rw [x8]; exact e), x8]
          obtain ⟨s1, a1, a2, a3⟩ := mv2 g e
          have b2 := q_inc (i := 4031 + t) a2 (vtt (by omega) ht) (Or.inr (by omega))
          obtain ⟨c1', c2'⟩ := q_cnt (c := 7) (v := 1) b2 (by omega)
          have hgw := vgap0 hj.2.1 e
          have hvo := vo_mv (t := t) (g := g) (words := q.2.1 / 2) hj ht (by omega) hgw
          have hmem : ∃ p ∈ (vmv V t g (q.2.1 / 2)).2.1, p.2.2.1 = t ∧ p.2.2.2 = 0 := ⟨(g, q.2.1 / 2, t, 0), by rw [vmv_2]; exact vins_mem.mpr (Or.inl rfl), rfl, rfl⟩
          obtain ⟨y, p, y1, y2, y3, -⟩ := vfi_some hmem
          have hpo2 : gX11_pieceOf (wt_u (wt_u s1 111 (4031 + t) (s1 111 (4031 + t) + 1)) 111 (2054 + 7) ((vinc (vmv V t g (q.2.1 / 2)) (4031 + t)).1 (2054 + 7) + 1)) (nI t) 0 = some (oI (some y), wt_u (wt_u s1 111 (4031 + t) (s1 111 (4031 + t) + 1)) 111 (2054 + 7) ((vinc (vmv V t g (q.2.1 / 2)) (4031 + t)).1 (2054 + 7) + 1)) := by
            have := q_pieceOf (t := t) (number := 0) c2'.2.2.1 hvo.1 ht (by omega)
            rw [show (vcn (vinc (vmv V t g (q.2.1 / 2)) (4031 + t)) 7 1).2.1 = (vmv V t g (q.2.1 / 2)).2.1 from rfl, y1] at this
            exact this
          have hy : (vmv V t g (q.2.1 / 2)).2.1.length ≤ 256 := c2'.2.2.1.2.1
          obtain ⟨s3, e1, e2, e3⟩ := q_log (a := 1) (b := nI t) (c := (wt_u (wt_u s1 111 (4031 + t) (s1 111 (4031 + t) + 1)) 111 (2054 + 7) ((vinc (vmv V t g (q.2.1 / 2)) (4031 + t)).1 (2054 + 7) + 1)) 111 (2899 + y)) (d := nI (q.2.1 / 2)) (k := k) c2' (by rw [vcn_ne (by omega), vinc_ne (by omega), vmv_1, mj_upd_ne (by omega), mj_upd_ne (by omega), mj_upd_ne (by omega)]; exact hk) (by omega)
          refine ⟨s3, ?_, e2, RF.trans a3 (RF.trans (RF.uf (Or.inl rfl)) (RF.trans (RF.uf (Or.inl rfl)) e3))⟩
          rw [a1, cl_some, if_pos (by decide), li_add, ix_nI (by omega) (by omega), ix_nI (by omega) (by omega), wr_eq, show gX11_counts (wt_u s1 111 (4031 + t) (s1 111 (4031 + t) + 1)) 7 1 = _ from c1', cl_some, hpo2, cl_some, oI_some, li_add, ix_nI (by omega) (by omega), e1, cl_some, rb_pos rfl]
  · rw [if_neg (by rw [m0]; simp), vqu_l m0]
    obtain ⟨s1, a1, a2, a3⟩ := q_spare h hj rfl ht (hc.nof (by have := hc.2.2.1; omega)) hk (by omega)
    rw [a1, cl_some, rz_rb]
    exact ⟨s1, rfl, a2, a3⟩
end
