/-! ===== the class: leaving a piece ===== -/
section
variable {b lim : Nat} {s s' : wt_S} {V V' : vV} {zs zs' : List (vP × Nat)} {fr fr' : List Nat} {t np k n : Nat}
theorem c_leaveP (h : RBt b lim s V zs fr t) (hx : CX b lim) (hj : VJ lim V) (ht : t < 6) (hnp : V.1 (4066 + t) = nI np) (hn : 2 ≤ np ∧ np ≤ 256) (hit : Itp V.2.1 t np) (hof : vnof V t (np - 1)) (hof2 : vnof V t 1000) (hhot : V.1 2049 = 0 ∨ V.1 2049 = 1) {F : vF} (hF : F.2.1 = np - 1) (hF0 : F.2.2.1 = 0) : ∃ s' zs' fr', gX4_leavePiece b (b + 17 + 2 * t) s = some ((), s') ∧ RBt b lim s' (vlv V t F) zs' fr' t ∧ XF b t s s' ∧ ∀ j, j ≠ 12 → j ≠ 13 → s' (b + 17 + 2 * t) j = s (b + 17 + 2 * t) j := by
  have hb := hx.b
  obtain ⟨-, y, -, y2, y3, y4, -⟩ := zfind (t := t) (n := np - 1) h.1 hj.2.2.1 (hit.1 (np - 1) (by omega))
  obtain ⟨-, w, -, w2, w3, w4, -⟩ := zfind (t := t) (n := np - 2) h.1 hj.2.2.1 (hit.1 (np - 2) (by omega))
  obtain ⟨-, -, ⟨p1, p2⟩, -, -, zz⟩ := h.2.2.2.1.2
  have e12 : s (b + 17 + 2 * t) 12 = nI y.2 := p2 y y2 y3 (by rw [hnp, y4]; congr 1; omega)
  have hbel : s (b + 6) y.2 = nI w.2 := (zz y y2 y3).2.2 w w2 w3 (by omega)
  have hid := (h.2.1.mem y2).1
  have hA := h.t12 hx hj ht hnp hn hit w2 w3 w4
  have hj3 : VJ lim (vs V (4066 + t) (V.1 (4066 + t) - 1)) := VJ.vs hj (by omega)
  have hX1 : XF b t s (wt_u s (b + 17 + 2 * t) 12 (nI w.2)) := XF.u
  have hT1 : ∀ j, j ≠ 12 → wt_u s (b + 17 + 2 * t) 12 (nI w.2) (b + 17 + 2 * t) j = s (b + 17 + 2 * t) j := fun j hj => wt_u_nk hj
  have e49 : wt_u s (b + 17 + 2 * t) 12 (nI w.2) (b + 1) 1 = V.1 2049 := (hA.2.2.1.1 1 (by omega)).trans (vs_ne (by omega))
  have hFc : ¬ (F.2.2.1 ≠ 0 ∨ F.2.1 = 0) := by omega
  unfold gX4_leavePiece
  rw [e12, c_belowOf hid, cl_some, hbel, wr_eq, e49]
  rcases hhot with h0 | h1
  · rw [h0, if_pos (by decide), vlv_1 hFc h0, hF]
    obtain ⟨s', zs', fr', a1, a2, a3, a4⟩ := c_giveL (n := np - 1) hA hx hj3 ht y2 y3 y4 (by omega) hof
    exact ⟨s', zs', fr', a1, a2, hX1.trans a3, fun j j1 j2 => by rw [a4]; exact hT1 j j1⟩
  · rw [h1, if_neg (by simp), vlv_2 hFc (by rw [h1]; decide), hF]
    obtain ⟨s6, zs6, fr6, a1, a2, a3, a4, a5⟩ := c_spareL hA hx hj3 ht hof2
    have hj6 : VJ lim (vsp (vs V (4066 + t) (V.1 (4066 + t) - 1)) t) := by
      unfold vsp
      split
      · refine VJ.flt (V := vlg1 (vs V (4066 + t) (V.1 (4066 + t) - 1))) (VJ.vs hj3 (by omega)) (fun np2 g0 a1 a2 => Or.inl ?_)
        apply Classical.byContradiction
        intro hgt
        have a1 : Itp V.2.1 t np2 := a1
        obtain ⟨q, q1, q2, q3⟩ := a1.1 999 (by omega)
        rcases hit.2 q q1 q2 with g | g <;> omega
      · exact hj3
    have hps : (vsp (vs V (4066 + t) (V.1 (4066 + t) - 1)) t).2.1 = V.2.1.filter (fun q => !vkey t 1000 q) := vsp_ps
    have hy6 : y ∈ zs6 := by
      have hin : y.1 ∈ (vsp (vs V (4066 + t) (V.1 (4066 + t) - 1)) t).2.1 := by
        rw [hps]
        refine List.mem_filter.mpr ⟨by rw [← h.1]; exact List.mem_map.mpr ⟨y, y2, rfl⟩, ?_⟩
        simp only [vkey, Bool.not_eq_true', decide_eq_false_iff_not]
        omega
      rw [← a2.1] at hin
      obtain ⟨y', q1, q2⟩ := List.mem_map.mp hin
      have := zuniq h.1 hj.2.2.1 (a5 y' q1) y2 (by rw [q2]) (by rw [q2])
      rw [← this]
      exact q1
    have hle : ∀ z ∈ zs6, z.1.2.2.1 = t → z.1.2.2.2 ≤ np - 1 := fun z hz e => by
      have hin : z.1 ∈ V.2.1.filter (fun q => !vkey t 1000 q) := by
        rw [← hps, ← a2.1]
        exact List.mem_map.mpr ⟨z, hz, rfl⟩
      obtain ⟨q1, q2⟩ := List.mem_filter.mp hin
      simp only [vkey, Bool.not_eq_true', decide_eq_false_iff_not] at q2
      have := hit.2 z.1 q1 e
      omega
    have h22 : (vsp (vs V (4066 + t) (V.1 (4066 + t) - 1)) t).2.2 = V.2.2 := vsp_22
    obtain ⟨s', c1, c2, c3, c4⟩ := c_renL (n := np - 1) a2 hx hj6 ht hy6 y3 y4 (by omega) hle (by unfold vnof; rw [h22]; exact hof) (by unfold vnof; rw [h22]; exact hof2) (by rw [vsp_w (by omega), vs_at, hnp]; exact nI_sub (b := 1) (by omega)) (by omega)
    rw [a1, cl_some]
    refine ⟨s', _, fr6, c1, c2, (hX1.trans a3).trans c3, fun j j1 j2 => ?_⟩
    rw [c4 j j2, a4, mj_upd_ne j2]
    exact hT1 j j1
end
