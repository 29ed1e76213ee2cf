/-! ===== the class: the frame below gets the result ===== -/
section
variable {b lim : Nat} {s s' : wt_S} {V V' : vV} {zs zs' : List (vP × Nat)} {fr fr' : List Nat} {t np k n m bk : Nat} {v : Int32}
theorem c_112 (h : RBt b lim s V zs fr t) (hx : CX b lim) (hj : VJ lim V) (ht : t < 6) (hn : V.2.2.1 t = m + 1) (hbk : bk < 4096) (b2 : bk % 1024 / 32 = (V.2.2.2 t m).1) (b3 : 1 ≤ bk % 32) (b4 : bk % 32 - 1 < vli V.1 (V.2.2.2 t m).1) (hk69 : V.1 (vco (V.2.2.2 t m).1 (bk % 32 - 1)) = 6 ∨ V.1 (vco (V.2.2.2 t m).1 (bk % 32 - 1)) = 9) (hef : 2048 ≤ bk → ∃ ks mm, ks < 3 ∧ V.1 (3989 + t) = nI ks ∧ V.1 (3996 + t) - V.1 (vco (V.2.2.2 t m).1 (bk % 32 - 1) + 1) = nI mm ∧ mm < 2147483648) :
    ∃ s', gX2_leaveFrame_112 b (b + 17 + 2 * t) s v (nI (vpl V t m)) (nI bk) = some ((), s') ∧ RC b lim s' (let V3 := vs (vs (vs V (3982 + t) (nI (vpl V t m))) (3975 + t) (nI (bk % 1024 / 32))) (3968 + t) (nI (bk % 32)); let c := vco (bk % 1024 / 32) (bk % 32 - 1); let V4 := vnu V3 t m (V.1 (c + 3)).toInt.toNat v; if 2048 ≤ bk then vfv V4 t (V.1 (c + 1)) else V4) zs fr ∧ TO b t s s' := by
  have hb := hx.b
  have hxm := hx.m
  have hfit := hj.fit ht (show m < V.2.2.1 t by omega)
  have hfm := hfit.1
  have hp8 := hfit.2.2
  unfold vwd at hp8
  have hl16 := (hj.1.li hfm).2
  obtain ⟨c, c1, c2, c3⟩ := vlin_c (l := bk % 32 - 1) hj.1 hfm b4 hk69
  have hsz := (hj.1.sz hfm).2
  have hcn : (V.1 (vco (bk % 1024 / 32) (bk % 32 - 1) + 3)).toInt.toNat = c := by
    rw [b2, c1, nI_int (by omega)]
    rfl
  obtain ⟨r1, r2⟩ := h.rc (f := nI (bk % 1024 / 32)) (l := nI (bk % 32)) (x := nI (vpl V t m)) hx hj ht (by omega)
  rw [hn, Nat.add_sub_cancel] at r1 r2
  obtain ⟨bb1, bb2, bb3, bb4, bb5⟩ := bk_at hbk
  unfold gX2_leaveFrame_112
  rw [if_pos (nI_m1 (by omega)), bb5, bb4, wr_eq, wr_eq, wr_eq]
  have t9 : wt_u (wt_u (wt_u s (b + 17 + 2 * t) 11 (nI (vpl V t m))) (b + 17 + 2 * t) 9 (nI (bk % 1024 / 32))) (b + 17 + 2 * t) 10 (nI (bk % 32)) (b + 17 + 2 * t) 9 = nI (V.2.2.2 t m).1 := by rw [wt_u_nk (by omega), wt_u_self, b2]
  have t10 : wt_u (wt_u (wt_u s (b + 17 + 2 * t) 11 (nI (vpl V t m))) (b + 17 + 2 * t) 9 (nI (bk % 1024 / 32))) (b + 17 + 2 * t) 10 (nI (bk % 32)) (b + 17 + 2 * t) 10 = nI (bk % 32) := wt_u_self
  have hj3 : VJ lim (vs (vs (vs V (3982 + t) (nI (vpl V t m))) (3975 + t) (nI (bk % 1024 / 32))) (3968 + t) (nI (bk % 32))) := VJ.vs (VJ.vs (VJ.vs hj (by omega)) (by omega)) (by omega)
  have hv : ∀ i, i ≠ 3982 + t → i ≠ 3975 + t → i ≠ 3968 + t → (vs (vs (vs V (3982 + t) (nI (vpl V t m))) (3975 + t) (nI (bk % 1024 / 32))) (3968 + t) (nI (bk % 32))).1 i = V.1 i := fun i i1 i2 i3 => (vs_ne i3).trans ((vs_ne i2).trans (vs_ne i1))
  have h2 : (vs (vs (vs V (3982 + t) (nI (vpl V t m))) (3975 + t) (nI (bk % 1024 / 32))) (3968 + t) (nI (bk % 32))).2 = V.2 := rfl
  dsimp only
  rw [hcn]
  generalize vs (vs (vs V (3982 + t) (nI (vpl V t m))) (3975 + t) (nI (bk % 1024 / 32))) (3968 + t) (nI (bk % 32)) = V3 at *
  generalize wt_u (wt_u (wt_u s (b + 17 + 2 * t) 11 (nI (vpl V t m))) (b + 17 + 2 * t) 9 (nI (bk % 1024 / 32))) (b + 17 + 2 * t) 10 (nI (bk % 32)) = S3 at *
  have hw3 : vpe V.1 V3.1 := fun i hi => hv i (by omega) (by omega) (by omega)
  have hl3 : bk % 32 - 1 < vli V3.1 (V.2.2.2 t m).1 := by rw [(hw3.sz hfm).2.2.1]; exact b4
  have hpl : vpl V3 t m = vpl V t m := by unfold vpl; rw [h2]
  have hfr : V3.2.2.2 t m = V.2.2.2 t m := by rw [h2]
  have k4 := r1.num (i := m) (k := c) (v := v) hx hj3 ht (by rw [h2]; omega) (by rw [hfr, (hw3.sz hfm).1]; exact c2) (by rw [hfr, (hw3.sz hfm).2.2.2]; exact c3)
  rw [hpl] at k4
  have t4 : TO b t s (wt_u S3 (b + 15) (vpl V t m + 2 + c) v) := r2.trans (TO.u (by omega) ht)
  rw [t9, t10, li_sub (by omega), c_part3 r1.2.2.2.2.2 hj3.1 hfm hl3, cl_some, hw3.co hfm (by omega) (by omega), c1, c_ad, c_put (by omega), cl_some]
  by_cases cc : 2048 ≤ bk
  · obtain ⟨ks, mm, e1, e2, e3, e4⟩ := hef cc
    rw [if_pos cc, if_neg (fun e => by have := bb2.mp e; omega), wt_u_ne (show b + 17 + 2 * t ≠ b + 15 by omega), t9, t10, li_sub (by omega), c_part1 k4.2.2.2.2.2 hj3.1 hfm hl3, cl_some, b2]
    obtain ⟨s', f1, f2, f3⟩ := c_ef (m := mm) (words := V.1 (vco (V.2.2.2 t m).1 (bk % 32 - 1) + 1)) k4 hx hj3.1 hj3.vfr.nu ht (by
      show V3.1 (3996 + t) - _ = _
      rw [hv _ (by omega) (by omega) (by omega)]
      exact e3) e4 e1 (by
      show V3.1 (3989 + t) = _
      rw [hv _ (by omega) (by omega) (by omega)]
      exact e2)
    have hco : (vnu V3 t m c v).1 (vco (V.2.2.2 t m).1 (bk % 32 - 1) + 1) = V.1 (vco (V.2.2.2 t m).1 (bk % 32 - 1) + 1) := hw3.co hfm (by omega) (by omega)
    rw [hco, f1, cl_some]
    exact ⟨s', rfl, f2, t4.trans f3⟩
  · rw [if_neg cc, if_pos (bb2.mpr (by omega))]
    exact ⟨_, rfl, k4, t4⟩
end
