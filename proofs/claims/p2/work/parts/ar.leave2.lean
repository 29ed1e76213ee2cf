/-! ===== the class: a piece is given back, a piece becomes the spare ===== -/
section
variable {b lim : Nat} {s s' : wt_S} {V V' : vV} {zs zs' : List (vP × Nat)} {fr fr' : List Nat} {t np k n : Nat}
theorem c_giveL (h : RBt b lim s V zs fr t) (hx : CX b lim) (hj : VJ lim V) (ht : t < 6) {y : vP × Nat} (hy : y ∈ zs) (y1 : y.1.2.2.1 = t) (y2 : y.1.2.2.2 = n) (hn1 : n ≠ 1000) (hof : vnof V t n) : ∃ s' zs' fr', (wt_cl (gX9_writeLog b s 5 (nI y.2)) fun _ s4 => (wt_cl (gX5_giveBack b s4 (nI y.2)) fun _ s5 => some ((), s5))) = some ((), s') ∧ RBt b lim s' (vps (vlg1 V) (V.2.1.filter (fun q => !vkey t n q))) zs' fr' t ∧ XF b t s s' ∧ s' (b + 17 + 2 * t) = s (b + 17 + 2 * t) := by
  have hb := hx.b
  have hm : ∀ z ∈ zs, z.1 ∈ V.2.1 := fun z hz => by rw [← h.1]; exact List.mem_map.mpr ⟨z, hz, rfl⟩
  obtain ⟨x, z, z1, z2, z3, z4, -, -, z5, z6⟩ := zfind h.1 hj.2.2.1 ⟨y.1, hm y hy, y1, y2⟩
  have hzy : z = y := zuniq h.1 hj.2.2.1 z2 hy (z3.trans y1.symm) (z4.trans y2.symm)
  subst hzy
  have hid := (h.2.1.mem z2).1
  obtain ⟨s2, w1, w2⟩ := c_writeLog (b := b) (s := s) (i1 := 5) hid
  have hP2 : PC b lim s2 zs fr := h.2.1.eq (fun c hc => by rw [w2 c (by omega) (by omega)])
  obtain ⟨s3, g1, g2, g3, g4, g5, g6⟩ := c_give hP2 (by rw [h.1]; exact hj.2.1) hx.2.2 z1
  have hX : XF b t s s3 := (XF.lf w2).trans (XF.pf g6)
  have hT3 : s3 (b + 17 + 2 * t) = s (b + 17 + 2 * t) := by rw [g6 _ (by omega), w2 _ (by omega) (by omega)]
  have h5 : s3 (b + 5) = s (b + 5) := by rw [g3, w2 _ (by omega) (by omega)]
  have h6 : s3 (b + 6) = s (b + 6) := by rw [g4, w2 _ (by omega) (by omega)]
  refine ⟨s3, zs.eraseIdx x, z.2 :: fr, by rw [w1, cl_some, g1, cl_some], ?_, hX, hT3⟩
  obtain ⟨⟨a0, a1, a2⟩, -, ⟨p1, p2⟩, ⟨r1, r2⟩, g, zz⟩ := h.2.2.2.1.2
  have hw : ∀ i, i ≠ 2067 → (vps (vlg1 V) (V.2.1.filter (fun q => !vkey t n q))).1 i = V.1 i := fun i hi => vlg1_ne hi
  have hot : OT t V (vps (vlg1 V) (V.2.1.filter (fun q => !vkey t n q))) := (OT.lg ht).trans (OT.flt (V := vlg1 V))
  refine h.op hx hj.1 hot ht (hX.to ht) hj.vfr (fun y hy => ?_) (fun y _ _ => by rw [h5, h6]; exact ⟨rfl, rfl⟩) z5 g2 ⟨fun j hj => ?_, fun j hj => ?_⟩ ⟨⟨?_, fun e' he' => ?_, fun e' he' => ?_⟩, trivial, ⟨?_, fun y hy => ?_⟩, ⟨fun y hy => ?_, fun hq => ?_⟩, ?_, fun y hy hyt => ?_⟩ ?_
  · rw [z6]
    exact ⟨fun q => q.1, fun q => ⟨q, fun c => hy c.1⟩⟩
  · rw [hX _ (by omega) (by omega) (by omega) (by omega), hw _ (by omega)]; exact h.2.2.1.1 j hj
  · rw [hX _ (by omega) (by omega) (by omega) (by omega), hw _ (by omega)]; exact h.2.2.1.2 j hj
  · rw [hT3]; exact a0
  · have := tf_p e' he'
    rw [hT3, hw _ (by omega)]; exact a1 e' he'
  · have := ts_p e' he'
    rw [hX _ (by omega) (by omega) (by omega) (by omega), hw _ (by omega)]; exact a2 e' he'
  · rw [hT3, hw _ (by omega)]; exact p1
  · rw [hT3, hw _ (by omega)]; exact p2 y ((z6 y).mp hy).1
  · rw [hT3]; exact r1 y ((z6 y).mp hy).1
  · rw [hT3]
    refine r2 (fun q hq1 hq2 => hq q (List.mem_filter.mpr ⟨hq1, ?_⟩) hq2)
    simp only [vkey, Bool.not_eq_true', decide_eq_false_iff_not]
    intro hc
    exact hn1 (hc.2.symm.trans hq2.2)
  · unfold Kg
    rw [hT3, hw _ (by omega), hw _ (by omega)]; exact g
  · rw [h5, h6]
    obtain ⟨q1, q2, q3⟩ := zz y ((z6 y).mp hy).1 hyt
    refine ⟨?_, q2, fun y' hy' => q3 y' ((z6 y').mp hy').1⟩
    show s (b + 5) y.2 = nI (vud (vlg1 V).1 (V.2.2.2 t) y.1.2.2.2 (V.2.2.1 t))
    rw [vud_pe (w := V.1) (w' := (vlg1 V).1) hot.1 (hj.vfr t ht)]
    exact q1
  · rw [hX _ (by omega) (by omega) (by omega) (by omega)]
    exact VM_vs (Or.inl (by omega)) (VM.sp hj h.2.2.2.2.1 (vnof_P hof))
end
