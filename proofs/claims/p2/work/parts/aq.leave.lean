/-! ===== the class: a piece is left ===== -/
section
variable {b lim : Nat} {s s' : wt_S} {V V' : vV} {zs zs' : List (vP × Nat)} {fr fr' : List Nat} {t np k : Nat}
/-- the piece below is the last one -/
theorem RBt.t12 (h : RBt b lim s V zs fr t) (hx : CX b lim) (hj : VJ lim V) (ht : t < 6) (hnp : V.1 (4066 + t) = nI np) (hn : 2 ≤ np ∧ np ≤ 256) (hit : Itp V.2.1 t np) {w : vP × Nat} (hw : w ∈ zs) (w1 : w.1.2.2.1 = t) (w2 : w.1.2.2.2 = np - 2) : RBt b lim (wt_u s (b + 17 + 2 * t) 12 (nI w.2)) (vs V (4066 + t) (V.1 (4066 + t) - 1)) zs fr t := by
  have hb := hx.b
  obtain ⟨⟨a0, a1, a2⟩, -, ⟨p1, p2⟩, ⟨r1, r2⟩, g, zz⟩ := h.2.2.2.1.2
  have hg : ∀ c, c ≠ b + 17 + 2 * t → wt_u s (b + 17 + 2 * t) 12 (nI w.2) c = s c := fun c hc => wt_u_ne hc
  have hT : ∀ j, j ≠ 12 → wt_u s (b + 17 + 2 * t) 12 (nI w.2) (b + 17 + 2 * t) j = s (b + 17 + 2 * t) j := fun j hj => wt_u_nk hj
  have e5 := hg (b + 5) (by omega)
  have e6 := hg (b + 6) (by omega)
  have hn1 : V.1 (4066 + t) - 1 = nI (np - 1) := by rw [hnp]; exact nI_sub (b := 1) (by omega)
  have hv : ∀ i, i ≠ 4066 + t → (vs V (4066 + t) (V.1 (4066 + t) - 1)).1 i = V.1 i := fun i hi => vs_ne hi
  have hm : ∀ z ∈ zs, z.1 ∈ V.2.1 := fun z hz => by rw [← h.1]; exact List.mem_map.mpr ⟨z, hz, rfl⟩
  refine h.op hx hj.1 (OT.vs ht (vown_t (c := 4066) (by omega))) ht (TO.u (by omega) ht) hj.vfr (fun z _ => Iff.rfl) (fun z _ _ => ⟨by rw [e5], by rw [e6]⟩) h.1 (h.2.1.eq (fun c hc => hg c (by omega))) (h.2.2.1.keep (hg _ (by omega)) (hg _ (by omega)) (fun i _ _ => hv i (by omega))) ⟨⟨?_, fun e he => ?_, fun e he => ?_⟩, trivial, ⟨fun e => ?_, fun z hz e q => ?_⟩, ⟨fun z hz e q => ?_, fun e => ?_⟩, fun e => ?_, fun z hz e => ?_⟩ ?_
  · rw [hT _ (by omega)]; exact a0
  · have q := tf_n e he
    have q2 := tf_p e he
    rw [hT _ (by omega), hv _ (by omega)]; exact a1 e he
  · have q := ts_n e he
    have q2 := ts_p e he
    rw [hg _ (by omega), hv _ (by omega)]; exact a2 e he
  · rw [vs_at, hn1] at e
    exact absurd ((nI_inj (by omega) (by omega)).mp (e.trans (show (0 : Int32) = nI 0 from rfl))) (by omega)
  · rw [vs_at, hn1] at q
    have hz2 := hit.2 z.1 (hm z hz) e
    have hz3 : z.1.2.2.2 + 1 = np - 1 := (nI_inj (by omega) (by omega)).mp q
    rw [wt_u_self, zuniq h.1 hj.2.2.1 hz hw (e.trans w1.symm) (by omega)]
  · rw [hT _ (by omega)]; exact r1 z hz e q
  · rw [hT _ (by omega)]; exact r2 e
  · rw [hT _ (by omega), hv _ (by omega)]; exact g (by rw [← hv (3926 + t) (by omega)]; exact e)
  · rw [e5, e6]
    have := zz z hz e
    refine ⟨?_, this.2⟩
    show s (b + 5) z.2 = nI (vud (vs V (4066 + t) (V.1 (4066 + t) - 1)).1 (V.2.2.2 t) z.1.2.2.2 (V.2.2.1 t))
    rw [vud_pe (w := V.1) (fun i hi => hv i (by omega)) (fun i hi => (hj.fit ht hi).1)]
    exact this.1
  · rw [hg _ (by omega)]
    exact VM_vs (by omega) h.2.2.2.2.1
end
