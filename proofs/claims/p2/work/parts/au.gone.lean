/-! ===== the class: the last frame goes ===== -/
section
variable {b lim : Nat} {s s' : wt_S} {V V' : vV} {zs zs' : List (vP × Nat)} {fr fr' : List Nat} {t np k n m : Nat}
/-- the picture without the last frame -/
def vgn (V : vV) (t : Nat) : vV := vnf (vs (vs V (3961 + t) (V.1 (3961 + t) - (V.1 (2228 + (vlf V t).1) + 2))) (3954 + t) (V.1 (3954 + t) - 1)) t (V.2.2.1 t - 1)
theorem c_gone (h : RC b lim s V zs fr) (hx : CX b lim) (hj : VJ lim V) (ht : t < 6) (h0 : 0 < V.2.2.1 t) {y : vP × Nat} (hy : y ∈ zs) (y1 : y.1.2.2.1 = t) (y2 : y.1.2.2.2 = (vlf V t).2.1) : RBt b lim (wt_u (wt_u (wt_u s (b + 5) y.2 (s (b + 5) y.2 + -(nI (vwd V.1 (vlf V t).1)))) (b + 17 + 2 * t) 5 (s (b + 17 + 2 * t) 5 - nI (vwd V.1 (vlf V t).1))) (b + 17 + 2 * t) 4 (s (b + 17 + 2 * t) 4 - 1)) (vgn V t) zs fr t := by
  have hb := hx.b
  obtain ⟨m, hm⟩ : ∃ m, V.2.2.1 t = m + 1 := ⟨V.2.2.1 t - 1, by omega⟩
  have hlf : vlf V t = V.2.2.2 t m := by unfold vlf; rw [hm, Nat.add_sub_cancel]
  have hft : (vlf V t).1 < 10 := by rw [hlf]; exact hj.vfr t ht m (by omega)
  have hwd := hj.1.wd hft
  obtain ⟨⟨a0, a1, a2⟩, -, ⟨p1, p2⟩, ⟨r1, r2⟩, g, zz⟩ := h.2.2.2.1 t ht
  have e4 : s (b + 17 + 2 * t) 4 = V.1 (3954 + t) := a1 (4, 3954) (by decide)
  have e5 : s (b + 17 + 2 * t) 5 = V.1 (3961 + t) := a1 (5, 3961) (by decide)
  have hv : ∀ i, i ≠ 3961 + t → i ≠ 3954 + t → (vgn V t).1 i = V.1 i := fun i i1 i2 => (vs_ne i2).trans (vs_ne i1)
  have hv4 : (vgn V t).1 (3954 + t) = V.1 (3954 + t) - 1 := vs_at
  have hv5 : (vgn V t).1 (3961 + t) = V.1 (3961 + t) - nI (vwd V.1 (vlf V t).1) := by rw [← hwd.1]; exact (vs_ne (by omega)).trans vs_at
  have hw : vpe V.1 (vgn V t).1 := fun i hi => hv i (by omega) (by omega)
  have hn1 : (vgn V t).2.2.1 t = m := by show mj_upd V.2.2.1 t (V.2.2.1 t - 1) t = m; rw [mj_upd_self, hm, Nat.add_sub_cancel]
  generalize hS : wt_u (wt_u (wt_u s (b + 5) y.2 (s (b + 5) y.2 + -(nI (vwd V.1 (vlf V t).1)))) (b + 17 + 2 * t) 5 (s (b + 17 + 2 * t) 5 - nI (vwd V.1 (vlf V t).1))) (b + 17 + 2 * t) 4 (s (b + 17 + 2 * t) 4 - 1) = S
  have hc : ∀ c, c ≠ b + 5 → c ≠ b + 17 + 2 * t → S c = s c := fun c c1 c2 => by rw [← hS, wt_u_ne c2, wt_u_ne c2, wt_u_ne c1]
  have tj : ∀ j, j ≠ 4 → j ≠ 5 → S (b + 17 + 2 * t) j = s (b + 17 + 2 * t) j := fun j j4 j5 => by rw [← hS, wt_u_nk j4, wt_u_nk j5, wt_u_ne (by omega)]
  have t4 : S (b + 17 + 2 * t) 4 = V.1 (3954 + t) - 1 := by rw [← hS, wt_u_self, e4]
  have t5 : S (b + 17 + 2 * t) 5 = V.1 (3961 + t) - nI (vwd V.1 (vlf V t).1) := by rw [← hS, wt_u_nk (by omega), wt_u_self, e5]
  have c5 : ∀ x, x ≠ y.2 → S (b + 5) x = s (b + 5) x := fun x hx => by rw [← hS, wt_u_ne (by omega), wt_u_ne (by omega), wt_u_nk hx]
  have c5y : S (b + 5) y.2 = s (b + 5) y.2 + -(nI (vwd V.1 (vlf V t).1)) := by rw [← hS, wt_u_ne (by omega), wt_u_ne (by omega), wt_u_self]
  have h6 : S (b + 6) = s (b + 6) := hc _ (by omega) (by omega)
  have hto : TO b t s S := by rw [← hS]; exact ((TO.u (by omega) ht).trans (TO.u (by omega) ht)).trans (TO.u (by omega) ht)
  have hot : OT t V (vgn V t) := ((OT.vs ht (vown_t (c := 3961) (by omega))).trans (OT.vs ht (vown_t (c := 3954) (by omega)))).trans OT.nf
  refine h.op1 hx hj.1 hot ht hto hj.vfr (fun z _ => Iff.rfl) (fun z hz hzt => ⟨c5 _ (fun e => hzt (by rw [h.2.1.inj hz hy e]; exact y1)), by rw [h6]⟩) h.1 (h.2.1.eq (fun c hc' => hc c (by omega) (by omega))) (h.2.2.1.keep (hc _ (by omega) (by omega)) (hc _ (by omega) (by omega)) (fun i _ _ => hv i (by omega) (by omega))) ⟨⟨?_, fun e he => ?_, fun e he => ?_⟩, trivial, ⟨?_, fun z hz e q => ?_⟩, ⟨fun z hz e q => ?_, fun e => ?_⟩, ?_, fun z hz e => ?_⟩ ?_
  · rw [tj _ (by omega) (by omega)]; exact a0
  · have hk := a1 e he
    simp only [tf, List.mem_cons, List.not_mem_nil, or_false] at he
    rcases he with rfl | rfl | rfl | rfl | rfl | rfl | rfl | rfl | rfl | rfl
    · rw [tj _ (by omega) (by omega), hv _ (by omega) (by omega)]; exact hk
    · rw [tj _ (by omega) (by omega), hv _ (by omega) (by omega)]; exact hk
    · rw [tj _ (by omega) (by omega), hv _ (by omega) (by omega)]; exact hk
    · exact t4.trans hv4.symm
    · exact t5.trans hv5.symm
    · rw [tj _ (by omega) (by omega), hv _ (by omega) (by omega)]; exact hk
    · rw [tj _ (by omega) (by omega), hv _ (by omega) (by omega)]; exact hk
    · rw [tj _ (by omega) (by omega), hv _ (by omega) (by omega)]; exact hk
    · rw [tj _ (by omega) (by omega), hv _ (by omega) (by omega)]; exact hk
    · rw [tj _ (by omega) (by omega), hv _ (by omega) (by omega)]; exact hk
  · have hk := a2 e he
    simp only [ts, List.mem_cons, List.not_mem_nil, or_false] at he
    rcases he with rfl | rfl | rfl | rfl | rfl | rfl | rfl <;> (rw [hc _ (by omega) (by omega), hv _ (by omega) (by omega)]; exact hk)
  · rw [tj _ (by omega) (by omega), hv _ (by omega) (by omega)]; exact p1
  · rw [tj _ (by omega) (by omega)]; rw [hv _ (by omega) (by omega)] at q; exact p2 z hz e q
  · rw [tj _ (by omega) (by omega)]; exact r1 z hz e q
  · rw [tj _ (by omega) (by omega)]; exact r2 e
  · unfold Kg
    rw [tj _ (by omega) (by omega), hv _ (by omega) (by omega), hv _ (by omega) (by omega)]; exact g
  · obtain ⟨q1, q2, q3⟩ := zz z hz e
    rw [h6, hn1]
    refine ⟨?_, q2, q3⟩
    show S (b + 5) z.2 = nI (vud (vgn V t).1 (V.2.2.2 t) z.1.2.2.2 m)
    rw [vud_pe (w := V.1) hw (fun i hi => hj.vfr t ht i (by omega))]
    rw [hm] at q1
    have q1 : s (b + 5) z.2 = nI (vud V.1 (V.2.2.2 t) z.1.2.2.2 m + if (V.2.2.2 t m).2.1 = z.1.2.2.2 then vwd V.1 (V.2.2.2 t m).1 else 0) := q1
    by_cases c : z.2 = y.2
    · have hzy := h.2.1.inj hz hy c
      subst hzy
      rw [c5y, q1, if_pos (by rw [← hlf]; exact y2.symm), hlf, ← Int32.sub_eq_add_neg, nI_sub (by omega), Nat.add_sub_cancel]
    · rw [c5 _ c, q1, if_neg (fun q => c (by rw [zuniq h.1 hj.2.2.1 hz hy (e.trans y1.symm) (q.symm.trans (by rw [y2, hlf]))])), Nat.add_zero]
  · rw [hc _ (by omega) (by omega)]
    refine VM.ps hj h.2.2.2.2.1 (fun i i1 i2 => hv i (by omega) (by omega)) (fun t' ht' => ⟨?_, fun i hi => ⟨rfl, rfl⟩⟩)
    by_cases c : t' = t
    · subst c; rw [hn1]; omega
    · show mj_upd V.2.2.1 t (V.2.2.1 t - 1) t' ≤ _
      rw [mj_upd_ne c]
      exact Nat.le_refl _
end
