/-! ===== the class: done ===== -/
section
variable {b lim : Nat} {s s' : wt_S} {V V' : vV} {zs zs' : List (vP × Nat)} {fr fr' : List Nat} {t np k : Nat} {v : Int32}
theorem RBt.ch (h : RBt b lim s V zs fr t) (hn : V.1 (4066 + t) = nI np) : Ch b s zs t np := by
  obtain ⟨-, -, k3, k4, -, k6⟩ := h.2.2.2.1.2
  refine ⟨⟨fun e => k3.1 (by rw [hn, e]; rfl), fun z hz hzt hzn => k3.2 z hz hzt (by rw [hn, hzn])⟩, ⟨k4.1, fun hq => k4.2 (fun q hq1 hq2 => ?_)⟩, fun z hz hzt => (k6 z hz hzt).2⟩
  rw [← h.1] at hq1
  obtain ⟨z, hz, rfl⟩ := List.mem_map.mp hq1
  exact hq z hz hq2
theorem RBt.t3 (h : RBt b lim s V zs fr t) (hx : CX b lim) (hj : VJ lim V) (ht : t < 6) : RBt b lim (wt_u s (b + 17 + 2 * t) 3 v) (vs V (3940 + t) v) zs fr t := by
  have hb := hx.b
  obtain ⟨⟨a0, a1, a2⟩, -, ⟨p1, p2⟩, ⟨r1, r2⟩, g, zz⟩ := h.2.2.2.1.2
  have hg : ∀ c, c ≠ b + 17 + 2 * t → wt_u s (b + 17 + 2 * t) 3 v c = s c := fun c hc => wt_u_ne hc
  have hT : ∀ j, j ≠ 3 → wt_u s (b + 17 + 2 * t) 3 v (b + 17 + 2 * t) j = s (b + 17 + 2 * t) j := fun j hj => wt_u_nk hj
  have e5 := hg (b + 5) (by omega)
  have e6 := hg (b + 6) (by omega)
  have hv : ∀ i, i ≠ 3940 + t → (vs V (3940 + t) v).1 i = V.1 i := fun i hi => vs_ne hi
  refine h.op hx hj.1 (OT.vs ht (vown_t (c := 3940) (by omega))) ht (TO.u (by omega) ht) hj.vfr (fun z _ => Iff.rfl) (fun z _ _ => ⟨by rw [e5], by rw [e6]⟩) h.1 (h.2.1.eq (fun c hc => hg c (by omega))) (h.2.2.1.keep (hg _ (by omega)) (hg _ (by omega)) (fun i _ _ => hv i (by omega))) ⟨⟨?_, fun e he => ?_, fun e he => ?_⟩, trivial, ⟨fun e => ?_, fun z hz e q => ?_⟩, ⟨fun z hz e q => ?_, fun e => ?_⟩, fun e => ?_, fun z hz e => ?_⟩ ?_
  · rw [hT _ (by omega)]; exact a0
  · have hk := a1 e he
    have q3 := tf_p e he
    have q4 := tf_i e he (3, 3940) (by decide)
    by_cases c : e.1 = 3
    · have c2 : e.2 = 3940 := q4.mp c
      rw [c, c2, wt_u_self, vs_at]
    · have c2 : e.2 ≠ 3940 := fun x => c (q4.mpr x)
      rw [hT _ c, hv _ (by omega)]; exact hk
  · have q2 := ts_p e he
    have q3 : e.2 ≠ 3940 := fun x => ft_i (3, 3940) (by decide) e he x.symm
    rw [hg _ (by omega), hv _ (by omega)]; exact a2 e he
  · rw [hT _ (by omega)]; exact p1 (by rw [← hv (4066 + t) (by omega)]; exact e)
  · rw [hT _ (by omega)]; exact p2 z hz e (by rw [← hv (4066 + t) (by omega)]; exact q)
  · rw [hT _ (by omega)]; exact r1 z hz e q
  · rw [hT _ (by omega)]; exact r2 e
  · rw [hT _ (by omega), hv _ (by omega)]; exact g (by rw [← hv (3926 + t) (by omega)]; exact e)
  · rw [e5, e6]
    have := zz z hz e
    refine ⟨?_, this.2⟩
    show s (b + 5) z.2 = nI (vud (vs V (3940 + t) v).1 (V.2.2.2 t) z.1.2.2.2 (V.2.2.1 t))
    rw [vud_pe (w := V.1) (fun i hi => hv i (by omega)) (fun i hi => (hj.fit ht hi).1)]
    exact this.1
  · rw [hg _ (by omega)]
    exact VM_vs (by omega) h.2.2.2.2.1
theorem c_endL (h : RBt b lim s V zs fr t) (hx : CX b lim) (hj : VJ lim V) (ht : t < 6) (hn : V.1 (4066 + t) = nI np) (hnp : np ≤ 256) (hit : Itp V.2.1 t np) (hst : V.1 (3926 + t) ≠ 0) (hsd : V.1 (3989 + t) = -1 ∨ ∃ k, k < 3 ∧ V.1 (3989 + t) = nI k ∧ V.1 (3923 + k) = nI t) : ∃ s' zs' fr', (wt_wr s (b + 17 + 2 * t) 3 v fun s10 => (wt_cl (gX2_end b (b + 17 + 2 * t) s10 3) fun _ s11 => some ((), s11))) = some ((), s') ∧ RC b lim s' (vlg1 (vcn (vs (vga (vs V (3940 + t) v) t) (3926 + t) 3) 0 1)) zs' fr' ∧ TO b t s s' := by
  have h' := h.t3 (v := v) hx hj ht
  have hj' : VJ lim (vs V (3940 + t) v) := VJ.vs hj (by omega)
  have hv : ∀ i, i ≠ 3940 + t → (vs V (3940 + t) v).1 i = V.1 i := fun i hi => vs_ne hi
  have hsd2 : (vs V (3940 + t) v).1 (3989 + t) = -1 ∨ ∃ k, k < 3 ∧ (vs V (3940 + t) v).1 (3989 + t) = nI k ∧ (vs V (3940 + t) v).1 (3923 + k) = nI t := by
    rw [hv _ (by omega)]
    rcases hsd with e | ⟨k, e1, e2, e3⟩
    · exact Or.inl e
    · exact Or.inr ⟨k, e1, e2, by rw [hv _ (by omega)]; exact e3⟩
  have hsd3 : (vs V (3940 + t) v).1 (3989 + t) = -1 ∨ ∃ k, k < 3 ∧ (vs V (3940 + t) v).1 (3989 + t) = nI k := by
    rcases hsd2 with e | ⟨k, e1, e2, -⟩
    · exact Or.inl e
    · exact Or.inr ⟨k, e1, e2⟩
  obtain ⟨s', zs', fr', a1, a2, a3⟩ := c_end (V := vs V (3940 + t) v) (st := 3) (k := 0) (Or.inl ⟨rfl, rfl⟩) hx ht hj'.1 hj'.vfr h'.2.1 h'.1 hj'.2.1 hj'.2.2.1 hit hnp (h'.ch ((hv _ (by omega)).trans hn)) rfl h'.2.2.1 h'.2.2.2.1.1 h'.2.2.2.1.2.1 (h'.2.2.2.1.2.2.2.2.2.1 (by rw [hv _ (by omega)]; exact hst)) (VM.ga hj' ht h'.2.2.2.2.1 hsd3) h'.2.2.2.2.2 hsd2
  exact ⟨s', zs', fr', by rw [wr_eq, a1, cl_some], a2, (TO.u (by omega) ht).trans a3⟩
end
