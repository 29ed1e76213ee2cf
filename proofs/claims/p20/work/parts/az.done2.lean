section
/-! ===== the class: done ===== -/
section
variable {b lim : Nat} {s s' : wt_S} {V V' : vV} {zs zs' : List (vP × Nat)} {fr fr' : List Nat} {t np k : Nat} {v : Int32}
theorem RBt.ch (h : RBt b lim s V zs fr t) (hn : V.1 (4066 + t) = nI np) : Ch b s zs t np := by
  obtain ⟨-, -, k3, k4, -, k6⟩ := h.2.2.2.1.2
  refine ⟨⟨fun e => k3.1 (by rw [hn, e]; rfl), fun z hz hzt hzn => k3.2 z hz hzt (by rw [hn, hzn])⟩, ⟨k4.1, fun hq => k4.2 (fun q hq1 hq2 => ?_)⟩, fun z hz hzt => (k6 z hz hzt).2⟩
  rw [← h.1] at hq1
  obtain ⟨z, hz, rfl⟩ := List.mem_map.mp hq1
  exact hq z hz hq2
theorem RBt.t3 (h : RBt b lim s V zs fr t) (hx : CX b lim) (hj : VJ lim V) (ht : t < 6) : RBt b lim (wt_u s (b + 17 + 2 * t) 3 v) (vs V (3940 + t) v) zs fr t := by
  have hb := hx.b
  obtain ⟨⟨a0, a1, a2⟩, -, ⟨p1, p2⟩, ⟨r1, r2⟩, g, zz⟩ := h.2.2.2.1.2
  have hg : ∀ c, c ≠ b + 17 + 2 * t → wt_u s (b + 17 + 2 * t) 3 v c = s c := fun c hc => wt_u_ne hc
  have hT : ∀ j, j ≠ 3 → wt_u s (b + 17 + 2 * t) 3 v (b + 17 + 2 * t) j = s (b + 17 + 2 * t) j := fun j hj => wt_u_nk hj
  have e5 := hg (b + 5) (by omega)
  have e6 := hg (b + 6) (by omega)
  have hv : ∀ i, i ≠ 3940 + t → (vs V (3940 + t) v).1 i = V.1 i := fun i hi => vs_ne hi
  refine h.op hx hj.1 (OT.vs ht (vown_t (c := 3940) (by omega))) ht (TO.u (by omega) ht) hj.vfr (fun z _ => Iff.rfl) (fun z _ _ => ⟨by rw [e5], by rw [e6]⟩) h.1 (h.2.1.eq (fun c hc => hg c (by omega))) (h.2.2.1.keep (hg _ (by omega)) (hg _ (by omega)) (fun i _ _ => hv i (by omega))) ⟨⟨?_, fun e he => ?_, fun e he => ?_⟩, trivial, ⟨fun e => ?_, fun z hz e q => ?_⟩, ⟨fun z hz e q => ?_, fun e => ?_⟩, fun e => ?_, fun z hz e => ?_⟩ ?_
  · rw [hT _ (by omega)]; exact a0
  · have hk := a1 e he
    have q3 := tf_p e he
    have q4 := tf_i e he (3, 3940) (by decide)
    by_cases c : e.1 = 3
    · have c2 : e.2 = 3940 := q4.mp c
      rw [c, c2, wt_u_self, vs_at]
    · have c2 : e.2 ≠ 3940 := fun x => c (q4.mpr x)
      rw [hT _ c, hv _ (by omega)]; exact hk
  · have q2 := ts_p e he
    have q3 : e.2 ≠ 3940 := fun x => ft_i (3, 3940) (by decide) e he x.symm
    rw [hg _ (by omega), hv _ (by omega)]; exact a2 e he
  · rw [hT _ (by omega)]; exact p1 (by rw [← hv (4066 + t) (by omega)]; exact e)
  · rw [hT _ (by omega)]; exact p2 z hz e (by rw [← hv (4066 + t) (by omega)]; exact q)
  · rw [hT _ (by omega)]; exact r1 z hz e q
  · rw [hT _ (by omega)]; exact r2 e
  · rw [hT _ (by omega), hv _ (by omega)]; exact g (by rw [← hv (3926 + t) (by omega)]; exact e)
  · rw [e5, e6]
    have := zz z hz e
    refine ⟨?_, this.2⟩
    show s (b + 5) z.2 = nI (vud (vs V (3940 + t) v).1 (V.2.2.2 t) z.1.2.2.2 (V.2.2.1 t))
    rw [vud_pe (w := V.1) (fun i hi => hv i (by omega)) (fun i hi => (hj.fit ht hi).1)]
    exact this.1
  · rw [hg _ (by omega)]
    exact VM_vs (by omega) h.2.2.2.2.1
theorem c_endL (h : RBt b lim s V zs fr t) (hx : CX b lim) (hj : VJ lim V) (ht : t < 6) (hn : V.1 (4066 + t) = nI np) (hnp : np ≤ 256) (hit : Itp V.2.1 t np) (hst : V.1 (3926 + t) ≠ 0) (hsd : V.1 (3989 + t) = -1 ∨ ∃ k, k < 3 ∧ V.1 (3989 + t) = nI k ∧ V.1 (3923 + k) = nI t) : ∃ s' zs' fr', (wt_wr s (b + 17 + 2 * t) 3 v fun s10 => (wt_cl (gX2_end b (b + 17 + 2 * t) s10 3) fun _ s11 => some ((), s11))) = some ((), s') ∧ RC b lim s' (vlg1 (vcn (vs (vga (vs V (3940 + t) v) t) (3926 + t) 3) 0 1)) zs' fr' ∧ TO b t s s' := by
  have h' := h.t3 (v := v) hx hj ht
  have hj' : VJ lim (vs V (3940 + t) v) := VJ.vs hj (by omega)
  have hv : ∀ i, i ≠ 3940 + t → (vs V (3940 + t) v).1 i = V.1 i := fun i hi => vs_ne hi
  have hsd2 : (vs V (3940 + t) v).1 (3989 + t) = -1 ∨ ∃ k, k < 3 ∧ (vs V (3940 + t) v).1 (3989 + t) = nI k ∧ (vs V (3940 + t) v).1 (3923 + k) = nI t := by
    rw [hv _ (by omega)]
    rcases hsd with e | ⟨k, e1, e2, e3⟩
    · exact Or.inl e
    · exact Or.inr ⟨k, e1, e2, by rw [hv _ (by omega)]; exact e3⟩
  have hsd3 : (vs V (3940 + t) v).1 (3989 + t) = -1 ∨ ∃ k, k < 3 ∧ (vs V (3940 + t) v).1 (3989 + t) = nI k := by
    rcases hsd2 with e | ⟨k, e1, e2, -⟩
    · exact Or.inl e
    · exact Or.inr ⟨k, e1, e2⟩
  obtain ⟨s', zs', fr', a1, a2, a3⟩ := c_end (V := vs V (3940 + t) v) (st := 3) (k := 0) (Or.inl ⟨rfl, rfl⟩) hx ht hj'.1 hj'.vfr h'.2.1 h'.1 hj'.2.1 hj'.2.2.1 hit hnp (h'.ch ((hv _ (by omega)).trans hn)) rfl h'.2.2.1 h'.2.2.2.1.1 h'.2.2.2.1.2.1 (h'.2.2.2.1.2.2.2.2.2.1 (by rw [hv _ (by omega)]; exact hst)) (VM.ga hj' ht h'.2.2.2.2.1 hsd3) h'.2.2.2.2.2 hsd2
  exact ⟨s', zs', fr', by rw [wr_eq, a1, cl_some], a2, (TO.u (by omega) ht).trans a3⟩
end
end
section
/-! ===== the class: the last frame goes, whatever LINE is ===== -/
section
variable {b lim : Nat} {s s' : wt_S} {V V' : vV} {zs zs' : List (vP × Nat)} {fr fr' : List Nat} {t np k n m z : Nat} {v : Int32} {Z : (Nat → Int32) → Int32 → Int32 → Int32 → Bool}
theorem RC.bt (h : RC b lim s V zs fr) (ht : t < 6) : RBt b lim s V zs fr t := by
  obtain ⟨h1, h2, h3, h4, h5, h6⟩ := h
  obtain ⟨k1, -, k3, k4, k5, k6⟩ := h4 t ht
  exact ⟨h1, h2, h3, ⟨fun k hk _ => h4 k hk, k1, trivial, k3, k4, k5, k6⟩, h5, h6⟩
theorem RBt.l10 (h : RBt b lim s V zs fr t) (hx : CX b lim) (ht : t < 6) : RBt b lim (wt_u s (b + 17 + 2 * t) 10 v) V zs fr t := by
  have hb := hx.b
  obtain ⟨h1, h2, h3, ⟨ho, ⟨a0, a1, a2⟩, -, ⟨p1, p2⟩, ⟨r1, r2⟩, g, zz⟩, h5, h6⟩ := h
  have hg : ∀ c, c ≠ b + 17 + 2 * t → wt_u s (b + 17 + 2 * t) 10 v c = s c := fun c hc => wt_u_ne hc
  have hT : ∀ j, j ≠ 10 → wt_u s (b + 17 + 2 * t) 10 v (b + 17 + 2 * t) j = s (b + 17 + 2 * t) j := fun j hj => wt_u_nk hj
  refine ⟨h1, h2.eq (fun c hc => hg c (by omega)), ⟨fun j hj => ?_, fun j hj => ?_⟩, ⟨fun k hk hne => ?_, ⟨?_, fun e he => ?_, fun e he => ?_⟩, trivial, ⟨?_, ?_⟩, ⟨?_, ?_⟩, ?_, fun z hz hzt => ?_⟩, ?_, ⟨fun f hf => ?_, fun j hj => ?_⟩⟩
  · rw [hg _ (by omega)]; exact h3.1 j hj
  · rw [hg _ (by omega)]; exact h3.2 j hj
  · have := ho k hk hne
    unfold RCk Ks Kl Ka Kr Kg Kz at this ⊢
    rw [hg (b + 17 + 2 * k) (by omega), hg (b + 17 + 2 * k + 1) (by omega), hg (b + 5) (by omega), hg (b + 6) (by omega)]
    exact this
  · rw [hT _ (by omega)]; exact a0
  · have := tf_n e he
    rw [hT _ (by omega)]; exact a1 e he
  · rw [hg _ (by omega)]; exact a2 e he
  · rw [hT _ (by omega)]; exact p1
  · rw [hT _ (by omega)]; exact p2
  · rw [hT _ (by omega)]; exact r1
  · rw [hT _ (by omega)]; exact r2
  · unfold Kg
    rw [hT _ (by omega)]; exact g
  · rw [hg (b + 5) (by omega), hg (b + 6) (by omega)]; exact zz z hz hzt
  · rw [hg _ (by omega)]; exact h5
  · rw [hg (5 + 1) (by omega), hg (5 + 2) (by omega), hg (5 + 3) (by omega), hg (5 + 5) (by omega)]; exact h6.1 f hf
  · rw [hg (5 + 4) (by omega)]; exact h6.2 j hj
theorem c_goneL (h : RBt b lim s V zs fr t) (hx : CX b lim) (hj : VJ lim V) (ht : t < 6) (h0 : 0 < V.2.2.1 t) {y : vP × Nat} (hy : y ∈ zs) (y1 : y.1.2.2.1 = t) (y2 : y.1.2.2.2 = (vlf V t).2.1) : RBt b lim (wt_u (wt_u (wt_u s (b + 5) y.2 (s (b + 5) y.2 + -(nI (vwd V.1 (vlf V t).1)))) (b + 17 + 2 * t) 5 (s (b + 17 + 2 * t) 5 - nI (vwd V.1 (vlf V t).1))) (b + 17 + 2 * t) 4 (s (b + 17 + 2 * t) 4 - 1)) (vgn V t) zs fr t := by
  have hb := hx.b
  obtain ⟨m, hm⟩ : ∃ m, V.2.2.1 t = m + 1 := ⟨V.2.2.1 t - 1, by omega⟩
  have hlf : vlf V t = V.2.2.2 t m := by unfold vlf; rw [hm, Nat.add_sub_cancel]
  have hft : (vlf V t).1 < 10 := by rw [hlf]; exact hj.vfr t ht m (by omega)
  have hwd := hj.1.wd hft
  obtain ⟨⟨a0, a1, a2⟩, -, ⟨p1, p2⟩, ⟨r1, r2⟩, g, zz⟩ := h.2.2.2.1.2
  have e4 : s (b + 17 + 2 * t) 4 = V.1 (3954 + t) := a1 (4, 3954) (by decide)
  have e5 : s (b + 17 + 2 * t) 5 = V.1 (3961 + t) := a1 (5, 3961) (by decide)
  have hv : ∀ i, i ≠ 3961 + t → i ≠ 3954 + t → (vgn V t).1 i = V.1 i := fun i i1 i2 => (vs_ne i2).trans (vs_ne i1)
  have hv4 : (vgn V t).1 (3954 + t) = V.1 (3954 + t) - 1 := vs_at
  have hv5 : (vgn V t).1 (3961 + t) = V.1 (3961 + t) - nI (vwd V.1 (vlf V t).1) := by rw [← hwd.1]; exact (vs_ne (by omega)).trans vs_at
  have hw : vpe V.1 (vgn V t).1 := fun i hi => hv i (by omega) (by omega)
  have hn1 : (vgn V t).2.2.1 t = m := by show mj_upd V.2.2.1 t (V.2.2.1 t - 1) t = m; rw [mj_upd_self, hm, Nat.add_sub_cancel]
  generalize hS : wt_u (wt_u (wt_u s (b + 5) y.2 (s (b + 5) y.2 + -(nI (vwd V.1 (vlf V t).1)))) (b + 17 + 2 * t) 5 (s (b + 17 + 2 * t) 5 - nI (vwd V.1 (vlf V t).1))) (b + 17 + 2 * t) 4 (s (b + 17 + 2 * t) 4 - 1) = S
  have hc : ∀ c, c ≠ b + 5 → c ≠ b + 17 + 2 * t → S c = s c := fun c c1 c2 => by rw [← hS, wt_u_ne c2, wt_u_ne c2, wt_u_ne c1]
  have tj : ∀ j, j ≠ 4 → j ≠ 5 → S (b + 17 + 2 * t) j = s (b + 17 + 2 * t) j := fun j j4 j5 => by rw [← hS, wt_u_nk j4, wt_u_nk j5, wt_u_ne (by omega)]
  have t4 : S (b + 17 + 2 * t) 4 = V.1 (3954 + t) - 1 := by rw [← hS, wt_u_self, e4]
  have t5 : S (b + 17 + 2 * t) 5 = V.1 (3961 + t) - nI (vwd V.1 (vlf V t).1) := by rw [← hS, wt_u_nk (by omega), wt_u_self, e5]
  have c5 : ∀ x, x ≠ y.2 → S (b + 5) x = s (b + 5) x := fun x hx => by rw [← hS, wt_u_ne (by omega), wt_u_ne (by omega), wt_u_nk hx]
  have c5y : S (b + 5) y.2 = s (b + 5) y.2 + -(nI (vwd V.1 (vlf V t).1)) := by rw [← hS, wt_u_ne (by omega), wt_u_ne (by omega), wt_u_self]
  have h6 : S (b + 6) = s (b + 6) := hc _ (by omega) (by omega)
  have hto : TO b t s S := by rw [← hS]; exact ((TO.u (by omega) ht).trans (TO.u (by omega) ht)).trans (TO.u (by omega) ht)
  have hot : OT t V (vgn V t) := ((OT.vs ht (vown_t (c := 3961) (by omega))).trans (OT.vs ht (vown_t (c := 3954) (by omega)))).trans OT.nf
  refine h.op hx hj.1 hot ht hto hj.vfr (fun z _ => Iff.rfl) (fun z hz hzt => ⟨c5 _ (fun e => hzt (by rw [h.2.1.inj hz hy e]; exact y1)), by rw [h6]⟩) h.1 (h.2.1.eq (fun c hc' => hc c (by omega) (by omega))) (h.2.2.1.keep (hc _ (by omega) (by omega)) (hc _ (by omega) (by omega)) (fun i _ _ => hv i (by omega) (by omega))) ⟨⟨?_, fun e he => ?_, fun e he => ?_⟩, trivial, ⟨?_, fun z hz e q => ?_⟩, ⟨fun z hz e q => ?_, fun e => ?_⟩, ?_, fun z hz e => ?_⟩ ?_
  · rw [tj _ (by omega) (by omega)]; exact a0
  · have hk := a1 e he
    simp only [tf, List.mem_cons, List.not_mem_nil, or_false] at he
    rcases he with rfl | rfl | rfl | rfl | rfl | rfl | rfl | rfl | rfl | rfl
    · rw [tj _ (by omega) (by omega), hv _ (by omega) (by omega)]; exact hk
    · rw [tj _ (by omega) (by omega), hv _ (by omega) (by omega)]; exact hk
    · rw [tj _ (by omega) (by omega), hv _ (by omega) (by omega)]; exact hk
    · exact t4.trans hv4.symm
    · exact t5.trans hv5.symm
    · rw [tj _ (by omega) (by omega), hv _ (by omega) (by omega)]; exact hk
    · rw [tj _ (by omega) (by omega), hv _ (by omega) (by omega)]; exact hk
    · rw [tj _ (by omega) (by omega), hv _ (by omega) (by omega)]; exact hk
    · rw [tj _ (by omega) (by omega), hv _ (by omega) (by omega)]; exact hk
    · rw [tj _ (by omega) (by omega), hv _ (by omega) (by omega)]; exact hk
  · have hk := a2 e he
    simp only [ts, List.mem_cons, List.not_mem_nil, or_false] at he
    rcases he with rfl | rfl | rfl | rfl | rfl | rfl | rfl <;> (rw [hc _ (by omega) (by omega), hv _ (by omega) (by omega)]; exact hk)
  · rw [tj _ (by omega) (by omega), hv _ (by omega) (by omega)]; exact p1
  · rw [tj _ (by omega) (by omega)]; rw [hv _ (by omega) (by omega)] at q; exact p2 z hz e q
  · rw [tj _ (by omega) (by omega)]; exact r1 z hz e q
  · rw [tj _ (by omega) (by omega)]; exact r2 e
  · unfold Kg
    rw [tj _ (by omega) (by omega), hv _ (by omega) (by omega), hv _ (by omega) (by omega)]; exact g
  · obtain ⟨q1, q2, q3⟩ := zz z hz e
    rw [h6, hn1]
    refine ⟨?_, q2, q3⟩
    show S (b + 5) z.2 = nI (vud (vgn V t).1 (V.2.2.2 t) z.1.2.2.2 m)
    rw [vud_pe (w := V.1) hw (fun i hi => hj.vfr t ht i (by omega))]
    rw [hm] at q1
    have q1 : s (b + 5) z.2 = nI (vud V.1 (V.2.2.2 t) z.1.2.2.2 m + if (V.2.2.2 t m).2.1 = z.1.2.2.2 then vwd V.1 (V.2.2.2 t m).1 else 0) := q1
    by_cases c : z.2 = y.2
    · have hzy := h.2.1.inj hz hy c
      subst hzy
      rw [c5y, q1, if_pos (by rw [← hlf]; exact y2.symm), hlf, ← Int32.sub_eq_add_neg, nI_sub (by omega), Nat.add_sub_cancel]
    · rw [c5 _ c, q1, if_neg (fun q => c (by rw [zuniq h.1 hj.2.2.1 hz hy (e.trans y1.symm) (q.symm.trans (by rw [y2, hlf]))])), Nat.add_zero]
  · rw [hc _ (by omega) (by omega)]
    refine VM.ps hj h.2.2.2.2.1 (fun i i1 i2 => hv i (by omega) (by omega)) (fun t' ht' => ⟨?_, fun i hi => ⟨rfl, rfl⟩⟩)
    by_cases c : t' = t
    · subst c; rw [hn1]; omega
    · show mj_upd V.2.2.1 t (V.2.2.1 t - 1) t' ≤ _
      rw [mj_upd_ne c]
      exact Nat.le_refl _
theorem c_leaveL (h : RBt b lim s V zs fr t) (t11 : s (b + 17 + 2 * t) 11 = nI (vpl V t (V.2.2.1 t - 1))) (hx : CX b lim) (hP : Vpre lim V t np z) (hn : V.2.2.1 t = m + 2) (hhot : V.1 2049 = 0 ∨ V.1 2049 = 1) (hk : V.1 2067 = nI k) (hef : 2048 ≤ (V.2.2.2 t (m + 1)).2.2.2.1 → ∃ ks mm, ks < 3 ∧ V.1 (3989 + t) = nI ks ∧ V.1 (3996 + t) - V.1 (vco (V.2.2.2 t m).1 ((V.2.2.2 t (m + 1)).2.2.2.1 % 32 - 1) + 1) = nI mm ∧ mm < 2147483648) : ∃ s' zs' fr', gX2_leaveFrame b (b + 17 + 2 * t) s v = some ((), s') ∧ RC b lim s' (vrt Z V t v) zs' fr' ∧ TO b t s s' := by
  have hb := hx.b
  have hxm := hx.m
  obtain ⟨hj, hc, ht, hz, h8, hzl, hl, hl2, hq⟩ := hP
  obtain ⟨n1, n2, n3⟩ := hc.mn
  obtain ⟨d1, d2, d3, d4, d5⟩ := hc.2.2.2.2.2.2.1 (by omega)
  rw [hn] at d1 d2 d3 d4 d5
  rw [show m + 2 - 1 = m + 1 from rfl] at d2 d4 d5
  have hlf : vlf V t = V.2.2.2 t (m + 1) := by unfold vlf; rw [hn]; rfl
  have hfit := hj.fit ht (show m + 1 < V.2.2.1 t by omega)
  have hp8 := hfit.2.2
  unfold vwd at hp8
  obtain ⟨M0, M1, M2, M3⟩ := h.2.2.2.2.1 t ht (m + 1) (by omega)
  have hbk := d3.bk (i := m + 1) (by omega)
  obtain ⟨b1, b2, b3, b4, b5⟩ := d3.2.2.1 m (by omega)
  have hud := d1.ud (m + 1) (by omega)
  rw [hn] at t11
  have t11 : s (b + 17 + 2 * t) 11 = nI (vpl V t (m + 1)) := t11
  have t9 : s (b + 17 + 2 * t) 9 = nI (V.2.2.2 t (m + 1)).1 := (h.2.2.2.1.2.1.2.1 (9, 3975) (by decide)).trans d5
  obtain ⟨-, y, -, y2, y3, y4, -⟩ := zfind (t := t) (n := np - 1) h.1 hj.2.2.1 (hc.2.2.2.1.1 (np - 1) (by omega))
  have e12 : s (b + 17 + 2 * t) 12 = nI y.2 := (h.ch (np := np) n1).1.2 y y2 y3 (by omega)
  have hid := (h.2.1.mem y2).1
  have hG := c_goneL h hx hj ht (by omega) y2 y3 (by rw [hlf, d2, y4])
  rw [hlf] at hG
  unfold gX2_leaveFrame
  rw [t11, c_word (by omega), cl_some, M1, if_neg (by omega), t11, show nI (vpl V t (m + 1)) + 1 = nI (vpl V t (m + 1) + 1) from nI_add _ 1, c_word (by omega), cl_some, M2, t9, c_frameWords h.2.2.2.2.2 hj.1 hfit.1, cl_some, e12, c_use hid, cl_some, wr_eq, wr_eq, wt_u_ne (show b + 17 + 2 * t ≠ b + 5 by omega), wt_u_nk (show 4 ≠ 5 by omega), wt_u_ne (show b + 17 + 2 * t ≠ b + 5 by omega)]
  have hto : TO b t s (wt_u (wt_u (wt_u s (b + 5) y.2 (s (b + 5) y.2 + -(nI (vwd V.1 (V.2.2.2 t (m + 1)).1)))) (b + 17 + 2 * t) 5 (s (b + 17 + 2 * t) 5 - nI (vwd V.1 (V.2.2.2 t (m + 1)).1))) (b + 17 + 2 * t) 4 (s (b + 17 + 2 * t) 4 - 1)) := ((TO.u (by omega) ht).trans (TO.u (by omega) ht)).trans (TO.u (by omega) ht)
  have e12' : (wt_u (wt_u (wt_u s (b + 5) y.2 (s (b + 5) y.2 + -(nI (vwd V.1 (V.2.2.2 t (m + 1)).1)))) (b + 17 + 2 * t) 5 (s (b + 17 + 2 * t) 5 - nI (vwd V.1 (V.2.2.2 t (m + 1)).1))) (b + 17 + 2 * t) 4 (s (b + 17 + 2 * t) 4 - 1)) (b + 17 + 2 * t) 12 = nI y.2 := by rw [wt_u_nk (by omega), wt_u_nk (by omega), wt_u_ne (by omega)]; exact e12
  generalize (wt_u (wt_u (wt_u s (b + 5) y.2 (s (b + 5) y.2 + -(nI (vwd V.1 (V.2.2.2 t (m + 1)).1)))) (b + 17 + 2 * t) 5 (s (b + 17 + 2 * t) 5 - nI (vwd V.1 (V.2.2.2 t (m + 1)).1))) (b + 17 + 2 * t) 4 (s (b + 17 + 2 * t) 4 - 1)) = S at *
  have hv : ∀ i, i ≠ 3961 + t → i ≠ 3954 + t → (vgn V t).1 i = V.1 i := fun i i1 i2 => (vs_ne i2).trans (vs_ne i1)
  have hw : vpe V.1 (vgn V t).1 := fun i hi => hv i (by omega) (by omega)
  have hn1 : (vgn V t).2.2.1 t = m + 1 := by show mj_upd V.2.2.1 t (V.2.2.1 t - 1) t = m + 1; rw [mj_upd_self, hn]; rfl
  have hf1 : (vgn V t).2.2.2 = V.2.2.2 := rfl
  have hp1 : (vgn V t).2.1 = V.2.1 := rfl
  have hj1 : VJ lim (vgn V t) := VJ.nf (VJ.vs (VJ.vs hj (by omega)) (by omega)) (by show V.2.2.1 t - 1 ≤ V.2.2.1 t; omega)
  have hvrt : vrt Z V t v = (let V2 := if V.1 (3933 + t) = 1 then vlv (vgn V t) t (V.2.2.2 t (m + 1)) else vgn V t; let V3 := vs (vs (vs V2 (3982 + t) (nI (vpl V2 t m))) (3975 + t) (nI ((V.2.2.2 t (m + 1)).2.2.2.1 % 1024 / 32))) (3968 + t) (nI ((V.2.2.2 t (m + 1)).2.2.2.1 % 32)); let c := vco ((V.2.2.2 t (m + 1)).2.2.2.1 % 1024 / 32) ((V.2.2.2 t (m + 1)).2.2.2.1 % 32 - 1); let V4 := vnu V3 t m (V.1 (c + 3)).toInt.toNat v; if 2048 ≤ (V.2.2.2 t (m + 1)).2.2.2.1 then vfv V4 t (V.1 (c + 1)) else V4) := by
    unfold vrt
    rw [hn, show m + 2 - 1 = m + 1 from rfl]
    dsimp only
    rw [if_neg (by omega)]
    unfold vgn
    rw [hlf, hn]
    rfl
  have hus : S (b + 5) y.2 = nI (V.2.2.2 t (m + 1)).2.2.1 := by
    have q1 := (hG.2.2.2.1.2.2.2.2.2.2 y y2 y3).1
    rw [q1, hn1, hf1, vud_pe (w := V.1) hw (fun i hi => hj.vfr t ht i (by omega)), y4, ← d2]
    have : vud V.1 (V.2.2.2 t) (V.2.2.2 t (m + 1)).2.1 (m + 1 + 1) = vud V.1 (V.2.2.2 t) (V.2.2.2 t (m + 1)).2.1 (m + 1) + vwd V.1 (V.2.2.2 t (m + 1)).1 := by
      show _ + (if _ then _ else 0) = _
      rw [if_pos rfl]
    rw [this] at hud
    congr 1
    omega
  -- behind leaving
  have key : ∀ (V2 : vV) (S2 : wt_S) zs2 fr2, RBt b lim S2 V2 zs2 fr2 t → VJ lim V2 → V2.2.2 = (vgn V t).2.2 → (∀ i, i ≠ 2067 → i ≠ 4066 + t → V2.1 i = (vgn V t).1 i) → vpl V2 t m = vpl V t m → TO b t s S2 → V2 = (if V.1 (3933 + t) = 1 then vlv (vgn V t) t (V.2.2.2 t (m + 1)) else vgn V t) → ∃ s' zs' fr', gX2_leaveFrame_112 b (b + 17 + 2 * t) S2 v (nI (vpl V t m)) (nI (V.2.2.2 t (m + 1)).2.2.2.1) = some ((), s') ∧ RC b lim s' (vrt Z V t v) zs' fr' ∧ TO b t s s' := by
    intro V2 S2 zs2 fr2 g1 g2 g3 g4 g5 g6 g7
    have hV2 : ∀ i, i ≠ 2067 → i ≠ 4066 + t → i ≠ 3961 + t → i ≠ 3954 + t → V2.1 i = V.1 i := fun i i1 i2 i3 i4 => (g4 i i1 i2).trans (hv i i3 i4)
    have hfm := hj.vfr t ht m (by omega)
    have hl16 := (hj.1.li hfm).2
    have hw2 : vpe V.1 V2.1 := fun i hi => hV2 i (by omega) (by omega) (by omega) (by omega)
    have e23 : V2.2.2.2 = V.2.2.2 := by rw [g3]; rfl
    obtain ⟨s', o1, o2, o3⟩ := c_112 (m := m) (bk := (V.2.2.2 t (m + 1)).2.2.2.1) (v := v) g1 hx g2 ht (by rw [g3]; exact hn1) b1 (by rw [e23]; exact b2) b3 (by rw [e23, (hw2.sz hfm).2.2.1]; exact b4) (by rw [e23, hw2.co0 hfm (by omega)]; rcases b5 with ⟨-, e, -⟩ | ⟨-, e, -⟩; exact Or.inl e; exact Or.inr e) (fun e => by
      rw [e23, hV2 _ (by omega) (by omega) (by omega) (by omega), hV2 _ (by omega) (by omega) (by omega) (by omega), hw2.co hfm (by omega) (by omega)]
      exact hef e)
    rw [g5] at o1
    refine ⟨s', zs2, fr2, o1, ?_, g6.trans o3⟩
    rw [hvrt, ← g7]
    dsimp only at o2 ⊢
    rw [b2, hw2.co hfm (by omega) (by omega), hw2.co hfm (by omega) (by omega)] at o2
    rw [b2]
    exact o2
  have key0 : (V.2.2.2 t (m + 1)).2.2.1 ≠ 0 ∨ (V.2.2.2 t (m + 1)).2.1 = 0 → ∃ s' zs' fr', gX2_leaveFrame_112 b (b + 17 + 2 * t) S v (nI (vpl V t m)) (nI (V.2.2.2 t (m + 1)).2.2.2.1) = some ((), s') ∧ RC b lim s' (vrt Z V t v) zs' fr' ∧ TO b t s s' := fun hF => key (vgn V t) S zs fr hG hj1 rfl (fun _ _ _ => rfl) rfl hto (by rw [vlv_0 hF]; split <;> rfl)
  rw [e12', c_usedOf hid, cl_some, hus, show m + 1 - 1 = m from rfl]
  by_cases cu : (V.2.2.2 t (m + 1)).2.2.1 = 0
  · rw [cu, if_neg (by simp [nI]), e12', c_belowOf hid, cl_some]
    obtain ⟨-, q2, q3⟩ := hG.2.2.2.1.2.2.2.2.2.2 y y2 y3
    by_cases cn : np = 1
    · rw [if_pos (q2 (by omega))]
      exact key0 (Or.inr (by omega))
    · obtain ⟨-, w, -, w2, w3, w4, -⟩ := zfind (t := t) (n := np - 2) h.1 hj.2.2.1 (hc.2.2.2.1.1 (np - 2) (by omega))
      rw [if_neg (by rw [q3 w w2 w3 (by omega)]; exact nI_m1 (by have := (h.2.1.mem w2).1; omega))]
      have cm : V.1 (3933 + t) = 1 := by
        rcases hc.2.2.2.2.1 with e | e
        · exact absurd e.2.1 cn
        · exact e
      have hlt : ∀ i, i < m + 1 → (V.2.2.2 t i).2.1 < np - 1 := fun i gi => by
        have := d1.drop cu (fun i _ => by unfold vwd; omega) i gi
        omega
      have hof : vnof (vgn V t) t (np - 1) := fun i gi => by
        rw [hn1] at gi
        have := hlt i gi
        rw [hf1]
        omega
      have hof2 : vnof (vgn V t) t 1000 := fun i gi => by
        rw [hn1] at gi
        have := hlt i gi
        rw [hf1]
        omega
      have h66 : (vgn V t).1 (4066 + t) = nI np := (hv _ (by omega) (by omega)).trans n1
      have h49 : (vgn V t).1 2049 = 0 ∨ (vgn V t).1 2049 = 1 := by rw [hv _ (by omega) (by omega)]; exact hhot
      obtain ⟨S2, zs2, fr2, o1, o2, o3, o4⟩ := c_leaveP (F := V.2.2.2 t (m + 1)) hG hx hj1 ht h66 (by omega) hc.2.2.2.1 hof hof2 h49 d2 cu
      obtain ⟨v1, v2, -, -, v5, np2, -, -, v8⟩ := vlv_inv (F := V.2.2.2 t (m + 1)) (z := 0) (k := k) hj1 ht h66 hc.2.2.1 hc.2.2.2.1 d2 (fun _ _ => hof) (fun i gi => by rw [hn1] at gi; have := hlt i gi; rw [hf1]; omega) ((hv _ (by omega) (by omega)).trans hk) (fun _ _ => Nat.zero_le _)
      have hplm : vpl (vlv (vgn V t) t (V.2.2.2 t (m + 1))) t m = vpl V t m := by
        have := (v8.2 m (by rw [hn1]; omega)).2.1
        unfold vpl
        rw [show (vlv (vgn V t) t (V.2.2.2 t (m + 1))).2.2.2 = V.2.2.2 by rw [v2, hf1]]
        rw [hf1, hp1] at this
        rw [this]
      rw [o1, cl_some]
      exact key _ S2 zs2 fr2 o2 v1 v2 v5 hplm (hto.trans (o3.to ht)) (by rw [if_pos cm])
  · rw [if_pos (fun e => cu (by
      have hh : (V.2.2.2 t (m + 1)).2.2.1 < 2147483648 := by unfold vpl at hp8; omega
      exact (nI_inj hh (by omega)).mp (e.trans (show (0 : Int32) = nI 0 from rfl))))]
    exact key0 (Or.inl cu)
/-- two pictures that differ in what isn't looked at -/
theorem RC.e2 (h : RC b lim s V zs fr) (hx : CX b lim) (hp : Ipr V.1) (hf : VFR V) (h2 : V'.2 = V.2) (hw : ∀ i, i ≠ 2066 → i ≠ 2067 → V'.1 i = V.1 i) : RC b lim s V' zs fr := by
  have e : V' = vs (vs V 2066 (V'.1 2066)) 2067 (V'.1 2067) := by
    obtain ⟨W, R⟩ := V'
    have h2 : R = V.2 := h2
    subst h2
    refine Prod.ext ?_ rfl
    funext i
    show W i = mj_upd (mj_upd V.1 2066 (W 2066)) 2067 (W 2067) i
    by_cases c : i = 2067
    · subst c; rw [mj_upd_self]
    rw [mj_upd_ne c]
    by_cases c2 : i = 2066
    · subst c2; rw [mj_upd_self]
    rw [mj_upd_ne c2]
    exact hw i c2 c
  rw [e]
  exact (h.v hx hp hf (by omega)).v hx (hp.vs1 (by omega)) hf (by omega)
theorem flt_vkey {ps : List vP} {n : Nat} : (ps.filter (fun q => !vkey t n q)).filter (fun q => decide (q.2.2.1 ≠ t)) = ps.filter (fun q => decide (q.2.2.1 ≠ t)) := by
  rw [List.filter_filter]
  refine List.filter_congr (fun q _ => ?_)
  unfold vkey
  by_cases c : q.2.2.1 = t
  · simp [c]
  · simp [c]
theorem flt_ren {a c : Nat} : ∀ {ps : List vP}, (vren t a c ps).filter (fun q => decide (q.2.2.1 ≠ t)) = ps.filter (fun q => decide (q.2.2.1 ≠ t)) := by
  intro ps
  induction ps with
  | nil => rfl
  | cons q ps ih =>
    unfold vren at ih ⊢
    rw [List.map_cons]
    by_cases c1 : q.2.2.1 = t
    · have h1 : decide ((if vkey t a q then (q.1, q.2.1, q.2.2.1, c) else q).2.2.1 ≠ t) = false := by
        split <;> simp [c1]
      have h2 : decide (q.2.2.1 ≠ t) = false := by simp [c1]
      rw [List.filter_cons_of_neg (by rw [h1]; decide), List.filter_cons_of_neg (by rw [h2]; decide)]
      exact ih
    · have h0 : (if vkey t a q then (q.1, q.2.1, q.2.2.1, c) else q) = q := if_neg (by simp [vkey, c1])
      rw [h0, List.filter_cons_of_pos (by simp [c1]), List.filter_cons_of_pos (by simp [c1]), ih]
theorem flt_lv {F : vF} : (vlv V t F).2.1.filter (fun q => decide (q.2.2.1 ≠ t)) = V.2.1.filter (fun q => decide (q.2.2.1 ≠ t)) := by
  by_cases c : F.2.2.1 ≠ 0 ∨ F.2.1 = 0
  · rw [vlv_0 c]
  by_cases c2 : V.1 2049 = 0
  · rw [vlv_1 c c2]
    exact flt_vkey
  · rw [vlv_2 c c2]
    show (vren t F.2.1 1000 (vsp (vs V (4066 + t) (V.1 (4066 + t) - 1)) t).2.1).filter _ = _
    rw [flt_ren, vsp_ps]
    exact flt_vkey
theorem vga_e (h : ∀ i, i ≠ 2067 → i ≠ 4066 + t → V'.1 i = V.1 i) (h2 : V'.2.1.filter (fun q => decide (q.2.2.1 ≠ t)) = V.2.1.filter (fun q => decide (q.2.2.1 ≠ t))) (h3 : V'.2.2 = V.2.2) : (vga V' t).2 = (vga V t).2 ∧ ∀ i, i ≠ 2067 → (vga V' t).1 i = (vga V t).1 i := by
  constructor
  · rw [vga_2, vga_2, h2, h3]
  · intro i hi
    rw [vga_1, vga_1]
    by_cases c : i = 4066 + t
    · exact mj_upd_eq2 (Or.inr (mj_upd_eq2 (Or.inr (mj_upd_eq2 (Or.inr (mj_upd_eq2 (Or.inl c)))))))
    · refine mj_upd_eq2 (Or.inr (mj_upd_eq2 (Or.inr (mj_upd_eq2 (Or.inr (mj_upd_eq2 (Or.inr (mj_upd_eq2 (Or.inr (mj_upd_eq2 (Or.inr ?_)))))))))))
      rw [h (3989 + t) (by omega) (by omega)]
      split
      · exact h i hi c
      · exact mj_upd_eq2 (Or.inr (h i hi c))
theorem c_leave0L (h : RBt b lim s V zs fr t) (t11 : s (b + 17 + 2 * t) 11 = nI (vpl V t (V.2.2.1 t - 1))) (hx : CX b lim) (hP : Vpre lim V t np z) (hn : V.2.2.1 t = 1) (hhot : V.1 2049 = 0 ∨ V.1 2049 = 1) (hk : V.1 2067 = nI k) (hst : V.1 (3926 + t) ≠ 0) (hsd : V.1 (3989 + t) = -1 ∨ ∃ k, k < 3 ∧ V.1 (3989 + t) = nI k ∧ V.1 (3923 + k) = nI t) : ∃ s' zs' fr', gX2_leaveFrame b (b + 17 + 2 * t) s v = some ((), s') ∧ RC b lim s' (vrt Z V t v) zs' fr' ∧ TO b t s s' := by
  have hb := hx.b
  have hxm := hx.m
  obtain ⟨hj, hc, ht, hz, h8, hzl, hl, hl2, hq⟩ := hP
  obtain ⟨n1, n2, n3⟩ := hc.mn
  obtain ⟨d1, d2, d3, d4, d5⟩ := hc.2.2.2.2.2.2.1 (by omega)
  rw [hn] at d1 d2 d3 d4 d5
  rw [show 1 - 1 = 0 from rfl] at d2 d4 d5
  have hlf : vlf V t = V.2.2.2 t 0 := by unfold vlf; rw [hn]
  have hfit := hj.fit ht (show 0 < V.2.2.1 t by omega)
  have hp8 := hfit.2.2
  unfold vwd at hp8
  obtain ⟨M0, M1, M2, M3⟩ := h.2.2.2.2.1 t ht 0 (by omega)
  obtain ⟨g0, g1⟩ := d1.2.1
  rw [hn] at t11
  have t11 : s (b + 17 + 2 * t) 11 = nI (vpl V t 0) := t11
  have t9 : s (b + 17 + 2 * t) 9 = nI (V.2.2.2 t 0).1 := (h.2.2.2.1.2.1.2.1 (9, 3975) (by decide)).trans d5
  obtain ⟨-, y, -, y2, y3, y4, -⟩ := zfind (t := t) (n := np - 1) h.1 hj.2.2.1 (hc.2.2.2.1.1 (np - 1) (by omega))
  have e12 : s (b + 17 + 2 * t) 12 = nI y.2 := (h.ch (np := np) n1).1.2 y y2 y3 (by omega)
  have hid := (h.2.1.mem y2).1
  have hG := c_goneL h hx hj ht (by omega) y2 y3 (by rw [hlf, d2, y4])
  rw [hlf] at hG
  unfold gX2_leaveFrame
  rw [t11, c_word (by omega), cl_some, M1, if_pos rfl, t11, show nI (vpl V t 0) + 1 = nI (vpl V t 0 + 1) from nI_add _ 1, c_word (by omega), cl_some, M2, t9, c_frameWords h.2.2.2.2.2 hj.1 hfit.1, cl_some, e12, c_use hid, cl_some, wr_eq, wr_eq, wt_u_ne (show b + 17 + 2 * t ≠ b + 5 by omega), wt_u_nk (show 4 ≠ 5 by omega), wt_u_ne (show b + 17 + 2 * t ≠ b + 5 by omega)]
  have hto : TO b t s (wt_u (wt_u (wt_u s (b + 5) y.2 (s (b + 5) y.2 + -(nI (vwd V.1 (V.2.2.2 t 0).1)))) (b + 17 + 2 * t) 5 (s (b + 17 + 2 * t) 5 - nI (vwd V.1 (V.2.2.2 t 0).1))) (b + 17 + 2 * t) 4 (s (b + 17 + 2 * t) 4 - 1)) := ((TO.u (by omega) ht).trans (TO.u (by omega) ht)).trans (TO.u (by omega) ht)
  have e12' : (wt_u (wt_u (wt_u s (b + 5) y.2 (s (b + 5) y.2 + -(nI (vwd V.1 (V.2.2.2 t 0).1)))) (b + 17 + 2 * t) 5 (s (b + 17 + 2 * t) 5 - nI (vwd V.1 (V.2.2.2 t 0).1))) (b + 17 + 2 * t) 4 (s (b + 17 + 2 * t) 4 - 1)) (b + 17 + 2 * t) 12 = nI y.2 := by rw [wt_u_nk (by omega), wt_u_nk (by omega), wt_u_ne (by omega)]; exact e12
  generalize (wt_u (wt_u (wt_u s (b + 5) y.2 (s (b + 5) y.2 + -(nI (vwd V.1 (V.2.2.2 t 0).1)))) (b + 17 + 2 * t) 5 (s (b + 17 + 2 * t) 5 - nI (vwd V.1 (V.2.2.2 t 0).1))) (b + 17 + 2 * t) 4 (s (b + 17 + 2 * t) 4 - 1)) = S at *
  have hv : ∀ i, i ≠ 3961 + t → i ≠ 3954 + t → (vgn V t).1 i = V.1 i := fun i i1 i2 => (vs_ne i2).trans (vs_ne i1)
  have hn1 : (vgn V t).2.2.1 t = 0 := by show mj_upd V.2.2.1 t (V.2.2.1 t - 1) t = 0; rw [mj_upd_self, hn]
  have hf1 : (vgn V t).2.2.2 = V.2.2.2 := rfl
  have hp1 : (vgn V t).2.1 = V.2.1 := rfl
  have hj1 : VJ lim (vgn V t) := VJ.nf (VJ.vs (VJ.vs hj (by omega)) (by omega)) (by show V.2.2.1 t - 1 ≤ V.2.2.1 t; omega)
  have hvrt : vrt Z V t v = vdn Z (vgn V t) t v := by
    unfold vrt vgn
    rw [hlf, hn]
    rfl
  have hsd0 : V.1 (3989 + t) = -1 ∨ ∃ k, k < 3 ∧ V.1 (3989 + t) = nI k := by
    rcases hsd with e | ⟨k, e1, e2, -⟩
    · exact Or.inl e
    · exact Or.inr ⟨k, e1, e2⟩
  have hsd1 : (vgn V t).1 (3989 + t) = -1 ∨ ∃ k, k < 3 ∧ (vgn V t).1 (3989 + t) = nI k := by rw [hv _ (by omega) (by omega)]; exact hsd0
  have hus : S (b + 5) y.2 = nI 0 := by
    have q1 := (hG.2.2.2.1.2.2.2.2.2.2 y y2 y3).1
    rw [q1, hn1]
    rfl
  have h66 : (vgn V t).1 (4066 + t) = nI np := (hv _ (by omega) (by omega)).trans n1
  have h49 : (vgn V t).1 2049 = 0 ∨ (vgn V t).1 2049 = 1 := by rw [hv _ (by omega) (by omega)]; exact hhot
  have h26 : (vgn V t).1 (3926 + t) ≠ 0 := by rw [hv _ (by omega) (by omega)]; exact hst
  -- behind leaving
  have key : ∀ (V2 : vV) (S2 : wt_S) zs2 fr2 np2, RBt b lim S2 V2 zs2 fr2 t → VJ lim V2 → V2.2.2 = (vgn V t).2.2 → (∀ i, i ≠ 2067 → i ≠ 4066 + t → V2.1 i = (vgn V t).1 i) → V2.2.1.filter (fun q => decide (q.2.2.1 ≠ t)) = (vgn V t).2.1.filter (fun q => decide (q.2.2.1 ≠ t)) → TO b t s S2 → V2.1 (4066 + t) = nI np2 → np2 ≤ 256 → Itp V2.2.1 t np2 → ∃ s' zs' fr', gX2_leaveFrame_112 b (b + 17 + 2 * t) S2 v (-1) (nI (V.2.2.2 t 0).2.2.2.1) = some ((), s') ∧ RC b lim s' (vrt Z V t v) zs' fr' ∧ TO b t s s' := by
    intro V2 S2 zs2 fr2 np2 g1 g2 g3 g4 g5 g6 g7 g8 g9
    obtain ⟨s', zs', fr', o1, o2, o3⟩ := c_endL (v := v) g1 hx g2 ht g7 g8 g9 (by rw [g4 _ (by omega) (by omega)]; exact h26) (by
      rw [g4 _ (by omega) (by omega), hv _ (by omega) (by omega)]
      rcases hsd with e | ⟨k, e1, e2, e3⟩
      · exact Or.inl e
      · exact Or.inr ⟨k, e1, e2, by rw [g4 _ (by omega) (by omega), hv _ (by omega) (by omega)]; exact e3⟩)
    refine ⟨s', zs', fr', ?_, ?_, g6.trans o3⟩
    · unfold gX2_leaveFrame_112
      rw [if_neg (by simp)]
      exact o1
    · have hV2 : VJ lim (vs V2 (3940 + t) v) := VJ.vs g2 (by omega)
      have hga := vga_e (t := t) (V := vs (vgn V t) (3940 + t) v) (V' := vs V2 (3940 + t) v) (fun i i1 i2 => by
        by_cases c : i = 3940 + t
        · subst c; rw [vs_at, vs_at]
        · rw [vs_ne c, vs_ne c]; exact g4 i i1 i2) g5 g3
      have hpX : vpe V2.1 (vga (vs V2 (3940 + t) v) t).1 := fun i hi => by
        have q : (vs V2 (3940 + t) v).1 (3989 + t) = -1 ∨ ∃ k, k < 3 ∧ (vs V2 (3940 + t) v).1 (3989 + t) = nI k := by
          rw [vs_ne (by omega), g4 _ (by omega) (by omega)]; exact hsd1
        exact ((vga_i q).2 (by omega)).trans (vs_ne (by omega))
      have hfX : VFR (vga (vs V2 (3940 + t) v) t) := fun k hk i hi => by
        rw [vga_2] at hi ⊢
        refine hV2.vfr k hk i ?_
        have hi : i < mj_upd V2.2.2.1 t 0 k := hi
        by_cases e : k = t
        · subst e; rw [mj_upd_self] at hi; omega
        · rw [mj_upd_ne e] at hi; exact hi
      have hp2 : Ipr (vlg1 (vcn (vs (vga (vs V2 (3940 + t) v) t) (3926 + t) 3) 0 1)).1 := ((g2.1.ww hpX).ww (vpe.upd (by omega))).ww ((vpe.upd (by omega)).trans (vpe.upd (by omega)))
      rw [hvrt]
      unfold vdn
      dsimp only
      rw [vdn_o hsd1]
      have r1 : RC b lim s' (vlg1 (vcn (vs (vga (vs (vgn V t) (3940 + t) v) t) (3926 + t) 3) 0 1)) zs' fr' := by
        refine o2.e2 hx hp2 hfX hga.1.symm (fun i i1 i2 => ?_)
        have e26 : ∀ (X : vV), (vlg1 (vcn (vs X (3926 + t) 3) 0 1)).1 i = mj_upd (mj_upd X.1 (3926 + t) 3) 2054 ((mj_upd X.1 (3926 + t) 3) 2054 + 1) i := fun X => vs_ne (by omega)
        rw [e26, e26]
        have e54 : ∀ (X : vV), mj_upd X.1 (3926 + t) 3 2054 = X.1 2054 := fun X => mj_upd_ne (by omega)
        rw [e54, e54, hga.2 2054 (by omega)]
        by_cases c : i = 2054
        · subst c; rw [mj_upd_self, mj_upd_self]
        · rw [mj_upd_ne c, mj_upd_ne c]
          exact (mj_upd_eq2 (Or.inr (hga.2 i i2))).symm
      split
      · have hp3 : Ipr (vlg1 (vcn (vs (vga (vs (vgn V t) (3940 + t) v) t) (3926 + t) 3) 0 1)).1 := by
          have q : (vs (vgn V t) (3940 + t) v).1 (3989 + t) = -1 ∨ ∃ k, k < 3 ∧ (vs (vgn V t) (3940 + t) v).1 (3989 + t) = nI k := by
            rw [vs_ne (by omega)]; exact hsd1
          have hpY : vpe (vgn V t).1 (vga (vs (vgn V t) (3940 + t) v) t).1 := fun i hi => ((vga_i q).2 (by omega)).trans (vs_ne (by omega))
          exact ((hj1.1.ww hpY).ww (vpe.upd (by omega))).ww ((vpe.upd (by omega)).trans (vpe.upd (by omega)))
        have hfY : VFR (vga (vs (vgn V t) (3940 + t) v) t) := fun k hk i hi => by
          have := hfX k hk i
          rw [hga.1] at this
          exact this hi
        exact r1.v hx hp3 hfY (by omega)
      · exact r1
  rw [e12', c_usedOf hid, cl_some, hus, if_neg (by simp [nI]), e12', c_belowOf hid, cl_some]
  obtain ⟨-, q2, q3⟩ := hG.2.2.2.1.2.2.2.2.2.2 y y2 y3
  by_cases cn : np = 1
  · rw [if_pos (q2 (by omega))]
    exact key (vgn V t) S zs fr np hG hj1 rfl (fun _ _ _ => rfl) rfl hto h66 (by omega) hc.2.2.2.1
  · obtain ⟨-, w, -, w2, w3, w4, -⟩ := zfind (t := t) (n := np - 2) h.1 hj.2.2.1 (hc.2.2.2.1.1 (np - 2) (by omega))
    rw [if_neg (by rw [q3 w w2 w3 (by omega)]; exact nI_m1 (by have := (h.2.1.mem w2).1; omega))]
    have hof : ∀ x, vnof (vgn V t) t x := fun x i gi => by
      rw [hn1] at gi
      omega
    obtain ⟨S2, zs2, fr2, o1, o2, o3, o4⟩ := c_leaveP (F := V.2.2.2 t 0) hG hx hj1 ht h66 (by omega) hc.2.2.2.1 (hof _) (hof _) h49 d2 g0
    obtain ⟨v1, v2, -, -, v5, np2, v6, v7, v8⟩ := vlv_inv (F := V.2.2.2 t 0) (z := 0) (k := k) hj1 ht h66 hc.2.2.1 hc.2.2.2.1 d2 (fun _ _ => hof _) (fun i gi => by rw [hn1] at gi; omega) ((hv _ (by omega) (by omega)).trans hk) (fun _ _ => Nat.zero_le _)
    rw [o1, cl_some]
    exact key _ S2 zs2 fr2 np2 o2 v1 v2 v5 flt_lv (hto.trans (o3.to ht)) v7 (by rw [v6]; split <;> omega) v8.1
theorem c_ret {B : Nat} (h : RBt b lim s V zs fr t) (t11 : s (b + 17 + 2 * t) 11 = nI (vpl V t (V.2.2.1 t - 1))) (hx : CX b lim) (hI : VI lim B V) (ht : t < 6) (hb : vbz V.1 t) : ∃ s' zs' fr', gX2_leaveFrame b (b + 17 + 2 * t) s v = some ((), s') ∧ RC b lim s' (vrt Z V t v) zs' fr' ∧ TO b t s s' := by
  obtain ⟨np, z, z2, z3, k, l, hP, h0, hhot, -, -, ⟨k1, -⟩, -, hs, -, -⟩ := hI.opn ht hb hx.2.2
  have hst1 : V.1 (3926 + t) ≠ 0 := by
    rcases hb with e | e <;> rw [e] <;> decide
  have hbz := (hI.bz ht h0).2
  by_cases c : V.2.2.1 t = 1
  · refine c_leave0L h t11 hx hP c hhot k1 hst1 ?_
    rcases hs with e | ⟨k, e1, e2⟩
    · exact Or.inl e
    · exact Or.inr ⟨k, e1, e2, hI.sdt ht e1 e2⟩
  · obtain ⟨m, hm⟩ : ∃ m, V.2.2.1 t = m + 2 := ⟨V.2.2.1 t - 2, by omega⟩
    refine c_leaveL h t11 hx hP hm hhot k1 (fun hcc => ?_)
    obtain ⟨n', np', c1, c2, c3, c4, c5, c6, c7, c8, c9, c10, c11, c12, c13, c14, c15, c16, c17⟩ := hbz
    have hnm : n' = m + 1 := by omega
    subst hnm
    rw [vos_1 (n := m + 1)] at c14 c15 c16
    obtain ⟨b1, b2, b3, b4, b5⟩ := c9.2.2.1 m (by omega)
    have hfm := (c9.1 m (by omega)).1
    obtain ⟨x, e1, e2, e3⟩ : ∃ x, V.1 (vco (V.2.2.2 t m).1 ((V.2.2.2 t (m + 1)).2.2.2.1 % 32 - 1) + 1) = nI x ∧ 1 ≤ x ∧ x ≤ 40 := by
      have hv := (hI.2.1 _ hfm).2.2 _ b4
      unfold vlin vcan at hv
      rcases b5 with ⟨b5, -⟩ | ⟨-, b5, -⟩
      · omega
      · exact (hv.2.2.2.2.2.2.2.2.2 b5).1
    have hfo : vfo V.1 (V.2.2.2 t (m + 1)) = x := by
      unfold vfo
      rw [if_pos hcc, b2, e1, nI_int (by omega)]
      rfl
    rw [hfo] at c14 c15 c16
    rcases c16 with ⟨-, c16⟩ | ⟨ks, g1, g2, g3, g4⟩
    · omega
    · refine ⟨ks, vos V.1 (V.2.2.2 t) (m + 1), g1, g2, ?_, by omega⟩
      rw [c14, e1, nI_sub (by omega), Nat.add_sub_cancel]
end
end
section
/-! ===== a task that waits stands before a foreign call ===== -/
section
variable {lim B B' t np z k f bk l x : Nat} {V V' : vV} {v : Int32} {Z : (Nat → Int32) → Int32 → Int32 → Int32 → Bool} {h2 : Int32 × Option (Nat × Nat)}
def WL (V : vV) (t : Nat) : Prop := V.1 (3926 + t) = 2 → ∃ l, V.1 (3968 + t) = nI l ∧ l < vli V.1 (vlf V t).1 ∧ V.1 (vco (vlf V t).1 l) = 9
theorem WL.no (h : V.1 (3926 + t) ≠ 2) : WL V t := fun e => absurd e h
theorem WL.eq (h : WL V t) (hp : Ipr V.1) (hw : vpe V.1 V'.1) (hf : (vlf V t).1 < 10) (h1 : V'.1 (3926 + t) = V.1 (3926 + t)) (h2 : V'.1 (3968 + t) = V.1 (3968 + t)) (h3 : (vlf V' t).1 = (vlf V t).1) : WL V' t := fun e => by
  rw [h1] at e
  obtain ⟨l, l1, l2, l3⟩ := h e
  have hl := (hp.li hf).2
  exact ⟨l, by rw [h2]; exact l1, by rw [h3, (hw.sz hf).2.2.1]; exact l2, by rw [h3, hw.co0 hf (by omega)]; exact l3⟩
theorem vbz_f (hI : VI lim B V) (ht : t < 6) (hb : vbz V.1 t) : 0 < V.2.2.1 t ∧ (vlf V t).1 < 10 := by
  rcases hI.2.2.2.2.2 t ht with ⟨-, n, np, c1, c2, c3, c4, c5, c6, c7, c8, c9, -⟩ | b
  · refine ⟨by omega, ?_⟩
    unfold vlf
    rw [c1, Nat.add_sub_cancel]
    exact (c9.1 n (by omega)).1
  · exfalso
    rcases hb with e | e <;> rcases b.2.2.2.2.2.2.2.1 with g | g | g <;> rw [e] at g <;> exact absurd g (by decide)
theorem WL.ot {t' : Nat} (h : WL V t') (hI : VI lim B V) (hO : OT t V V') (ht' : t' < 6) (hne : t' ≠ t) : WL V' t' := by
  have a1 := hO.at ht' hne (c := 3926) (by omega)
  by_cases c : V.1 (3926 + t') = 2
  · have a2 := hO.at ht' hne (c := 3968) (by omega)
    have a3 := (hO.2.2.1 t' ht' hne).2
    refine h.eq hI.2.1 hO.1 (vbz_f hI ht' (Or.inr c)).2 a1 a2 ?_
    unfold vlf
    rw [a3.1, a3.2]
  · exact WL.no (by rw [a1]; exact c)
theorem vcl_26 (hP : Vpre lim V t np z) (hf : f < 10) (hs1 : 1 ≤ vsz V.1 f) (hk : V.1 2067 = nI k) : (vcl lim V t f bk h2).1 (3926 + t) = V.1 (3926 + t) ∨ (vcl lim V t f bk h2).1 (3926 + t) = 4 := by
  unfold vcl
  by_cases c : vlc V t = true
  · rw [if_pos c]
    left
    rw [vpu_w.1 _ (by omega) (by omega) (by omega) (by omega) (by omega) (by omega), vcn_ne (by omega)]
  · rw [if_neg c]
    have hnc := (vlc_iff hP.1 hP.2.1).1 (by simpa using c)
    obtain ⟨v1, v2, v3⟩ := vrm_inv hP hf hs1 hk hnc
    generalize hres : vrm lim V t f = res at *
    obtain ⟨bb, V1⟩ := res
    cases bb with
    | true =>
      obtain ⟨r1, r2, r3, -, r5, np2, r6, r7⟩ := v1 rfl
      left
      show (vpu V1 t f _ _ _).1 (3926 + t) = _
      rw [vpu_w.1 _ (by omega) (by omega) (by omega) (by omega) (by omega) (by omega)]
      exact r5 _ (fun q => by unfold vrs vgs at q; omega)
    | false =>
      obtain ⟨V2, o1, -⟩ := v2 rfl
      have o1 : V1 = vot V2 t := o1
      right
      show V1.1 (3926 + t) = 4
      rw [o1]
      unfold vot
      rw [vlg1_ne (by omega), vcn_ne (by omega), vs_at]
theorem vlv_w {F : vF} {i : Nat} (h1 : i ≠ 2067) (h2 : i ≠ 4066 + t) : (vlv V t F).1 i = V.1 i := by
  by_cases c : F.2.2.1 ≠ 0 ∨ F.2.1 = 0
  · rw [vlv_0 c]
  by_cases c2 : V.1 2049 = 0
  · rw [vlv_1 c c2]
    exact (vlg1_ne h1).trans (vs_ne h2)
  · rw [vlv_2 c c2]
    exact (vlg1_ne h1).trans ((vsp_w h1).trans (vs_ne h2))
theorem vdn_26 (hsd : V.1 (3989 + t) = -1 ∨ ∃ k, k < 3 ∧ V.1 (3989 + t) = nI k) : (vdn Z V t v).1 (3926 + t) = 3 := by
  have e : ∀ i, (vs (vs V (3926 + t) 3) (3940 + t) v).1 i = if i = 3940 + t then v else if i = 3926 + t then 3 else V.1 i := fun i => by
    by_cases c : i = 3940 + t
    · rw [if_pos c, c, vs_at]
    rw [if_neg c, vs_ne c]
    by_cases c : i = 3926 + t
    · rw [if_pos c, c, vs_at]
    rw [if_neg c, vs_ne c]
  have q : (vs (vs V (3926 + t) 3) (3940 + t) v).1 (3989 + t) = -1 ∨ ∃ k, k < 3 ∧ (vs (vs V (3926 + t) 3) (3940 + t) v).1 (3989 + t) = nI k := by
    rw [e, if_neg (by omega), if_neg (by omega)]; exact hsd
  have r : (vlg1 (vcn (vga (vs (vs V (3926 + t) 3) (3940 + t) v) t) 0 1)).1 (3926 + t) = 3 := by
    rw [vlg1_ne (by omega), vcn_ne (by omega), (vga_i q).1 (by omega), if_neg (by omega), if_neg (by omega), e, if_neg (by omega), if_pos rfl]
  unfold vdn
  dsimp only
  split
  · rw [vinc_ne (by omega)]; exact r
  · exact r
theorem vfv_26' {words : Int32} (hs : (V.1 (3989 + t)).toInt.toNat < 3) : (vfv V t words).1 (3926 + t) = V.1 (3926 + t) := by
  by_cases c : 0 < (V.1 (3996 + t) - words).toInt
  · rw [vfv_a c, vs_ne (by omega), vcn_ne (by omega)]
  · rw [vfv_b c, vs_ne (by omega), vs_ne (by omega), vs_ne (by omega), vcn_ne (by omega)]
theorem sd_lt (hsd : V.1 (3989 + t) = -1 ∨ ∃ k, k < 3 ∧ V.1 (3989 + t) = nI k) : (V.1 (3989 + t)).toInt.toNat < 3 := by
  rcases hsd with e | ⟨k, e1, e⟩
  · rw [e]; decide
  · rw [e, nI_int (by omega)]
    show k < 3
    exact e1
theorem vrt_26 (hsd : V.1 (3989 + t) = -1 ∨ ∃ k, k < 3 ∧ V.1 (3989 + t) = nI k) : (vrt Z V t v).1 (3926 + t) = V.1 (3926 + t) ∨ (vrt Z V t v).1 (3926 + t) = 3 := by
  unfold vrt
  dsimp only
  generalize hV1 : vnf (vs (vs V (3961 + t) (V.1 (3961 + t) - (V.1 (2228 + (V.2.2.2 t (V.2.2.1 t - 1)).1) + 2))) (3954 + t) (V.1 (3954 + t) - 1)) t (V.2.2.1 t - 1) = V1
  have e1 : ∀ i, i ≠ 3961 + t → i ≠ 3954 + t → V1.1 i = V.1 i := fun i i1 i2 => by rw [← hV1]; exact (vs_ne i2).trans (vs_ne i1)
  split
  · right
    exact vdn_26 (by rw [e1 _ (by omega) (by omega)]; exact hsd)
  · left
    have e2 : ∀ i, i ≠ 2067 → i ≠ 4066 + t → (if V.1 (3933 + t) = 1 then vlv V1 t (V.2.2.2 t (V.2.2.1 t - 1)) else V1).1 i = V1.1 i := fun i i1 i2 => by
      split
      · exact vlv_w i1 i2
      · rfl
    generalize (if V.1 (3933 + t) = 1 then vlv V1 t (V.2.2.2 t (V.2.2.1 t - 1)) else V1) = V2 at *
    split
    · rw [vfv_26']
      · show (vs (vs (vs V2 _ _) _ _) _ _).1 (3926 + t) = _
        rw [vs_ne (by omega), vs_ne (by omega), vs_ne (by omega), e2 _ (by omega) (by omega), e1 _ (by omega) (by omega)]
      · have : (vs (vs (vs V2 (3982 + t) (nI (vpl V2 t (V.2.2.1 t - 1 - 1)))) (3975 + t) (nI ((V.2.2.2 t (V.2.2.1 t - 1)).2.2.2.1 % 1024 / 32))) (3968 + t) (nI ((V.2.2.2 t (V.2.2.1 t - 1)).2.2.2.1 % 32))).1 (3989 + t) = V.1 (3989 + t) := by
          rw [vs_ne (by omega), vs_ne (by omega), vs_ne (by omega), e2 _ (by omega) (by omega), e1 _ (by omega) (by omega)]
        show ((vs (vs (vs V2 _ _) _ _) _ _).1 (3989 + t)).toInt.toNat < 3
        rw [this]
        exact sd_lt hsd
    · show (vs (vs (vs V2 _ _) _ _) _ _).1 (3926 + t) = _
      rw [vs_ne (by omega), vs_ne (by omega), vs_ne (by omega), e2 _ (by omega) (by omega), e1 _ (by omega) (by omega)]
/-- what quiet leaves -/
theorem vqu_w {i : Nat} (h1 : i ≠ 2067) (h2 : i ≠ 2061) (h3 : i ≠ 4031 + t) (h4 : i ≠ 3982 + t) (h5 : i ≠ 4017 + t) (h6 : i ≠ 2059) : (vqu lim V t).2.1 i = V.1 i ∧ (vqu lim V t).2.2.2 = V.2.2 := by
  unfold vqu
  split
  · exact ⟨vsp_w h1, vsp_22⟩
  split
  · exact ⟨rfl, rfl⟩
  cases vgap lim 0 V.2.1 (vln V.2.1 t 0 / 2) with
  | none => exact ⟨rfl, rfl⟩
  | some g => exact ⟨(vlg1_ne h1).trans ((vcn_ne (by omega)).trans ((vinc_ne h3).trans (vmv_ne h4 h5 h6))), rfl⟩
theorem wl_qu (h : WL V t) (hI : VI lim B V) (ht : t < 6) (hb : vbz V.1 t) : WL (vqu lim V t).2 t := by
  have a := fun i h1 h2 h3 h4 h5 h6 => (vqu_w (lim := lim) (V := V) (t := t) (i := i) h1 h2 h3 h4 h5 h6).1
  have b := (vqu_w (lim := lim) (V := V) (t := t) (i := 0) (by omega) (by omega) (by omega) (by omega) (by omega) (by omega)).2
  refine h.eq hI.2.1 (fun i hi => a i (by omega) (by omega) (by omega) (by omega) (by omega) (by omega)) (vbz_f hI ht hb).2 (a _ (by omega) (by omega) (by omega) (by omega) (by omega) (by omega)) (a _ (by omega) (by omega) (by omega) (by omega) (by omega) (by omega)) ?_
  unfold vlf
  rw [b]
theorem wl_fg {f slot : Int32} (hI : VI lim B V) (ht : t < 6) (hb : vbz V.1 t) (hlm : lim ≤ 10000) (hl : l < vli V.1 (vlf V t).1) (hll : V.1 (3968 + t) = nI (l + 1)) (h9 : V.1 (vco (vlf V t).1 l) = 9) : WL (vfg lim V t v f slot) t := by
  obtain ⟨np, z, z2, z3, k, l', hP, h0, hhot, -, ⟨s1, s2, s3⟩, ⟨k1, k2⟩, -, hs, -, -⟩ := hI.opn ht hb hlm
  have hft := (vbz_f hI ht hb).2
  have hz3 : (V.1 2052).toInt.toNat ≤ 3 := by rw [s1, nI_int (by omega)]; exact s3
  unfold vfg
  cases e : vhs V t v with
  | mk bb V1 =>
  cases bb with
  | true =>
    obtain ⟨x1, x2, x3, x4⟩ := vhs_T hP hz3 hs e
    have h26 : V1.1 (3926 + t) = 1 := by
      cases ed : vsd V t with
      | none => rw [vhs_0 ed] at e; cases e
      | some V2 =>
        by_cases c : ((vs V2 (3926 + t) 1).1 (3996 + t) + v).toInt ≤ ((vs V2 (3926 + t) 1).1 2053).toInt
        · rw [vhs_1 ed c] at e
          rw [← (Prod.mk.inj e).2, vs_ne (by omega), vs_at]
        · rw [vhs_2 ed c] at e
          cases e
    dsimp only
    split
    · rename_i ct
      have hf10 : f.toInt.toNat < 10 := by have := ct.1; omega
      have := vcl_26 (bk := 32 * (vlf V1 t).1 + (V1.1 (3968 + t)).toInt.toNat + 2048) (h2 := vha V1.1 f.toInt.toNat (vlf V1 t) slot.toInt.toNat) x4 hf10 (by have := ct.2; unfold vsz; omega) ((x3 _ (by omega) (by omega) (by omega) (by omega)).trans k1)
      rw [h26] at this
      exact WL.no (by rcases this with e | e <;> rw [e] <;> decide)
    · refine WL.no ?_
      obtain ⟨ks, k3, k4⟩ := x2
      rw [vfv_26 ht k3 (V := vnu V1 t (V1.2.2.1 t - 1) slot.toInt.toNat (3 * vnm (vlf V1 t) slot + 1)) k4]
      show V1.1 (3926 + t) ≠ 2
      rw [h26]; decide
  | false =>
    dsimp only
    cases ed : vsd V t with
    | none =>
      rw [vhs_0 ed] at e
      rw [← (Prod.mk.inj e).2]
      have hv : ∀ i, i ≠ 2064 → i ≠ 3968 + t → i ≠ 3926 + t → (vcn (vs (vs V (3926 + t) 2) (3968 + t) (V.1 (3968 + t) - 1)) 10 1).1 i = V.1 i := fun i i1 i2 i3 => (vcn_ne (by omega)).trans ((vs_ne i2).trans (vs_ne i3))
      have hw : vpe V.1 (vcn (vs (vs V (3926 + t) 2) (3968 + t) (V.1 (3968 + t) - 1)) 10 1).1 := fun i hi => hv i (by omega) (by omega) (by omega)
      have hl16 := (hI.2.1.li hft).2
      intro _
      refine ⟨l, ?_, ?_, ?_⟩
      · rw [vcn_ne (by omega), vs_at, hll, i_sub1, nI_pred2]
      · show l < vli _ (vlf V t).1
        rw [(hw.sz hft).2.2.1]; exact hl
      · show (vcn (vs (vs V (3926 + t) 2) (3968 + t) (V.1 (3968 + t) - 1)) 10 1).1 (vco (vlf V t).1 l) = 9
        rw [hw.co0 hft (by omega)]; exact h9
    | some V2 =>
      by_cases c : ((vs V2 (3926 + t) 1).1 (3996 + t) + v).toInt ≤ ((vs V2 (3926 + t) 1).1 2053).toInt
      · rw [vhs_1 ed c] at e
        cases e
      · rw [vhs_2 ed c] at e
        rw [← (Prod.mk.inj e).2]
        refine WL.no ?_
        unfold vot
        rw [vlg1_ne (by omega), vcn_ne (by omega), vs_at]
        decide
theorem wl_st (hI : VI lim B V) (ht : t < 6) (hb : vbz V.1 t) (hW : WL V t) (hlm : lim ≤ 10000) : WL (vst lim Z V t) t := by
  obtain ⟨np, z, z2, z3, k, l, hP, h0, -, -, -, -, ⟨l1, l2⟩, hsd0, -, -⟩ := hI.opn ht hb hlm
  have hft := (vbz_f hI ht hb).2
  have hI1 : VI lim B (vinc V (3947 + t)) := hI.vs ht hb (vown_t (c := 3947) (by omega)) (by omega) (fun e => absurd e (by omega))
  have hb1 : vbz (vinc V (3947 + t)).1 t := by unfold vbz; rw [vinc_ne (by omega)]; exact hb
  have hI2 : VI lim B (vcn (vinc V (3947 + t)) 2 1) := hI1.vs ht hb1 (Or.inl (by omega)) (by omega) (fun e => absurd e (by omega))
  have hb2 : vbz (vcn (vinc V (3947 + t)) 2 1).1 t := by unfold vbz; rw [vcn_ne (by omega)]; exact hb1
  have hll : (V.1 (3968 + t)).toInt.toNat = l := by rw [l1, nI_int (by omega)]; rfl
  unfold vst
  dsimp only
  rw [hll]
  generalize hV1 : vcn (vinc V (3947 + t)) 2 1 = V1 at *
  have hat : ∀ i, i ≠ 3947 + t → i ≠ 2056 → V1.1 i = V.1 i := fun i g1 g2 => by rw [← hV1, vcn_ne (by omega), vinc_ne g1]
  have hV12 : V1.2 = V.2 := by rw [← hV1]; rfl
  split
  · rename_i cl
    have hl16 : l < 16 := by have := (hI.2.1.li hft).2; omega
    have hL : V1.1 (3968 + t) + 1 = nI (l + 1) := by rw [hat _ (by omega) (by omega), l1, nI_1]
    have hI3 : VI lim B (vs V1 (3968 + t) (V1.1 (3968 + t) + 1)) := hI2.vs ht hb2 (vown_t (c := 3968) (by omega)) (by omega) (fun _ => ⟨l + 1, by omega, hL⟩)
    have hb3 : vbz (vs V1 (3968 + t) (V1.1 (3968 + t) + 1)).1 t := by unfold vbz; rw [vs_ne (by omega)]; exact hb2
    have hL3 : (vs V1 (3968 + t) (V1.1 (3968 + t) + 1)).1 (3968 + t) = nI (l + 1) := by rw [vs_at, hL]
    have hat3 : ∀ i, i ≠ 3968 + t → i ≠ 3947 + t → i ≠ 2056 → (vs V1 (3968 + t) (V1.1 (3968 + t) + 1)).1 i = V.1 i := fun i g0 g1 g2 => (vs_ne g0).trans (hat i g1 g2)
    have e32 : (vs V1 (3968 + t) (V1.1 (3968 + t) + 1)).2 = V.2 := hV12
    generalize hV3 : vs V1 (3968 + t) (V1.1 (3968 + t) + 1) = V3 at *
    have hw3 : vpe V.1 V3.1 := fun i hi => hat3 i (by omega) (by omega) (by omega)
    have hlf : vlf V3 t = vlf V t := by unfold vlf; rw [e32]
    by_cases k9 : V.1 (vco (vlf V t).1 l) = 9
    · rw [k9, vln1_9]
      exact wl_fg (l := l) hI3 ht hb3 hlm (by rw [hlf, (hw3.sz hft).2.2.1]; exact cl) hL3 (by rw [hlf, hw3.co0 hft hl16]; exact k9)
    have h1 : V3.1 (3926 + t) = 1 := by
      rw [hat3 _ (by omega) (by omega) (by omega)]
      rcases hb with e | e
      · exact e
      · obtain ⟨l', e1, e2, e3⟩ := hW e
        have := (hI.2.1.li hft).2
        have : l' = l := (nI_inj (by omega) (by omega)).mp (e1.symm.trans l1)
        rw [this] at e3
        exact absurd e3 k9
    have hno : ∀ {X : vV}, X.1 (3926 + t) = V3.1 (3926 + t) → WL X t := fun e => WL.no (by rw [e, h1]; decide)
    obtain ⟨np', z', -, -, k', -, hP', -, -, -, -, ⟨k1', -⟩, -, hs', -, -⟩ := hI3.opn ht hb3 hlm
    unfold vln1
    dsimp only
    split
    · exact hno rfl
    split
    · exact hno rfl
    split
    · exact hno rfl
    split
    · exact hno rfl
    split
    · exact hno rfl
    split
    · split
      · exact hno rfl
      · exact hno rfl
    split
    · split
      · rename_i ct
        have := vcl_26 (bk := 32 * (vlf V3 t).1 + l + 1) (h2 := vha V3.1 (V.1 (vco (vlf V t).1 l + 1)).toInt.toNat (vlf V3 t) (V.1 (vco (vlf V t).1 l + 2)).toInt.toNat) hP' (f := (V.1 (vco (vlf V t).1 l + 1)).toInt.toNat) (by have := ct.1; omega) (by have := ct.2; unfold vsz; omega) k1'
        rw [h1] at this
        exact WL.no (by rcases this with e | e <;> rw [e] <;> decide)
      · exact hno rfl
    split
    · split
      · exact hno rfl
      · exact hno (vs_ne (by omega))
    split
    · have := vrt_26 (Z := Z) (v := vnm (vlf V3 t) (V.1 (vco (vlf V t).1 l + 1))) hs'
      rw [h1] at this
      exact WL.no (by rcases this with e | e <;> rw [e] <;> decide)
    exact hno (vqu_w (by omega) (by omega) (by omega) (by omega) (by omega) (by omega)).1
  · rename_i cl
    have h1 : V1.1 (3926 + t) = 1 := by
      rw [hat _ (by omega) (by omega)]
      rcases hb with e | e
      · exact e
      · obtain ⟨l', e1, e2, e3⟩ := hW e
        have := (hI.2.1.li hft).2
        have : l' = l := (nI_inj (by omega) (by omega)).mp (e1.symm.trans l1)
        omega
    have := vrt_26 (Z := Z) (V := V1) (t := t) (v := 0) (by rw [hat _ (by omega) (by omega)]; exact hsd0)
    rw [h1] at this
    exact WL.no (by rcases this with e | e <;> rw [e] <;> decide)
end
end
section
/-! ===== the class: a step ===== -/
section
variable {b lim B : Nat} {s s' : wt_S} {V V' : vV} {zs zs' : List (vP × Nat)} {fr fr' : List Nat} {t np k l : Nat} {v : Int32} {Z : (Nat → Int32) → Int32 → Int32 → Int32 → Bool}
theorem k_int {K : Int32} (h : 0 ≤ K.toInt ∧ K.toInt ≤ 10) : K = 0 ∨ K = 1 ∨ K = 2 ∨ K = 3 ∨ K = 4 ∨ K = 5 ∨ K = 6 ∨ K = 7 ∨ K = 8 ∨ K = 9 ∨ K = 10 := by
  obtain ⟨kk, kk1, rfl⟩ := nI_ex h.1
  have := h.2
  rw [nI_int kk1] at this
  have : kk = 0 ∨ kk = 1 ∨ kk = 2 ∨ kk = 3 ∨ kk = 4 ∨ kk = 5 ∨ kk = 6 ∨ kk = 7 ∨ kk = 8 ∨ kk = 9 ∨ kk = 10 := by omega
  rcases this with rfl | rfl | rfl | rfl | rfl | rfl | rfl | rfl | rfl | rfl | rfl <;> decide
/-- a line, LINE written already -/
theorem c_line {A Bb C : Int32} (h : LC b lim s V zs fr t l) (hI : VI lim B V) (hb : vbz V.1 t) (hll : V.1 (3968 + t) = nI (l + 1)) (e1 : V.1 (vco (vlf V t).1 l + 1) = A) (e2 : V.1 (vco (vlf V t).1 l + 2) = Bb) (e3 : V.1 (vco (vlf V t).1 l + 3) = C) (hw : V.1 (vco (vlf V t).1 l) ≠ 9 → V.1 (3926 + t) = 1) {K : Int32} (e0 : V.1 (vco (vlf V t).1 l) = K) :
    ∃ s' zs' fr', (if K.toInt < -1 ∨ 10 < K.toInt then (wt_cl (gX2_reckon b (b + 17 + 2 * t) s K (nI l)) fun _ s5 => gX2_makeStep_191 b (b + 17 + 2 * t) s5 (-1)) else (if K.toInt = -1 then (wt_cl (gX2_leaveFrame b (b + 17 + 2 * t) s 0) fun _ s6 => gX2_makeStep_191 b (b + 17 + 2 * t) s6 (-1)) else (if K.toInt = 0 then (wt_cl (gX2_reckon b (b + 17 + 2 * t) s K (nI l)) fun _ s7 => gX2_makeStep_191 b (b + 17 + 2 * t) s7 (-1)) else (if K.toInt = 1 then (wt_cl (gX2_reckon b (b + 17 + 2 * t) s K (nI l)) fun _ s7 => gX2_makeStep_191 b (b + 17 + 2 * t) s7 (-1)) else (if K.toInt = 2 then (wt_cl (gX2_reckon b (b + 17 + 2 * t) s K (nI l)) fun _ s7 => gX2_makeStep_191 b (b + 17 + 2 * t) s7 (-1)) else (if K.toInt = 3 then (wt_cl (gX2_reckon b (b + 17 + 2 * t) s K (nI l)) fun _ s7 => gX2_makeStep_191 b (b + 17 + 2 * t) s7 (-1)) else (if K.toInt = 4 then (wt_cl (gX2_reckon b (b + 17 + 2 * t) s K (nI l)) fun _ s7 => gX2_makeStep_191 b (b + 17 + 2 * t) s7 (-1)) else (if K.toInt = 5 then (wt_cl (gX2_reckon b (b + 17 + 2 * t) s K (nI l)) fun _ s7 => gX2_makeStep_191 b (b + 17 + 2 * t) s7 (-1)) else (if K.toInt = 6 then (wt_cl (gX2_callFunction b (b + 17 + 2 * t) s (nI l)) fun v14 s13 => gX2_makeStep_191 b (b + 17 + 2 * t) s13 v14) else (if K.toInt = 7 then (wt_cl (gX2_reckon b (b + 17 + 2 * t) s K (nI l)) fun _ s7 => gX2_makeStep_191 b (b + 17 + 2 * t) s7 (-1)) else (if K.toInt = 8 then (wt_cl (gX6_part 5 s (nI (vlf V t).1) (nI l) 1) fun v17 s16 => (wt_cl (gX3_word b s16 (((s (b + 17 + 2 * t) 11) + 2) + v17)) fun v19 s18 => (wt_cl (gX2_leaveFrame b (b + 17 + 2 * t) s18 v19) fun _ s20 => gX2_makeStep_191 b (b + 17 + 2 * t) s20 (-1)))) else (if K.toInt = 9 then (wt_cl (gX2_callForeign b (b + 17 + 2 * t) s (nI l)) fun v22 s21 => gX2_makeStep_191 b (b + 17 + 2 * t) s21 v22) else (if K.toInt = 10 then (wt_cl (gX4_makeSmaller b (b + 17 + 2 * t) s) fun v24 s23 => gX2_makeStep_191 b (b + 17 + 2 * t) s23 (-1)) else none))))))))))))) = some ((), s') ∧ RC b lim s' (vln1 lim Z V t l K A Bb C) zs' fr' ∧ TO b t s s' := by
  have hL := h
  obtain ⟨hR, hx, hj, ht, h0, h75, hl⟩ := h
  have hlm := hx.2.2
  have hft := hL.f.1
  have hlin := (hI.2.1 _ hft).2.2 l hl
  unfold vlin at hlin
  rw [e0, e1, e2, e3] at hlin
  have hK := k_int hlin.1
  unfold vcan at hlin
  obtain ⟨-, p0, p1, p3, p4, p5, p6, p7, p8, p9⟩ := hlin
  have hno : ∀ {X : vV} {S : wt_S} {zz ff}, RC b lim S X zz ff → X.1 (3926 + t) ≠ 2 → gX2_makeStep_191 b (b + 17 + 2 * t) S (-1) = some ((), S) := fun r e => c_191m (by rw [r.at ht (e := (1, 3926)) (by decide)]; exact e)
  obtain ⟨np, z, z2, z3, k, l', hP, -, hhot, ⟨r1, r2, r3⟩, -, ⟨k1, k2⟩, -, hs, -, -⟩ := hI.opn ht hb hlm
  rw [e0] at hw
  rcases hK with rfl | rfl | rfl | rfl | rfl | rfl | rfl | rfl | rfl | rfl | rfl
  · rw [if_neg (show ¬ ((0 : Int32).toInt < -1 ∨ 10 < (0 : Int32).toInt) by decide), if_neg (show ¬ (0 : Int32).toInt = -1 by decide), if_pos (show (0 : Int32).toInt = 0 by decide)]
    have h1 : V.1 (3926 + t) = 1 := hw (by decide)
    obtain ⟨s', f1, f2, f3, f4⟩ := c_rk (Z := Z) hL (K := 0) (Or.inl rfl) e0 e1 e2 e3
    rw [f1, cl_some, hno f2 (by rw [f4, h1]; decide)]
    exact ⟨s', zs, fr, rfl, f2, f3⟩
  · rw [if_neg (show ¬ ((1 : Int32).toInt < -1 ∨ 10 < (1 : Int32).toInt) by decide), if_neg (show ¬ (1 : Int32).toInt = -1 by decide), if_neg (show ¬ (1 : Int32).toInt = 0 by decide), if_pos (show (1 : Int32).toInt = 1 by decide)]
    have h1 : V.1 (3926 + t) = 1 := hw (by decide)
    obtain ⟨s', f1, f2, f3, f4⟩ := c_rk (Z := Z) hL (K := 1) (Or.inr (Or.inl rfl)) e0 e1 e2 e3
    rw [f1, cl_some, hno f2 (by rw [f4, h1]; decide)]
    exact ⟨s', zs, fr, rfl, f2, f3⟩
  · rw [if_neg (show ¬ ((2 : Int32).toInt < -1 ∨ 10 < (2 : Int32).toInt) by decide), if_neg (show ¬ (2 : Int32).toInt = -1 by decide), if_neg (show ¬ (2 : Int32).toInt = 0 by decide), if_neg (show ¬ (2 : Int32).toInt = 1 by decide), if_pos (show (2 : Int32).toInt = 2 by decide)]
    have h1 : V.1 (3926 + t) = 1 := hw (by decide)
    obtain ⟨s', f1, f2, f3, f4⟩ := c_rk (Z := Z) hL (K := 2) (Or.inr (Or.inr (Or.inl rfl))) e0 e1 e2 e3
    rw [f1, cl_some, hno f2 (by rw [f4, h1]; decide)]
    exact ⟨s', zs, fr, rfl, f2, f3⟩
  · rw [if_neg (show ¬ ((3 : Int32).toInt < -1 ∨ 10 < (3 : Int32).toInt) by decide), if_neg (show ¬ (3 : Int32).toInt = -1 by decide), if_neg (show ¬ (3 : Int32).toInt = 0 by decide), if_neg (show ¬ (3 : Int32).toInt = 1 by decide), if_neg (show ¬ (3 : Int32).toInt = 2 by decide), if_pos (show (3 : Int32).toInt = 3 by decide)]
    have h1 : V.1 (3926 + t) = 1 := hw (by decide)
    obtain ⟨s', f1, f2, f3, f4⟩ := c_rk (Z := Z) hL (K := 3) (Or.inr (Or.inr (Or.inr (Or.inl rfl)))) e0 e1 e2 e3
    rw [f1, cl_some, hno f2 (by rw [f4, h1]; decide)]
    exact ⟨s', zs, fr, rfl, f2, f3⟩
  · rw [if_neg (show ¬ ((4 : Int32).toInt < -1 ∨ 10 < (4 : Int32).toInt) by decide), if_neg (show ¬ (4 : Int32).toInt = -1 by decide), if_neg (show ¬ (4 : Int32).toInt = 0 by decide), if_neg (show ¬ (4 : Int32).toInt = 1 by decide), if_neg (show ¬ (4 : Int32).toInt = 2 by decide), if_neg (show ¬ (4 : Int32).toInt = 3 by decide), if_pos (show (4 : Int32).toInt = 4 by decide)]
    have h1 : V.1 (3926 + t) = 1 := hw (by decide)
    obtain ⟨s', f1, f2, f3, f4⟩ := c_rk (Z := Z) hL (K := 4) (Or.inr (Or.inr (Or.inr (Or.inr (Or.inl rfl))))) e0 e1 e2 e3
    rw [f1, cl_some, hno f2 (by rw [f4, h1]; decide)]
    exact ⟨s', zs, fr, rfl, f2, f3⟩
  · rw [if_neg (show ¬ ((5 : Int32).toInt < -1 ∨ 10 < (5 : Int32).toInt) by decide), if_neg (show ¬ (5 : Int32).toInt = -1 by decide), if_neg (show ¬ (5 : Int32).toInt = 0 by decide), if_neg (show ¬ (5 : Int32).toInt = 1 by decide), if_neg (show ¬ (5 : Int32).toInt = 2 by decide), if_neg (show ¬ (5 : Int32).toInt = 3 by decide), if_neg (show ¬ (5 : Int32).toInt = 4 by decide), if_pos (show (5 : Int32).toInt = 5 by decide)]
    have h1 : V.1 (3926 + t) = 1 := hw (by decide)
    obtain ⟨s', f1, f2, f3, f4⟩ := c_rk (Z := Z) hL (K := 5) (Or.inr (Or.inr (Or.inr (Or.inr (Or.inr (Or.inl rfl)))))) e0 e1 e2 e3
    rw [f1, cl_some, hno f2 (by rw [f4, h1]; decide)]
    exact ⟨s', zs, fr, rfl, f2, f3⟩
  · rw [if_neg (show ¬ ((6 : Int32).toInt < -1 ∨ 10 < (6 : Int32).toInt) by decide), if_neg (show ¬ (6 : Int32).toInt = -1 by decide), if_neg (show ¬ (6 : Int32).toInt = 0 by decide), if_neg (show ¬ (6 : Int32).toInt = 1 by decide), if_neg (show ¬ (6 : Int32).toInt = 2 by decide), if_neg (show ¬ (6 : Int32).toInt = 3 by decide), if_neg (show ¬ (6 : Int32).toInt = 4 by decide), if_neg (show ¬ (6 : Int32).toInt = 5 by decide), if_pos (show (6 : Int32).toInt = 6 by decide)]
    have h1 : V.1 (3926 + t) = 1 := hw (by decide)
    rw [vln1_6]
    obtain ⟨⟨f, rfl, f10⟩, ⟨k0, rfl, y2⟩, q3⟩ := p6 rfl
    by_cases ct : tld V.1 (nI f)
    · rw [if_pos ct, c_cf1 hL e1 ct, cl_some]
      have hfn : (nI f).toInt.toNat = f := by rw [nI_int (by omega)]; rfl
      have hsz := (hj.1.sz hft).2
      have hkn : (nI k0).toInt.toNat = k0 := by rw [nI_int (by omega)]; rfl
      have hs1 : 1 ≤ vsz V.1 f := by
        have := ct.2
        rw [hfn] at this
        unfold vsz
        omega
      have hvc : vcal V.1 (vlf V t).1 l = nI f := by
        unfold vcal
        rw [e0, if_pos rfl]; exact e1
      rw [hfn, hkn]
      refine c_call (fo := false) (l := l) hR hx hP f10 hs1 hI.1.2.2.1 r1 r3 k1 ?_ ⟨h0, h75, hll, hl, e0, e2, y2, h1⟩ ⟨l, hl, by rw [hvc]; exact ct, by rw [hvc]; exact hfn⟩ rfl
      rcases hs with e | ⟨k, e1, e2⟩
      · exact Or.inl e
      · exact Or.inr ⟨k, e1, e2, hI.sdt ht e1 e2⟩
    · obtain ⟨s', f1, f2, f3⟩ := c_cf0 hL e1 e3 q3 ct
      rw [if_neg ct, f1, cl_some, hno f2 (by show V.1 (3926 + t) ≠ 2; rw [h1]; decide)]
      exact ⟨s', zs, fr, rfl, f2, f3⟩
  · rw [if_neg (show ¬ ((7 : Int32).toInt < -1 ∨ 10 < (7 : Int32).toInt) by decide), if_neg (show ¬ (7 : Int32).toInt = -1 by decide), if_neg (show ¬ (7 : Int32).toInt = 0 by decide), if_neg (show ¬ (7 : Int32).toInt = 1 by decide), if_neg (show ¬ (7 : Int32).toInt = 2 by decide), if_neg (show ¬ (7 : Int32).toInt = 3 by decide), if_neg (show ¬ (7 : Int32).toInt = 4 by decide), if_neg (show ¬ (7 : Int32).toInt = 5 by decide), if_neg (show ¬ (7 : Int32).toInt = 6 by decide), if_pos (show (7 : Int32).toInt = 7 by decide)]
    have h1 : V.1 (3926 + t) = 1 := hw (by decide)
    obtain ⟨s', f1, f2, f3, f4⟩ := c_rk (Z := Z) hL (K := 7) (Or.inr (Or.inr (Or.inr (Or.inr (Or.inr (Or.inr rfl)))))) e0 e1 e2 e3
    rw [f1, cl_some, hno f2 (by rw [f4, h1]; decide)]
    exact ⟨s', zs, fr, rfl, f2, f3⟩
  · rw [if_neg (show ¬ ((8 : Int32).toInt < -1 ∨ 10 < (8 : Int32).toInt) by decide), if_neg (show ¬ (8 : Int32).toInt = -1 by decide), if_neg (show ¬ (8 : Int32).toInt = 0 by decide), if_neg (show ¬ (8 : Int32).toInt = 1 by decide), if_neg (show ¬ (8 : Int32).toInt = 2 by decide), if_neg (show ¬ (8 : Int32).toInt = 3 by decide), if_neg (show ¬ (8 : Int32).toInt = 4 by decide), if_neg (show ¬ (8 : Int32).toInt = 5 by decide), if_neg (show ¬ (8 : Int32).toInt = 6 by decide), if_neg (show ¬ (8 : Int32).toInt = 7 by decide), if_pos (show (8 : Int32).toInt = 8 by decide)]
    have h1 : V.1 (3926 + t) = 1 := hw (by decide)
    rw [vln1_8]
    obtain ⟨a, rfl, a2, a3, a4, a5⟩ := vnum_nat hj.1 hft (p8 rfl)
    rw [c_part1 hR.2.2.2.2.2 hj.1 hft hl, cl_some, e1, hL.t11, hL.n a3 a5, cl_some]
    obtain ⟨s', zs', fr', f1, f2, f3⟩ := c_ret (Z := Z) (v := vnm (vlf V t) (nI a)) (hR.bt ht) hL.t11 hx hI ht hb
    have := vrt_26 (Z := Z) (v := vnm (vlf V t) (nI a)) hs
    rw [h1] at this
    rw [f1, cl_some, hno f2 (by rcases this with e | e <;> rw [e] <;> decide)]
    exact ⟨s', zs', fr', rfl, f2, f3⟩
  · rw [if_neg (show ¬ ((9 : Int32).toInt < -1 ∨ 10 < (9 : Int32).toInt) by decide), if_neg (show ¬ (9 : Int32).toInt = -1 by decide), if_neg (show ¬ (9 : Int32).toInt = 0 by decide), if_neg (show ¬ (9 : Int32).toInt = 1 by decide), if_neg (show ¬ (9 : Int32).toInt = 2 by decide), if_neg (show ¬ (9 : Int32).toInt = 3 by decide), if_neg (show ¬ (9 : Int32).toInt = 4 by decide), if_neg (show ¬ (9 : Int32).toInt = 5 by decide), if_neg (show ¬ (9 : Int32).toInt = 6 by decide), if_neg (show ¬ (9 : Int32).toInt = 7 by decide), if_neg (show ¬ (9 : Int32).toInt = 8 by decide), if_pos (show (9 : Int32).toInt = 9 by decide)]
    rw [vln1_9]
    exact c_foreign hL hI hb hlm hll e0 e1 e2 e3
  · rw [if_neg (show ¬ ((10 : Int32).toInt < -1 ∨ 10 < (10 : Int32).toInt) by decide), if_neg (show ¬ (10 : Int32).toInt = -1 by decide), if_neg (show ¬ (10 : Int32).toInt = 0 by decide), if_neg (show ¬ (10 : Int32).toInt = 1 by decide), if_neg (show ¬ (10 : Int32).toInt = 2 by decide), if_neg (show ¬ (10 : Int32).toInt = 3 by decide), if_neg (show ¬ (10 : Int32).toInt = 4 by decide), if_neg (show ¬ (10 : Int32).toInt = 5 by decide), if_neg (show ¬ (10 : Int32).toInt = 6 by decide), if_neg (show ¬ (10 : Int32).toInt = 7 by decide), if_neg (show ¬ (10 : Int32).toInt = 8 by decide), if_neg (show ¬ (10 : Int32).toInt = 9 by decide), if_pos (show (10 : Int32).toInt = 10 by decide)]
    have h1 : V.1 (3926 + t) = 1 := hw (by decide)
    rw [vln1_10]
    obtain ⟨s', zs', fr', f1, f2, f3⟩ := c_quiet hR hx hP r1 r3
    rw [f1, cl_some, hno f2 (by rw [(vqu_w (by omega) (by omega) (by omega) (by omega) (by omega) (by omega)).1, h1]; decide)]
    exact ⟨s', zs', fr', rfl, f2, f3⟩
theorem c_step (h : RC b lim s V zs fr) (hx : CX b lim) (hI : VI lim B V) (ht : t < 6) (hb : vbz V.1 t) (hW : WL V t) : ∃ s' zs' fr', gX2_makeStep b (b + 17 + 2 * t) s = some ((), s') ∧ RC b lim s' (vst lim Z V t) zs' fr' ∧ TO b t s s' := by
  have hlm := hx.2.2
  obtain ⟨np, z, z2, z3, k, l, hP, h0, -, -, -, -, ⟨l1, l2⟩, hsd0, -, -⟩ := hI.opn ht hb hlm
  obtain ⟨hj, hc, -, -, -, -, -, -, -⟩ := hP
  have d5 := (hc.2.2.2.2.2.2.1 h0).2.2.2.2
  have hft := (vbz_f hI ht hb).2
  have hI1 : VI lim B (vinc V (3947 + t)) := hI.vs ht hb (vown_t (c := 3947) (by omega)) (by omega) (fun e => absurd e (by omega))
  have hb1 : vbz (vinc V (3947 + t)).1 t := by unfold vbz; rw [vinc_ne (by omega)]; exact hb
  have hI2 : VI lim B (vcn (vinc V (3947 + t)) 2 1) := hI1.vs ht hb1 (Or.inl (by omega)) (by omega) (fun e => absurd e (by omega))
  have hb2 : vbz (vcn (vinc V (3947 + t)) 2 1).1 t := by unfold vbz; rw [vcn_ne (by omega)]; exact hb1
  have hll : (V.1 (3968 + t)).toInt.toNat = l := by rw [l1, nI_int (by omega)]; rfl
  obtain ⟨S1, a1, a2, a3, -⟩ := c_adds h hx hj.1 hj.vfr ht (e := (2, 3947)) (by decide) (v := 1)
  have a1 : gX9_add b (b + 17 + 2 * t) s 2 1 = some ((), S1) := a1
  have a2 : RC b lim S1 (vcn (vinc V (3947 + t)) 2 1) zs fr := a2
  unfold vst
  dsimp only
  rw [hll]
  generalize hV1 : vcn (vinc V (3947 + t)) 2 1 = V1 at *
  have hat : ∀ i, i ≠ 3947 + t → i ≠ 2056 → V1.1 i = V.1 i := fun i g1 g2 => by rw [← hV1, vcn_ne (by omega), vinc_ne g1]
  have hV12 : V1.2 = V.2 := by rw [← hV1]; rfl
  have hw1 : vpe V.1 V1.1 := fun i hi => hat i (by omega) (by omega)
  have hlf1 : vlf V1 t = vlf V t := by unfold vlf; rw [hV12]
  have h01 : 0 < V1.2.2.1 t := by rw [hV12]; exact h0
  have k68 : V1.1 (3968 + t) = nI l := (hat _ (by omega) (by omega)).trans l1
  have t9 : S1 (b + 17 + 2 * t) 9 = nI (vlf V t).1 := (a2.at ht (e := (9, 3975)) (by decide)).trans ((hat _ (by omega) (by omega)).trans d5)
  have t10 : S1 (b + 17 + 2 * t) 10 = nI l := ((a2.2.2.2.1 t ht).2.1.2 h01).1.trans k68
  have t11 := ((a2.2.2.2.1 t ht).2.1.2 h01).2
  unfold gX2_makeStep
  rw [a1, cl_some, t9, t10]
  by_cases cl : l < vli V.1 (vlf V t).1
  · have hl16 : l < 16 := by have := (hI.2.1.li hft).2; omega
    rw [if_pos cl, c_part0 a2.2.2.2.2.2 hI2.2.1 hft (by rw [(hw1.sz hft).2.2.1]; exact cl), cl_some, hw1.co0 hft hl16, wr_eq, k68, nI_1]
    have hI3 : VI lim B (vs V1 (3968 + t) (nI (l + 1))) := hI2.vs ht hb2 (vown_t (c := 3968) (by omega)) (by omega) (fun _ => ⟨l + 1, by omega, rfl⟩)
    have hb3 : vbz (vs V1 (3968 + t) (nI (l + 1))).1 t := by unfold vbz; rw [vs_ne (by omega)]; exact hb2
    have hR3 := a2.line (v := nI (l + 1)) hx hI2.J ht h01
    have hT3 : TO b t S1 (wt_u S1 (b + 17 + 2 * t) 10 (nI (l + 1))) := TO.u (Or.inr (Or.inl rfl)) ht
    have hat3 : ∀ i, i ≠ 3968 + t → i ≠ 3947 + t → i ≠ 2056 → (vs V1 (3968 + t) (nI (l + 1))).1 i = V.1 i := fun i g0 g1 g2 => (vs_ne g0).trans (hat i g1 g2)
    have hL3 : (vs V1 (3968 + t) (nI (l + 1))).1 (3968 + t) = nI (l + 1) := vs_at
    have e32 : (vs V1 (3968 + t) (nI (l + 1))).2 = V.2 := hV12
    generalize hV3 : vs V1 (3968 + t) (nI (l + 1)) = V3 at *
    generalize hS3 : wt_u S1 (b + 17 + 2 * t) 10 (nI (l + 1)) = S3 at *
    have hw3 : vpe V.1 V3.1 := fun i hi => hat3 i (by omega) (by omega) (by omega)
    have hlf : vlf V3 t = vlf V t := by unfold vlf; rw [e32]
    have hLC : LC b lim S3 V3 zs fr t l := ⟨hR3, hx, hI3.J, ht, by rw [e32]; exact h0, by rw [hlf, hat3 _ (by omega) (by omega) (by omega)]; exact d5, by rw [hlf, (hw3.sz hft).2.2.1]; exact cl⟩
    have key := c_line (Z := Z) (A := V.1 (vco (vlf V t).1 l + 1)) (Bb := V.1 (vco (vlf V t).1 l + 2)) (C := V.1 (vco (vlf V t).1 l + 3)) (K := V.1 (vco (vlf V t).1 l)) hLC hI3 hb3 hL3 (by rw [hlf, hw3.co hft hl16 (by omega)]) (by rw [hlf, hw3.co hft hl16 (by omega)]) (by rw [hlf, hw3.co hft hl16 (by omega)]) (fun k9 => by
      rw [hlf, hw3.co0 hft hl16] at k9
      rw [hat3 _ (by omega) (by omega) (by omega)]
      rcases hb with e | e
      · exact e
      · obtain ⟨l', e1, e2, e3⟩ := hW e
        have := (hI.2.1.li hft).2
        have : l' = l := (nI_inj (by omega) (by omega)).mp (e1.symm.trans l1)
        rw [this] at e3
        exact absurd e3 k9) (by rw [hlf, hw3.co0 hft hl16])
    rw [hlf] at key
    obtain ⟨s', zs', fr', f1, f2, f3⟩ := key
    exact ⟨s', zs', fr', f1, f2, (a3.trans hT3).trans f3⟩
  · have h1 : V1.1 (3926 + t) = 1 := by
      rw [hat _ (by omega) (by omega)]
      rcases hb with e | e
      · exact e
      · obtain ⟨l', e1, e2, e3⟩ := hW e
        have := (hI.2.1.li hft).2
        have : l' = l := (nI_inj (by omega) (by omega)).mp (e1.symm.trans l1)
        omega
    have hli1 : vli V1.1 (vlf V t).1 ≤ l := by rw [(hw1.sz hft).2.2.1]; omega
    rw [if_neg cl, c_part_n a2.2.2.2.2.2 hI2.2.1 hft hli1 (by omega), cl_some, wr_eq, if_neg (show ¬ ((-1 : Int32).toInt < -1 ∨ 10 < (-1 : Int32).toInt) by decide), if_pos (show (-1 : Int32).toInt = -1 by decide)]
    obtain ⟨s', zs', fr', f1, f2, f3⟩ := c_ret (Z := Z) (v := 0) ((a2.bt ht).l10 (v := nI l + 1) hx ht) (by rw [wt_u_nk (by omega)]; exact t11) hx hI2 ht hb2
    have := vrt_26 (Z := Z) (V := V1) (t := t) (v := 0) (by rw [hat _ (by omega) (by omega)]; exact hsd0)
    rw [h1] at this
    rw [f1, cl_some, c_191m (by rw [f2.at ht (e := (1, 3926)) (by decide)]; rcases this with e | e <;> rw [e] <;> decide)]
    exact ⟨s', zs', fr', rfl, f2, (a3.trans (TO.u (Or.inr (Or.inl rfl)) ht)).trans f3⟩
end
end
