/-! ===== the class: the last frame goes, whatever LINE is ===== -/
section
variable {b lim : Nat} {s s' : wt_S} {V V' : vV} {zs zs' : List (vP × Nat)} {fr fr' : List Nat} {t np k n m z : Nat} {v : Int32} {Z : (Nat → Int32) → Int32 → Int32 → Int32 → Bool}
theorem RC.bt (h : RC b lim s V zs fr) (ht : t < 6) : RBt b lim s V zs fr t := by
  obtain ⟨h1, h2, h3, h4, h5, h6⟩ := h
  obtain ⟨k1, -, k3, k4, k5, k6⟩ := h4 t ht
  exact ⟨h1, h2, h3, ⟨fun k hk _ => h4 k hk, k1, trivial, k3, k4, k5, k6⟩, h5, h6⟩
theorem RBt.l10 (h : RBt b lim s V zs fr t) (hx : CX b lim) (ht : t < 6) : RBt b lim (wt_u s (b + 17 + 2 * t) 10 v) V zs fr t := by
  have hb := hx.b
  obtain ⟨h1, h2, h3, ⟨ho, ⟨a0, a1, a2⟩, -, ⟨p1, p2⟩, ⟨r1, r2⟩, g, zz⟩, h5, h6⟩ := h
  have hg : ∀ c, c ≠ b + 17 + 2 * t → wt_u s (b + 17 + 2 * t) 10 v c = s c := fun c hc => wt_u_ne hc
  have hT : ∀ j, j ≠ 10 → wt_u s (b + 17 + 2 * t) 10 v (b + 17 + 2 * t) j = s (b + 17 + 2 * t) j := fun j hj => wt_u_nk hj
  refine ⟨h1, h2.eq (fun c hc => hg c (by omega)), ⟨fun j hj => ?_, fun j hj => ?_⟩, ⟨fun k hk hne => ?_, ⟨?_, fun e he => ?_, fun e he => ?_⟩, trivial, ⟨?_, ?_⟩, ⟨?_, ?_⟩, ?_, fun z hz hzt => ?_⟩, ?_, ⟨fun f hf => ?_, fun j hj => ?_⟩⟩
  · rw [hg _ (by omega)]; exact h3.1 j hj
  · rw [hg _ (by omega)]; exact h3.2 j hj
  · have := ho k hk hne
    unfold RCk Ks Kl Ka Kr Kg Kz at this ⊢
    rw [hg (b + 17 + 2 * k) (by omega), hg (b + 17 + 2 * k + 1) (by omega), hg (b + 5) (by omega), hg (b + 6) (by omega)]
    exact this
  · rw [hT _ (by omega)]; exact a0
  · have := tf_n e he
    rw [hT _ (by omega)]; exact a1 e he
  · rw [hg _ (by omega)]; exact a2 e he
  · rw [hT _ (by omega)]; exact p1
  · rw [hT _ (by omega)]; exact p2
  · rw [hT _ (by omega)]; exact r1
  · rw [hT _ (by omega)]; exact r2
  · unfold Kg
    rw [hT _ (by omega)]; exact g
  · rw [hg (b + 5) (by omega), hg (b + 6) (by omega)]; exact zz z hz hzt
  · rw [hg _ (by omega)]; exact h5
  · rw [hg (5 + 1) (by omega), hg (5 + 2) (by omega), hg (5 + 3) (by omega), hg (5 + 5) (by omega)]; exact h6.1 f hf
  · rw [hg (5 + 4) (by omega)]; exact h6.2 j hj
theorem c_goneL (h : RBt b lim s V zs fr t) (hx : CX b lim) (hj : VJ lim V) (ht : t < 6) (h0 : 0 < V.2.2.1 t) {y : vP × Nat} (hy : y ∈ zs) (y1 : y.1.2.2.1 = t) (y2 : y.1.2.2.2 = (vlf V t).2.1) : RBt b lim (wt_u (wt_u (wt_u s (b + 5) y.2 (s (b + 5) y.2 + -(nI (vwd V.1 (vlf V t).1)))) (b + 17 + 2 * t) 5 (s (b + 17 + 2 * t) 5 - nI (vwd V.1 (vlf V t).1))) (b + 17 + 2 * t) 4 (s (b + 17 + 2 * t) 4 - 1)) (vgn V t) zs fr t := by
  have hb := hx.b
  obtain ⟨m, hm⟩ : ∃ m, V.2.2.1 t = m + 1 := ⟨V.2.2.1 t - 1, by omega⟩
  have hlf : vlf V t = V.2.2.2 t m := by unfold vlf; rw [hm, Nat.add_sub_cancel]
  have hft : (vlf V t).1 < 10 := by rw [hlf]; exact hj.vfr t ht m (by omega)
  have hwd := hj.1.wd hft
  obtain ⟨⟨a0, a1, a2⟩, -, ⟨p1, p2⟩, ⟨r1, r2⟩, g, zz⟩ := h.2.2.2.1.2
  have e4 : s (b + 17 + 2 * t) 4 = V.1 (3954 + t) := a1 (4, 3954) (by decide)
  have e5 : s (b + 17 + 2 * t) 5 = V.1 (3961 + t) := a1 (5, 3961) (by decide)
  have hv : ∀ i, i ≠ 3961 + t → i ≠ 3954 + t → (vgn V t).1 i = V.1 i := fun i i1 i2 => (vs_ne i2).trans (vs_ne i1)
  have hv4 : (vgn V t).1 (3954 + t) = V.1 (3954 + t) - 1 := vs_at
  have hv5 : (vgn V t).1 (3961 + t) = V.1 (3961 + t) - nI (vwd V.1 (vlf V t).1) := by rw [← hwd.1]; exact (vs_ne (by omega)).trans vs_at
  have hw : vpe V.1 (vgn V t).1 := fun i hi => hv i (by omega) (by omega)
  have hn1 : (vgn V t).2.2.1 t = m := by show mj_upd V.2.2.1 t (V.2.2.1 t - 1) t = m; rw [mj_upd_self, hm, Nat.add_sub_cancel]
  generalize hS : wt_u (wt_u (wt_u s (b + 5) y.2 (s (b + 5) y.2 + -(nI (vwd V.1 (vlf V t).1)))) (b + 17 + 2 * t) 5 (s (b + 17 + 2 * t) 5 - nI (vwd V.1 (vlf V t).1))) (b + 17 + 2 * t) 4 (s (b + 17 + 2 * t) 4 - 1) = S
  have hc : ∀ c, c ≠ b + 5 → c ≠ b + 17 + 2 * t → S c = s c := fun c c1 c2 => by rw [← hS, wt_u_ne c2, wt_u_ne c2, wt_u_ne c1]
  have tj : ∀ j, j ≠ 4 → j ≠ 5 → S (b + 17 + 2 * t) j = s (b + 17 + 2 * t) j := fun j j4 j5 => by rw [← hS, wt_u_nk j4, wt_u_nk j5, wt_u_ne (by omega)]
  have t4 : S (b + 17 + 2 * t) 4 = V.1 (3954 + t) - 1 := by rw [← hS, wt_u_self, e4]
  have t5 : S (b + 17 + 2 * t) 5 = V.1 (3961 + t) - nI (vwd V.1 (vlf V t).1) := by rw [← hS, wt_u_nk (by omega), wt_u_self, e5]
  have c5 : ∀ x, x ≠ y.2 → S (b + 5) x = s (b + 5) x := fun x hx => by rw [← hS, wt_u_ne (by omega), wt_u_ne (by omega), wt_u_nk hx]
  have c5y : S (b + 5) y.2 = s (b + 5) y.2 + -(nI (vwd V.1 (vlf V t).1)) := by rw [← hS, wt_u_ne (by omega), wt_u_ne (by omega), wt_u_self]
  have h6 : S (b + 6) = s (b + 6) := hc _ (by omega) (by omega)
  have hto : TO b t s S := by rw [← hS]; exact ((TO.u (by omega) ht).trans (TO.u (by omega) ht)).trans (TO.u (by omega) ht)
  have hot : OT t V (vgn V t) := ((OT.vs ht (vown_t (c := 3961) (by omega))).trans (OT.vs ht (vown_t (c := 3954) (by omega)))).trans OT.nf
  refine h.op hx hj.1 hot ht hto hj.vfr (fun z _ => Iff.rfl) (fun z hz hzt => ⟨c5 _ (fun e => hzt (by rw [h.2.1.inj hz hy e]; exact y1)), by rw [h6]⟩) h.1 (h.2.1.eq (fun c hc' => hc c (by omega) (by omega))) (h.2.2.1.keep (hc _ (by omega) (by omega)) (hc _ (by omega) (by omega)) (fun i _ _ => hv i (by omega) (by omega))) ⟨⟨?_, fun e he => ?_, fun e he => ?_⟩, trivial, ⟨?_, fun z hz e q => ?_⟩, ⟨fun z hz e q => ?_, fun e => ?_⟩, ?_, fun z hz e => ?_⟩ ?_
  · rw [tj _ (by omega) (by omega)]; exact a0
  · have hk := a1 e he
    simp only [tf, List.mem_cons, List.not_mem_nil, or_false] at he
    rcases he with rfl | rfl | rfl | rfl | rfl | rfl | rfl | rfl | rfl | rfl
    · rw [tj _ (by omega) (by omega), hv _ (by omega) (by omega)]; exact hk
    · rw [tj _ (by omega) (by omega), hv _ (by omega) (by omega)]; exact hk
    · rw [tj _ (by omega) (by omega), hv _ (by omega) (by omega)]; exact hk
    · exact t4.trans hv4.symm
    · exact t5.trans hv5.symm
    · rw [tj _ (by omega) (by omega), hv _ (by omega) (by omega)]; exact hk
    · rw [tj _ (by omega) (by omega), hv _ (by omega) (by omega)]; exact hk
    · rw [tj _ (by omega) (by omega), hv _ (by omega) (by omega)]; exact hk
    · rw [tj _ (by omega) (by omega), hv _ (by omega) (by omega)]; exact hk
    · rw [tj _ (by omega) (by omega), hv _ (by omega) (by omega)]; exact hk
  · have hk := a2 e he
    simp only [ts, List.mem_cons, List.not_mem_nil, or_false] at he
    rcases he with rfl | rfl | rfl | rfl | rfl | rfl | rfl <;> (rw [hc _ (by omega) (by omega), hv _ (by omega) (by omega)]; exact hk)
  · rw [tj _ (by omega) (by omega), hv _ (by omega) (by omega)]; exact p1
  · rw [tj _ (by omega) (by omega)]; rw [hv _ (by omega) (by omega)] at q; exact p2 z hz e q
  · rw [tj _ (by omega) (by omega)]; exact r1 z hz e q
  · rw [tj _ (by omega) (by omega)]; exact r2 e
  · unfold Kg
    rw [tj _ (by omega) (by omega), hv _ (by omega) (by omega), hv _ (by omega) (by omega)]; exact g
  · obtain ⟨q1, q2, q3⟩ := zz z hz e
    rw [h6, hn1]
    refine ⟨?_, q2, q3⟩
    show S (b + 5) z.2 = nI (vud (vgn V t).1 (V.2.2.2 t) z.1.2.2.2 m)
    rw [vud_pe (w := V.1) hw (fun i hi => hj.vfr t ht i (by omega))]
    rw [hm] at q1
    have q1 : s (b + 5) z.2 = nI (vud V.1 (V.2.2.2 t) z.1.2.2.2 m + if (V.2.2.2 t m).2.1 = z.1.2.2.2 then vwd V.1 (V.2.2.2 t m).1 else 0) := q1
    by_cases c : z.2 = y.2
    · have hzy := h.2.1.inj hz hy c
      subst hzy
      rw [c5y, q1, if_pos (by rw [← hlf]; exact y2.symm), hlf, ← Int32.sub_eq_add_neg, nI_sub (by omega), Nat.add_sub_cancel]
    · rw [c5 _ c, q1, if_neg (fun q => c (by rw [zuniq h.1 hj.2.2.1 hz hy (e.trans y1.symm) (q.symm.trans (by rw [y2, hlf]))])), Nat.add_zero]
  · rw [hc _ (by omega) (by omega)]
    refine VM.ps hj h.2.2.2.2.1 (fun i i1 i2 => hv i (by omega) (by omega)) (fun t' ht' => ⟨?_, fun i hi => ⟨rfl, rfl⟩⟩)
    by_cases c : t' = t
    · subst c; rw [hn1]; omega
    · show mj_upd V.2.2.1 t (V.2.2.1 t - 1) t' ≤ _
      rw [mj_upd_ne c]
      exact Nat.le_refl _
theorem c_leaveL (h : RBt b lim s V zs fr t) (t11 : s (b + 17 + 2 * t) 11 = nI (vpl V t (V.2.2.1 t - 1))) (hx : CX b lim) (hP : Vpre lim V t np z) (hn : V.2.2.1 t = m + 2) (hhot : V.1 2049 = 0 ∨ V.1 2049 = 1) (hk : V.1 2067 = nI k) (hef : 2048 ≤ (V.2.2.2 t (m + 1)).2.2.2.1 → ∃ ks mm, ks < 3 ∧ V.1 (3989 + t) = nI ks ∧ V.1 (3996 + t) - V.1 (vco (V.2.2.2 t m).1 ((V.2.2.2 t (m + 1)).2.2.2.1 % 32 - 1) + 1) = nI mm ∧ mm < 2147483648) : ∃ s' zs' fr', gX2_leaveFrame b (b + 17 + 2 * t) s v = some ((), s') ∧ RC b lim s' (vrt Z V t v) zs' fr' ∧ TO b t s s' := by
  have hb := hx.b
  have hxm := hx.m
  obtain ⟨hj, hc, ht, hz, h8, hzl, hl, hl2, hq⟩ := hP
  obtain ⟨n1, n2, n3⟩ := hc.mn
  obtain ⟨d1, d2, d3, d4, d5⟩ := hc.2.2.2.2.2.2.1 (by omega)
  rw [hn] at d1 d2 d3 d4 d5
  rw [show m + 2 - 1 = m + 1 from rfl] at d2 d4 d5
  have hlf : vlf V t = V.2.2.2 t (m + 1) := by unfold vlf; rw [hn]; rfl
  have hfit := hj.fit ht (show m + 1 < V.2.2.1 t by omega)
  have hp8 := hfit.2.2
  unfold vwd at hp8
  obtain ⟨M0, M1, M2, M3⟩ := h.2.2.2.2.1 t ht (m + 1) (by omega)
  have hbk := d3.bk (i := m + 1) (by omega)
  obtain ⟨b1, b2, b3, b4, b5⟩ := d3.2.2.1 m (by omega)
  have hud := d1.ud (m + 1) (by omega)
  rw [hn] at t11
  have t11 : s (b + 17 + 2 * t) 11 = nI (vpl V t (m + 1)) := t11
  have t9 : s (b + 17 + 2 * t) 9 = nI (V.2.2.2 t (m + 1)).1 := (h.2.2.2.1.2.1.2.1 (9, 3975) (by decide)).trans d5
  obtain ⟨-, y, -, y2, y3, y4, -⟩ := zfind (t := t) (n := np - 1) h.1 hj.2.2.1 (hc.2.2.2.1.1 (np - 1) (by omega))
  have e12 : s (b + 17 + 2 * t) 12 = nI y.2 := (h.ch (np := np) n1).1.2 y y2 y3 (by omega)
  have hid := (h.2.1.mem y2).1
  have hG := c_goneL h hx hj ht (by omega) y2 y3 (by rw [hlf, d2, y4])
  rw [hlf] at hG
  unfold gX2_leaveFrame
  rw [t11, c_word (by omega), cl_some, M1, if_neg (by omega), t11, show nI (vpl V t (m + 1)) + 1 = nI (vpl V t (m + 1) + 1) from nI_add _ 1, c_word (by omega), cl_some, M2, t9, c_frameWords h.2.2.2.2.2 hj.1 hfit.1, cl_some, e12, c_use hid, cl_some, wr_eq, wr_eq, wt_u_ne (show b + 17 + 2 * t ≠ b + 5 by omega), wt_u_nk (show 4 ≠ 5 by omega), wt_u_ne (show b + 17 + 2 * t ≠ b + 5 by omega)]
  have hto : TO b t s (wt_u (wt_u (wt_u s (b + 5) y.2 (s (b + 5) y.2 + -(nI (vwd V.1 (V.2.2.2 t (m + 1)).1)))) (b + 17 + 2 * t) 5 (s (b + 17 + 2 * t) 5 - nI (vwd V.1 (V.2.2.2 t (m + 1)).1))) (b + 17 + 2 * t) 4 (s (b + 17 + 2 * t) 4 - 1)) := ((TO.u (by omega) ht).trans (TO.u (by omega) ht)).trans (TO.u (by omega) ht)
  have e12' : (wt_u (wt_u (wt_u s (b + 5) y.2 (s (b + 5) y.2 + -(nI (vwd V.1 (V.2.2.2 t (m + 1)).1)))) (b + 17 + 2 * t) 5 (s (b + 17 + 2 * t) 5 - nI (vwd V.1 (V.2.2.2 t (m + 1)).1))) (b + 17 + 2 * t) 4 (s (b + 17 + 2 * t) 4 - 1)) (b + 17 + 2 * t) 12 = nI y.2 := by rw [wt_u_nk (by omega), wt_u_nk (by omega), wt_u_ne (by omega)]; exact e12
  generalize (wt_u (wt_u (wt_u s (b + 5) y.2 (s (b + 5) y.2 + -(nI (vwd V.1 (V.2.2.2 t (m + 1)).1)))) (b + 17 + 2 * t) 5 (s (b + 17 + 2 * t) 5 - nI (vwd V.1 (V.2.2.2 t (m + 1)).1))) (b + 17 + 2 * t) 4 (s (b + 17 + 2 * t) 4 - 1)) = S at *
  have hv : ∀ i, i ≠ 3961 + t → i ≠ 3954 + t → (vgn V t).1 i = V.1 i := fun i i1 i2 => (vs_ne i2).trans (vs_ne i1)
  have hw : vpe V.1 (vgn V t).1 := fun i hi => hv i (by omega) (by omega)
  have hn1 : (vgn V t).2.2.1 t = m + 1 := by show mj_upd V.2.2.1 t (V.2.2.1 t - 1) t = m + 1; rw [mj_upd_self, hn]; rfl
  have hf1 : (vgn V t).2.2.2 = V.2.2.2 := rfl
  have hp1 : (vgn V t).2.1 = V.2.1 := rfl
  have hj1 : VJ lim (vgn V t) := VJ.nf (VJ.vs (VJ.vs hj (by omega)) (by omega)) (by show V.2.2.1 t - 1 ≤ V.2.2.1 t; omega)
  have hvrt : vrt Z V t v = (let V2 := if V.1 (3933 + t) = 1 then vlv (vgn V t) t (V.2.2.2 t (m + 1)) else vgn V t; let V3 := vs (vs (vs V2 (3982 + t) (nI (vpl V2 t m))) (3975 + t) (nI ((V.2.2.2 t (m + 1)).2.2.2.1 % 1024 / 32))) (3968 + t) (nI ((V.2.2.2 t (m + 1)).2.2.2.1 % 32)); let c := vco ((V.2.2.2 t (m + 1)).2.2.2.1 % 1024 / 32) ((V.2.2.2 t (m + 1)).2.2.2.1 % 32 - 1); let V4 := vnu V3 t m (V.1 (c + 3)).toInt.toNat v; if 2048 ≤ (V.2.2.2 t (m + 1)).2.2.2.1 then vfv V4 t (V.1 (c + 1)) else V4) := by
    unfold vrt
    rw [hn, show m + 2 - 1 = m + 1 from rfl]
    dsimp only
    rw [if_neg (by omega)]
    unfold vgn
    rw [hlf, hn]
    rfl
  have hus : S (b + 5) y.2 = nI (V.2.2.2 t (m + 1)).2.2.1 := by
    have q1 := (hG.2.2.2.1.2.2.2.2.2.2 y y2 y3).1
    rw [q1, hn1, hf1, vud_pe (w := V.1) hw (fun i hi => hj.vfr t ht i (by omega)), y4, ← d2]
    have : vud V.1 (V.2.2.2 t) (V.2.2.2 t (m + 1)).2.1 (m + 1 + 1) = vud V.1 (V.2.2.2 t) (V.2.2.2 t (m + 1)).2.1 (m + 1) + vwd V.1 (V.2.2.2 t (m + 1)).1 := by
      show _ + (if _ then _ else 0) = _
      rw [if_pos rfl]
    rw [this] at hud
    congr 1
    omega
  -- behind leaving
  have key : ∀ (V2 : vV) (S2 : wt_S) zs2 fr2, RBt b lim S2 V2 zs2 fr2 t → VJ lim V2 → V2.2.2 = (vgn V t).2.2 → (∀ i, i ≠ 2067 → i ≠ 4066 + t → V2.1 i = (vgn V t).1 i) → vpl V2 t m = vpl V t m → TO b t s S2 → V2 = (if V.1 (3933 + t) = 1 then vlv (vgn V t) t (V.2.2.2 t (m + 1)) else vgn V t) → ∃ s' zs' fr', gX2_leaveFrame_112 b (b + 17 + 2 * t) S2 v (nI (vpl V t m)) (nI (V.2.2.2 t (m + 1)).2.2.2.1) = some ((), s') ∧ RC b lim s' (vrt Z V t v) zs' fr' ∧ TO b t s s' := by
    intro V2 S2 zs2 fr2 g1 g2 g3 g4 g5 g6 g7
    have hV2 : ∀ i, i ≠ 2067 → i ≠ 4066 + t → i ≠ 3961 + t → i ≠ 3954 + t → V2.1 i = V.1 i := fun i i1 i2 i3 i4 => (g4 i i1 i2).trans (hv i i3 i4)
    have hfm := hj.vfr t ht m (by omega)
    have hl16 := (hj.1.li hfm).2
    have hw2 : vpe V.1 V2.1 := fun i hi => hV2 i (by omega) (by omega) (by omega) (by omega)
    have e23 : V2.2.2.2 = V.2.2.2 := by rw [g3]; rfl
    obtain ⟨s', o1, o2, o3⟩ := c_112 (m := m) (bk := (V.2.2.2 t (m + 1)).2.2.2.1) (v := v) g1 hx g2 ht (by rw [g3]; exact hn1) b1 (by rw [e23]; exact b2) b3 (by rw [e23, (hw2.sz hfm).2.2.1]; exact b4) (by rw [e23, hw2.co0 hfm (by omega)]; rcases b5 with ⟨-, e, -⟩ | ⟨-, e, -⟩; exact Or.inl e; exact Or.inr e) (fun e => by
      rw [e23, hV2 _ (by omega) (by omega) (by omega) (by omega), hV2 _ (by omega) (by omega) (by omega) (by omega), hw2.co hfm (by omega) (by omega)]
      exact hef e)
    rw [g5] at o1
    refine ⟨s', zs2, fr2, o1, ?_, g6.trans o3⟩
    rw [hvrt, ← g7]
    dsimp only at o2 ⊢
    rw [b2, hw2.co hfm (by omega) (by omega), hw2.co hfm (by omega) (by omega)] at o2
    rw [b2]
    exact o2
  have key0 : (V.2.2.2 t (m + 1)).2.2.1 ≠ 0 ∨ (V.2.2.2 t (m + 1)).2.1 = 0 → ∃ s' zs' fr', gX2_leaveFrame_112 b (b + 17 + 2 * t) S v (nI (vpl V t m)) (nI (V.2.2.2 t (m + 1)).2.2.2.1) = some ((), s') ∧ RC b lim s' (vrt Z V t v) zs' fr' ∧ TO b t s s' := fun hF => key (vgn V t) S zs fr hG hj1 rfl (fun _ _ _ => rfl) rfl hto (by rw [vlv_0 hF]; split <;> rfl)
  rw [e12', c_usedOf hid, cl_some, hus, show m + 1 - 1 = m from rfl]
  by_cases cu : (V.2.2.2 t (m + 1)).2.2.1 = 0
  · rw [cu, if_neg (by simp [nI]), e12', c_belowOf hid, cl_some]
    obtain ⟨-, q2, q3⟩ := hG.2.2.2.1.2.2.2.2.2.2 y y2 y3
    by_cases cn : np = 1
    · rw [if_pos (q2 (by omega))]
      exact key0 (Or.inr (by omega))
    · obtain ⟨-, w, -, w2, w3, w4, -⟩ := zfind (t := t) (n := np - 2) h.1 hj.2.2.1 (hc.2.2.2.1.1 (np - 2) (by omega))
      rw [if_neg (by rw [q3 w w2 w3 (by omega)]; exact nI_m1 (by have := (h.2.1.mem w2).1; omega))]
      have cm : V.1 (3933 + t) = 1 := by
        rcases hc.2.2.2.2.1 with e | e
        · exact absurd e.2.1 cn
        · exact e
      have hlt : ∀ i, i < m + 1 → (V.2.2.2 t i).2.1 < np - 1 := fun i gi => by
        have := d1.drop cu (fun i _ => by unfold vwd; omega) i gi
        omega
      have hof : vnof (vgn V t) t (np - 1) := fun i gi => by
        rw [hn1] at gi
        have := hlt i gi
        rw [hf1]
        omega
      have hof2 : vnof (vgn V t) t 1000 := fun i gi => by
        rw [hn1] at gi
        have := hlt i gi
        rw [hf1]
        omega
      have h66 : (vgn V t).1 (4066 + t) = nI np := (hv _ (by omega) (by omega)).trans n1
      have h49 : (vgn V t).1 2049 = 0 ∨ (vgn V t).1 2049 = 1 := by rw [hv _ (by omega) (by omega)]; exact hhot
      obtain ⟨S2, zs2, fr2, o1, o2, o3, o4⟩ := c_leaveP (F := V.2.2.2 t (m + 1)) hG hx hj1 ht h66 (by omega) hc.2.2.2.1 hof hof2 h49 d2 cu
      obtain ⟨v1, v2, -, -, v5, np2, -, -, v8⟩ := vlv_inv (F := V.2.2.2 t (m + 1)) (z := 0) (k := k) hj1 ht h66 hc.2.2.1 hc.2.2.2.1 d2 (fun _ _ => hof) (fun i gi => by rw [hn1] at gi; have := hlt i gi; rw [hf1]; omega) ((hv _ (by omega) (by omega)).trans hk) (fun _ _ => Nat.zero_le _)
      have hplm : vpl (vlv (vgn V t) t (V.2.2.2 t (m + 1))) t m = vpl V t m := by
        have := (v8.2 m (by rw [hn1]; omega)).2.1
        unfold vpl
        rw [show (vlv (vgn V t) t (V.2.2.2 t (m + 1))).2.2.2 = V.2.2.2 by rw [v2, hf1]]
        rw [hf1, hp1] at this
        rw [this]
      rw [o1, cl_some]
      exact key _ S2 zs2 fr2 o2 v1 v2 v5 hplm (hto.trans (o3.to ht)) (by rw [if_pos cm])
  · rw [if_pos (fun e => cu (by
      have hh : (V.2.2.2 t (m + 1)).2.2.1 < 2147483648 := by unfold vpl at hp8; omega
      exact (nI_inj hh (by omega)).mp (e.trans (show (0 : Int32) = nI 0 from rfl))))]
    exact key0 (Or.inl cu)
/-- two pictures that differ in what isn't looked at -/
theorem RC.e2 (h : RC b lim s V zs fr) (hx : CX b lim) (hp : Ipr V.1) (hf : VFR V) (h2 : V'.2 = V.2) (hw : ∀ i, i ≠ 2066 → i ≠ 2067 → V'.1 i = V.1 i) : RC b lim s V' zs fr := by
  have e : V' = vs (vs V 2066 (V'.1 2066)) 2067 (V'.1 2067) := by
    obtain ⟨W, R⟩ := V'
    have h2 : R = V.2 := h2
    subst h2
    refine Prod.ext ?_ rfl
    funext i
    show W i = mj_upd (mj_upd V.1 2066 (W 2066)) 2067 (W 2067) i
    by_cases c : i = 2067
    · subst c; rw [mj_upd_self]
    rw [mj_upd_ne c]
    by_cases c2 : i = 2066
    · subst c2; rw [mj_upd_self]
    rw [mj_upd_ne c2]
    exact hw i c2 c
  rw [e]
  exact (h.v hx hp hf (by omega)).v hx (hp.vs1 (by omega)) hf (by omega)
theorem flt_vkey {ps : List vP} {n : Nat} : (ps.filter (fun q => !vkey t n q)).filter (fun q => decide (q.2.2.1 ≠ t)) = ps.filter (fun q => decide (q.2.2.1 ≠ t)) := by
  rw [List.filter_filter]
  refine List.filter_congr (fun q _ => ?_)
  unfold vkey
  by_cases c : q.2.2.1 = t
  · simp [c]
  · simp [c]
theorem flt_ren {a c : Nat} : ∀ {ps : List vP}, (vren t a c ps).filter (fun q => decide (q.2.2.1 ≠ t)) = ps.filter (fun q => decide (q.2.2.1 ≠ t)) := by
  intro ps
  induction ps with
  | nil => rfl
  | cons q ps ih =>
    unfold vren at ih ⊢
    rw [List.map_cons]
    by_cases c1 : q.2.2.1 = t
    · have h1 : decide ((if vkey t a q then (q.1, q.2.1, q.2.2.1, c) else q).2.2.1 ≠ t) = false := by
        split <;> simp [c1]
      have h2 : decide (q.2.2.1 ≠ t) = false := by simp [c1]
      rw [List.filter_cons_of_neg (by rw [h1]; decide), List.filter_cons_of_neg (by rw [h2]; decide)]
      exact ih
    · have h0 : (if vkey t a q then (q.1, q.2.1, q.2.2.1, c) else q) = q := if_neg (by simp [vkey, c1])
      rw [h0, List.filter_cons_of_pos (by simp [c1]), List.filter_cons_of_pos (by simp [c1]), ih]
theorem flt_lv {F : vF} : (vlv V t F).2.1.filter (fun q => decide (q.2.2.1 ≠ t)) = V.2.1.filter (fun q => decide (q.2.2.1 ≠ t)) := by
  by_cases c : F.2.2.1 ≠ 0 ∨ F.2.1 = 0
  · rw [vlv_0 c]
  by_cases c2 : V.1 2049 = 0
  · rw [vlv_1 c c2]
    exact flt_vkey
  · rw [vlv_2 c c2]
    show (vren t F.2.1 1000 (vsp (vs V (4066 + t) (V.1 (4066 + t) - 1)) t).2.1).filter _ = _
    rw [flt_ren, vsp_ps]
    exact flt_vkey
theorem vga_e (h : ∀ i, i ≠ 2067 → i ≠ 4066 + t → V'.1 i = V.1 i) (h2 : V'.2.1.filter (fun q => decide (q.2.2.1 ≠ t)) = V.2.1.filter (fun q => decide (q.2.2.1 ≠ t))) (h3 : V'.2.2 = V.2.2) : (vga V' t).2 = (vga V t).2 ∧ ∀ i, i ≠ 2067 → (vga V' t).1 i = (vga V t).1 i := by
  constructor
  · rw [vga_2, vga_2, h2, h3]
  · intro i hi
    rw [vga_1, vga_1]
    by_cases c : i = 4066 + t
    · exact mj_upd_eq2 (Or.inr (mj_upd_eq2 (Or.inr (mj_upd_eq2 (Or.inr (mj_upd_eq2 (Or.inl c)))))))
    · refine mj_upd_eq2 (Or.inr (mj_upd_eq2 (Or.inr (mj_upd_eq2 (Or.inr (mj_upd_eq2 (Or.inr (mj_upd_eq2 (Or.inr (mj_upd_eq2 (Or.inr ?_)))))))))))
      rw [h (3989 + t) (by omega) (by omega)]
      split
      · exact h i hi c
      · exact mj_upd_eq2 (Or.inr (h i hi c))
theorem c_leave0L (h : RBt b lim s V zs fr t) (t11 : s (b + 17 + 2 * t) 11 = nI (vpl V t (V.2.2.1 t - 1))) (hx : CX b lim) (hP : Vpre lim V t np z) (hn : V.2.2.1 t = 1) (hhot : V.1 2049 = 0 ∨ V.1 2049 = 1) (hk : V.1 2067 = nI k) (hst : V.1 (3926 + t) ≠ 0) (hsd : V.1 (3989 + t) = -1 ∨ ∃ k, k < 3 ∧ V.1 (3989 + t) = nI k ∧ V.1 (3923 + k) = nI t) : ∃ s' zs' fr', gX2_leaveFrame b (b + 17 + 2 * t) s v = some ((), s') ∧ RC b lim s' (vrt Z V t v) zs' fr' ∧ TO b t s s' := by
  have hb := hx.b
  have hxm := hx.m
  obtain ⟨hj, hc, ht, hz, h8, hzl, hl, hl2, hq⟩ := hP
  obtain ⟨n1, n2, n3⟩ := hc.mn
  obtain ⟨d1, d2, d3, d4, d5⟩ := hc.2.2.2.2.2.2.1 (by omega)
  rw [hn] at d1 d2 d3 d4 d5
  rw [show 1 - 1 = 0 from rfl] at d2 d4 d5
  have hlf : vlf V t = V.2.2.2 t 0 := by unfold vlf; rw [hn]
  have hfit := hj.fit ht (show 0 < V.2.2.1 t by omega)
  have hp8 := hfit.2.2
  unfold vwd at hp8
  obtain ⟨M0, M1, M2, M3⟩ := h.2.2.2.2.1 t ht 0 (by omega)
  obtain ⟨g0, g1⟩ := d1.2.1
  rw [hn] at t11
  have t11 : s (b + 17 + 2 * t) 11 = nI (vpl V t 0) := t11
  have t9 : s (b + 17 + 2 * t) 9 = nI (V.2.2.2 t 0).1 := (h.2.2.2.1.2.1.2.1 (9, 3975) (by decide)).trans d5
  obtain ⟨-, y, -, y2, y3, y4, -⟩ := zfind (t := t) (n := np - 1) h.1 hj.2.2.1 (hc.2.2.2.1.1 (np - 1) (by omega))
  have e12 : s (b + 17 + 2 * t) 12 = nI y.2 := (h.ch (np := np) n1).1.2 y y2 y3 (by omega)
  have hid := (h.2.1.mem y2).1
  have hG := c_goneL h hx hj ht (by omega) y2 y3 (by rw [hlf, d2, y4])
  rw [hlf] at hG
  unfold gX2_leaveFrame
  rw [t11, c_word (by omega), cl_some, M1, if_pos rfl, t11, show nI (vpl V t 0) + 1 = nI (vpl V t 0 + 1) from nI_add _ 1, c_word (by omega), cl_some, M2, t9, c_frameWords h.2.2.2.2.2 hj.1 hfit.1, cl_some, e12, c_use hid, cl_some, wr_eq, wr_eq, wt_u_ne (show b + 17 + 2 * t ≠ b + 5 by omega), wt_u_nk (show 4 ≠ 5 by omega), wt_u_ne (show b + 17 + 2 * t ≠ b + 5 by omega)]
  have hto : TO b t s (wt_u (wt_u (wt_u s (b + 5) y.2 (s (b + 5) y.2 + -(nI (vwd V.1 (V.2.2.2 t 0).1)))) (b + 17 + 2 * t) 5 (s (b + 17 + 2 * t) 5 - nI (vwd V.1 (V.2.2.2 t 0).1))) (b + 17 + 2 * t) 4 (s (b + 17 + 2 * t) 4 - 1)) := ((TO.u (by omega) ht).trans (TO.u (by omega) ht)).trans (TO.u (by omega) ht)
  have e12' : (wt_u (wt_u (wt_u s (b + 5) y.2 (s (b + 5) y.2 + -(nI (vwd V.1 (V.2.2.2 t 0).1)))) (b + 17 + 2 * t) 5 (s (b + 17 + 2 * t) 5 - nI (vwd V.1 (V.2.2.2 t 0).1))) (b + 17 + 2 * t) 4 (s (b + 17 + 2 * t) 4 - 1)) (b + 17 + 2 * t) 12 = nI y.2 := by rw [wt_u_nk (by omega), wt_u_nk (by omega), wt_u_ne (by omega)]; exact e12
  generalize (wt_u (wt_u (wt_u s (b + 5) y.2 (s (b + 5) y.2 + -(nI (vwd V.1 (V.2.2.2 t 0).1)))) (b + 17 + 2 * t) 5 (s (b + 17 + 2 * t) 5 - nI (vwd V.1 (V.2.2.2 t 0).1))) (b + 17 + 2 * t) 4 (s (b + 17 + 2 * t) 4 - 1)) = S at *
  have hv : ∀ i, i ≠ 3961 + t → i ≠ 3954 + t → (vgn V t).1 i = V.1 i := fun i i1 i2 => (vs_ne i2).trans (vs_ne i1)
  have hn1 : (vgn V t).2.2.1 t = 0 := by show mj_upd V.2.2.1 t (V.2.2.1 t - 1) t = 0; rw [mj_upd_self, hn]
  have hf1 : (vgn V t).2.2.2 = V.2.2.2 := rfl
  have hp1 : (vgn V t).2.1 = V.2.1 := rfl
  have hj1 : VJ lim (vgn V t) := VJ.nf (VJ.vs (VJ.vs hj (by omega)) (by omega)) (by show V.2.2.1 t - 1 ≤ V.2.2.1 t; omega)
  have hvrt : vrt Z V t v = vdn Z (vgn V t) t v := by
    unfold vrt vgn
    rw [hlf, hn]
    rfl
  have hsd0 : V.1 (3989 + t) = -1 ∨ ∃ k, k < 3 ∧ V.1 (3989 + t) = nI k := by
    rcases hsd with e | ⟨k, e1, e2, -⟩
    · exact Or.inl e
    · exact Or.inr ⟨k, e1, e2⟩
  have hsd1 : (vgn V t).1 (3989 + t) = -1 ∨ ∃ k, k < 3 ∧ (vgn V t).1 (3989 + t) = nI k := by rw [hv _ (by omega) (by omega)]; exact hsd0
  have hus : S (b + 5) y.2 = nI 0 := by
    have q1 := (hG.2.2.2.1.2.2.2.2.2.2 y y2 y3).1
    rw [q1, hn1]
    rfl
  have h66 : (vgn V t).1 (4066 + t) = nI np := (hv _ (by omega) (by omega)).trans n1
  have h49 : (vgn V t).1 2049 = 0 ∨ (vgn V t).1 2049 = 1 := by rw [hv _ (by omega) (by omega)]; exact hhot
  have h26 : (vgn V t).1 (3926 + t) ≠ 0 := by rw [hv _ (by omega) (by omega)]; exact hst
  -- behind leaving
  have key : ∀ (V2 : vV) (S2 : wt_S) zs2 fr2 np2, RBt b lim S2 V2 zs2 fr2 t → VJ lim V2 → V2.2.2 = (vgn V t).2.2 → (∀ i, i ≠ 2067 → i ≠ 4066 + t → V2.1 i = (vgn V t).1 i) → V2.2.1.filter (fun q => decide (q.2.2.1 ≠ t)) = (vgn V t).2.1.filter (fun q => decide (q.2.2.1 ≠ t)) → TO b t s S2 → V2.1 (4066 + t) = nI np2 → np2 ≤ 256 → Itp V2.2.1 t np2 → ∃ s' zs' fr', gX2_leaveFrame_112 b (b + 17 + 2 * t) S2 v (-1) (nI (V.2.2.2 t 0).2.2.2.1) = some ((), s') ∧ RC b lim s' (vrt Z V t v) zs' fr' ∧ TO b t s s' := by
    intro V2 S2 zs2 fr2 np2 g1 g2 g3 g4 g5 g6 g7 g8 g9
    obtain ⟨s', zs', fr', o1, o2, o3⟩ := c_endL (v := v) g1 hx g2 ht g7 g8 g9 (by rw [g4 _ (by omega) (by omega)]; exact h26) (by
      rw [g4 _ (by omega) (by omega), hv _ (by omega) (by omega)]
      rcases hsd with e | ⟨k, e1, e2, e3⟩
      · exact Or.inl e
      · exact Or.inr ⟨k, e1, e2, by rw [g4 _ (by omega) (by omega), hv _ (by omega) (by omega)]; exact e3⟩)
    refine ⟨s', zs', fr', ?_, ?_, g6.trans o3⟩
    · unfold gX2_leaveFrame_112
      rw [if_neg (by simp)]
      exact o1
    · have hV2 : VJ lim (vs V2 (3940 + t) v) := VJ.vs g2 (by omega)
      have hga := vga_e (t := t) (V := vs (vgn V t) (3940 + t) v) (V' := vs V2 (3940 + t) v) (fun i i1 i2 => by
        by_cases c : i = 3940 + t
        · subst c; rw [vs_at, vs_at]
        · rw [vs_ne c, vs_ne c]; exact g4 i i1 i2) g5 g3
      have hpX : vpe V2.1 (vga (vs V2 (3940 + t) v) t).1 := fun i hi => by
        have q : (vs V2 (3940 + t) v).1 (3989 + t) = -1 ∨ ∃ k, k < 3 ∧ (vs V2 (3940 + t) v).1 (3989 + t) = nI k := by
          rw [vs_ne (by omega), g4 _ (by omega) (by omega)]; exact hsd1
        exact ((vga_i q).2 (by omega)).trans (vs_ne (by omega))
      have hfX : VFR (vga (vs V2 (3940 + t) v) t) := fun k hk i hi => by
        rw [vga_2] at hi ⊢
        refine hV2.vfr k hk i ?_
        have hi : i < mj_upd V2.2.2.1 t 0 k := hi
        by_cases e : k = t
        · subst e; rw [mj_upd_self] at hi; omega
        · rw [mj_upd_ne e] at hi; exact hi
      have hp2 : Ipr (vlg1 (vcn (vs (vga (vs V2 (3940 + t) v) t) (3926 + t) 3) 0 1)).1 := ((g2.1.ww hpX).ww (vpe.upd (by omega))).ww ((vpe.upd (by omega)).trans (vpe.upd (by omega)))
      rw [hvrt]
      unfold vdn
      dsimp only
      rw [vdn_o hsd1]
      have r1 : RC b lim s' (vlg1 (vcn (vs (vga (vs (vgn V t) (3940 + t) v) t) (3926 + t) 3) 0 1)) zs' fr' := by
        refine o2.e2 hx hp2 hfX hga.1.symm (fun i i1 i2 => ?_)
        have e26 : ∀ (X : vV), (vlg1 (vcn (vs X (3926 + t) 3) 0 1)).1 i = mj_upd (mj_upd X.1 (3926 + t) 3) 2054 ((mj_upd X.1 (3926 + t) 3) 2054 + 1) i := fun X => vs_ne (by omega)
        rw [e26, e26]
        have e54 : ∀ (X : vV), mj_upd X.1 (3926 + t) 3 2054 = X.1 2054 := fun X => mj_upd_ne (by omega)
        rw [e54, e54, hga.2 2054 (by omega)]
        by_cases c : i = 2054
        · subst c; rw [mj_upd_self, mj_upd_self]
        · rw [mj_upd_ne c, mj_upd_ne c]
          exact (mj_upd_eq2 (Or.inr (hga.2 i i2))).symm
      split
      · have hp3 : Ipr (vlg1 (vcn (vs (vga (vs (vgn V t) (3940 + t) v) t) (3926 + t) 3) 0 1)).1 := by
          have q : (vs (vgn V t) (3940 + t) v).1 (3989 + t) = -1 ∨ ∃ k, k < 3 ∧ (vs (vgn V t) (3940 + t) v).1 (3989 + t) = nI k := by
            rw [vs_ne (by omega)]; exact hsd1
          have hpY : vpe (vgn V t).1 (vga (vs (vgn V t) (3940 + t) v) t).1 := fun i hi => ((vga_i q).2 (by omega)).trans (vs_ne (by omega))
          exact ((hj1.1.ww hpY).ww (vpe.upd (by omega))).ww ((vpe.upd (by omega)).trans (vpe.upd (by omega)))
        have hfY : VFR (vga (vs (vgn V t) (3940 + t) v) t) := fun k hk i hi => by
          have := hfX k hk i
          rw [hga.1] at this
          exact this hi
        exact r1.v hx hp3 hfY (by omega)
      · exact r1
  rw [e12', c_usedOf hid, cl_some, hus, if_neg (by simp [nI]), e12', c_belowOf hid, cl_some]
  obtain ⟨-, q2, q3⟩ := hG.2.2.2.1.2.2.2.2.2.2 y y2 y3
  by_cases cn : np = 1
  · rw [if_pos (q2 (by omega))]
    exact key (vgn V t) S zs fr np hG hj1 rfl (fun _ _ _ => rfl) rfl hto h66 (by omega) hc.2.2.2.1
  · obtain ⟨-, w, -, w2, w3, w4, -⟩ := zfind (t := t) (n := np - 2) h.1 hj.2.2.1 (hc.2.2.2.1.1 (np - 2) (by omega))
    rw [if_neg (by rw [q3 w w2 w3 (by omega)]; exact nI_m1 (by have := (h.2.1.mem w2).1; omega))]
    have hof : ∀ x, vnof (vgn V t) t x := fun x i gi => by
      rw [hn1] at gi
      omega
    obtain ⟨S2, zs2, fr2, o1, o2, o3, o4⟩ := c_leaveP (F := V.2.2.2 t 0) hG hx hj1 ht h66 (by omega) hc.2.2.2.1 (hof _) (hof _) h49 d2 g0
    obtain ⟨v1, v2, -, -, v5, np2, v6, v7, v8⟩ := vlv_inv (F := V.2.2.2 t 0) (z := 0) (k := k) hj1 ht h66 hc.2.2.1 hc.2.2.2.1 d2 (fun _ _ => hof _) (fun i gi => by rw [hn1] at gi; omega) ((hv _ (by omega) (by omega)).trans hk) (fun _ _ => Nat.zero_le _)
    rw [o1, cl_some]
    exact key _ S2 zs2 fr2 np2 o2 v1 v2 v5 flt_lv (hto.trans (o3.to ht)) v7 (by rw [v6]; split <;> omega) v8.1
theorem c_ret {B : Nat} (h : RBt b lim s V zs fr t) (t11 : s (b + 17 + 2 * t) 11 = nI (vpl V t (V.2.2.1 t - 1))) (hx : CX b lim) (hI : VI lim B V) (ht : t < 6) (hb : vbz V.1 t) : ∃ s' zs' fr', gX2_leaveFrame b (b + 17 + 2 * t) s v = some ((), s') ∧ RC b lim s' (vrt Z V t v) zs' fr' ∧ TO b t s s' := by
  obtain ⟨np, z, z2, z3, k, l, hP, h0, hhot, -, -, ⟨k1, -⟩, -, hs, -, -⟩ := hI.opn ht hb hx.2.2
  have hst1 : V.1 (3926 + t) ≠ 0 := by
    rcases hb with e | e <;> rw [e] <;> decide
  have hbz := (hI.bz ht h0).2
  by_cases c : V.2.2.1 t = 1
  · refine c_leave0L h t11 hx hP c hhot k1 hst1 ?_
    rcases hs with e | ⟨k, e1, e2⟩
    · exact Or.inl e
    · exact Or.inr ⟨k, e1, e2, hI.sdt ht e1 e2⟩
  · obtain ⟨m, hm⟩ : ∃ m, V.2.2.1 t = m + 2 := ⟨V.2.2.1 t - 2, by omega⟩
    refine c_leaveL h t11 hx hP hm hhot k1 (fun hcc => ?_)
    obtain ⟨n', np', c1, c2, c3, c4, c5, c6, c7, c8, c9, c10, c11, c12, c13, c14, c15, c16, c17⟩ := hbz
    have hnm : n' = m + 1 := by omega
    subst hnm
    rw [vos_1 (n := m + 1)] at c14 c15 c16
    obtain ⟨b1, b2, b3, b4, b5⟩ := c9.2.2.1 m (by omega)
    have hfm := (c9.1 m (by omega)).1
    obtain ⟨x, e1, e2, e3⟩ : ∃ x, V.1 (vco (V.2.2.2 t m).1 ((V.2.2.2 t (m + 1)).2.2.2.1 % 32 - 1) + 1) = nI x ∧ 1 ≤ x ∧ x ≤ 40 := by
      have hv := (hI.2.1 _ hfm).2.2 _ b4
      unfold vlin vcan at hv
      rcases b5 with ⟨b5, -⟩ | ⟨-, b5, -⟩
      · omega
      · exact (hv.2.2.2.2.2.2.2.2.2 b5).1
    have hfo : vfo V.1 (V.2.2.2 t (m + 1)) = x := by
      unfold vfo
      rw [if_pos hcc, b2, e1, nI_int (by omega)]
      rfl
    rw [hfo] at c14 c15 c16
    rcases c16 with ⟨-, c16⟩ | ⟨ks, g1, g2, g3, g4⟩
    · omega
    · refine ⟨ks, vos V.1 (V.2.2.2 t) (m + 1), g1, g2, ?_, by omega⟩
      rw [c14, e1, nI_sub (by omega), Nat.add_sub_cancel]
end
