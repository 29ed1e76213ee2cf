/-! ===== the class: room for a call ===== -/
section
variable {b lim : Nat} {s s' : wt_S} {V V' : vV} {zs zs' : List (vP × Nat)} {fr fr' : List Nat} {t np z need k : Nat}
theorem c_lastCovered (h : RC b lim s V zs fr) (hx : CX b lim) (hj : VJ lim V) (hc : Ico V t np) (ht : t < 6) : gX9_lastCovered b (b + 17 + 2 * t) s = some (rb (vlc V t = true), s) := by
  have hxm := hx.m
  obtain ⟨hn, -⟩ := hc.n hj hx.2.2
  have e4 : s (b + 17 + 2 * t) 4 = nI (V.2.2.1 t) := by rw [h.at ht (e := (4, 3954)) (by decide)]; exact hc.1
  unfold gX9_lastCovered vlc
  rw [e4, nI_int (by omega), ci0]
  by_cases c : V.2.2.1 t = 0
  · rw [if_pos (by omega), rb_neg (by simp [c])]
  · rw [if_neg (by omega)]
    have h0 : 0 < V.2.2.1 t := by omega
    have e11 := ((h.2.2.2.1 t ht).2.1.2 h0).2
    have hfit := hj.fit ht (show V.2.2.1 t - 1 < V.2.2.1 t by omega)
    have hM := (h.2.2.2.2.1 t ht (V.2.2.1 t - 1) (by omega)).2.2.1
    obtain ⟨-, -, ff, -⟩ := hc.2.2.2.2.2.2.1 h0
    have hbk := ff.bk (show V.2.2.1 t - 1 < V.2.2.1 t by omega)
    have hw : 2 ≤ vwd V.1 (V.2.2.2 t (V.2.2.1 t - 1)).1 := by unfold vwd; omega
    rw [e11, show nI (vpl V t (V.2.2.1 t - 1)) + 1 = nI (vpl V t (V.2.2.1 t - 1) + 1) from nI_add _ 1, c_word (by omega), cl_some, hM]
    have hq := (bk_at hbk).1
    by_cases c2 : (V.2.2.2 t (V.2.2.1 t - 1)).2.2.2.1 / 1024 % 2 = 0
    · rw [if_pos (hq.mpr c2), rb_neg (by simp; omega)]
    · rw [if_neg (fun e => c2 (hq.mp e)), rb_pos (by simp; omega)]
theorem c_roomc {f z2 : Nat} (h : RC b lim s V zs fr) (hx : CX b lim) (hp : Ipr V.1) (hv : VFR V) (hf : f < 10) (hs1 : 1 ≤ vsz V.1 f) (hmg : V.1 2050 = 0 ∨ V.1 2050 = 1) (hr : V.1 2051 = nI z2) (hz2 : z2 ≤ 80) {T : Nat} : gX2_roomFor_150 b T s (nI f) = some (if vmg V.1 f = true then 1024 else 0, s) := by
  unfold gX2_roomFor_150
  rw [c_covers h.2.2.2.2.2 h.2.2.1 hp hf hs1 hmg hr hz2, cl_some, if_rb]
  by_cases c : vmg V.1 f = true
  · rw [if_pos c, if_pos c]
  · rw [if_neg c, if_neg c]
theorem c_room {f z2 : Nat} (h : RC b lim s V zs fr) (hx : CX b lim) (hP : Vpre lim V t np z) (hf : f < 10) (hs1 : 1 ≤ vsz V.1 f) (hmg : V.1 2050 = 0 ∨ V.1 2050 = 1) (hr : V.1 2051 = nI z2) (hz2 : z2 ≤ 80) (hk : V.1 2067 = nI k) (hst : V.1 (3926 + t) ≠ 0) (hsd : V.1 (3989 + t) = -1 ∨ ∃ k, k < 3 ∧ V.1 (3989 + t) = nI k ∧ V.1 (3923 + k) = nI t) :
    ∃ s' zs' fr', gX2_roomFor b (b + 17 + 2 * t) s (nI f) = some (if vlc V t = true then 1024 else if (vrm lim V t f).1 = true then (if vmg V.1 f = true then 1024 else 0) else -1, s') ∧ RC b lim s' (if vlc V t = true then vcn V 11 1 else (vrm lim V t f).2) zs' fr' ∧ TO b t s s' := by
  have hb := hx.b
  have hxm := hx.m
  obtain ⟨hj, hc, ht, hz, h8, hzl, hl, hl2, hq⟩ := hP
  obtain ⟨n1, n2, n3⟩ := hc.mn
  unfold gX2_roomFor
  rw [c_lastCovered h hx hj hc ht, cl_some, if_rb]
  by_cases cv : vlc V t = true
  · simp only [if_pos cv]
    obtain ⟨s1, a1, a2, a3, -⟩ := c_addn h hx hj.1 hj.vfr ht (k := 11) (by omega) (v := 1)
    have a1 : gX9_add b (b + 17 + 2 * t) s 11 1 = some ((), s1) := a1
    rw [a1, cl_some]
    exact ⟨s1, zs, fr, rfl, a2, a3⟩
  simp only [if_neg cv]
  have hnc := (vlc_iff hj hc).1 (by simpa using cv)
  have hnd1 := vnd_ge hj.1 hf
  have hnd2 := vnd_le hj.1 hf
  have hwd : 2 ≤ vwd V.1 f := by unfold vwd; omega
  rw [c_needOf h.2.2.2.2.2 h.2.2.1 hj.1 hf hs1 hmg hr hz2, cl_some]
  obtain ⟨s1, a1, a2, a3, -⟩ := c_adds h hx hj.1 hj.vfr ht (e := (3, 4003)) (by decide) (v := 1)
  have a1 : gX9_add b (b + 17 + 2 * t) s 3 1 = some ((), s1) := a1
  have a2 : RC b lim s1 (vcn (vinc V (4003 + t)) 3 1) zs fr := a2
  rw [a1, cl_some]
  have hmax : ∀ (s : wt_S) (x y : Int32), ∃ v, gJ9_max_7cf53 s x y = some (v, s) := fun s x y => by
    unfold gJ9_max_7cf53
    split
    · exact ⟨y, rfl⟩
    · exact ⟨x, rfl⟩
  obtain ⟨v, hv⟩ := hmax s1 (s1 (b + 17 + 2 * t) 14) (s1 (b + 17 + 2 * t) 5 + nI (vnd V.1 f))
  rw [hv, cl_some, wr_eq]
  have hP1 : Vpre lim (vcn (vinc V (4003 + t)) 3 1) t np z := Vpre.vs (V := vinc V (4003 + t)) (Vpre.vs ⟨hj, hc, ht, hz, h8, hzl, hl, hl2, hq⟩ (by omega) (by omega)) (by omega) (by omega)
  have hw1 : vpe V.1 (vcn (vinc V (4003 + t)) 3 1).1 := (vpe.upd (by omega)).trans (vpe.upd (by omega))
  have hp1 := hj.1.ww hw1
  have hf1 : VFR (vcn (vinc V (4003 + t)) 3 1) := hj.vfr
  have b1 := a2.ux hx hp1 hf1 ht (c := b + 17 + 2 * t) (j := 14) (v := v) (Or.inl ⟨rfl, rfl⟩)
  have bto : TO b t s (wt_u s1 (b + 17 + 2 * t) 14 v) := a3.trans (TO.u (by omega) ht)
  generalize wt_u s1 (b + 17 + 2 * t) 14 v = s2 at *
  have hV1 : ∀ i, i ≠ 4003 + t → i ≠ 2057 → (vcn (vinc V (4003 + t)) 3 1).1 i = V.1 i := fun i i1 i2 => by rw [vcn_ne (by omega), vinc_ne i1]
  -- the last piece
  obtain ⟨x, y, -, y2, y3, y4, y5, y6, -, -⟩ := zfind (t := t) (n := np - 1) h.1 hj.2.2.1 (hc.2.2.2.1.1 (np - 1) (by omega))
  have hch := b1.ch ht (np := np) (by rw [hV1 _ (by omega) (by omega)]; exact n1)
  have e12 := hch.1.2 y y2 y3 (by omega)
  obtain ⟨i1, -, i3, -⟩ := b1.2.1.mem y2
  have e5 := ((b1.2.2.2.1 t ht).2.2.2.2.2 y y2 y3).1
  have e5 : s2 (b + 5) y.2 = nI (vud V.1 (V.2.2.2 t) (np - 1) (V.2.2.1 t)) := by
    rw [e5, y4]
    show nI (vud (vcn (vinc V (4003 + t)) 3 1).1 (V.2.2.2 t) (np - 1) (V.2.2.1 t)) = _
    rw [vud_pe hw1 (hj.vfr t ht)]
  have hyo := (hj.2.1.2 y.1 (h.mem y2)).2.1
  have hud : vud V.1 (V.2.2.2 t) (np - 1) (V.2.2.1 t) ≤ y.1.2.1 := by
    by_cases c : V.2.2.1 t = 0
    · rw [c, vud]; omega
    · obtain ⟨g, p, -⟩ := hc.2.2.2.2.2.2.1 (by omega)
      have h1 := g.ud (V.2.2.1 t - 1) (by omega)
      have h2 := (g.1 (V.2.2.1 t - 1) (by omega)).2
      rw [p, show V.2.2.1 t - 1 + 1 = V.2.2.1 t by omega] at h1
      rw [p, y6] at h2
      omega
  have htv : vtop V t = y.1.1 + vud V.1 (V.2.2.2 t) (np - 1) (V.2.2.1 t) := by rw [hc.top, y5]
  have hvend : vend V t = y.1.1 + y.1.2.1 := by unfold vend; rw [vnp_of n1 n3, y5, y6]
  rw [e12, c_wordsOf i1, cl_some, e12, c_usedOf i1, cl_some, i3, e5, nI_sub hud, nI_int (by omega), nI_int (by omega)]
  have hcov := fun (s : wt_S) (V1 : vV) (zs : List (vP × Nat)) (fr : List Nat) (h1 : RC b lim s V1 zs fr) (hw : vpe V.1 V1.1) (hv1 : VFR V1) => c_roomc (T := b + 17 + 2 * t) h1 hx (hj.1.ww hw) hv1 hf (by rw [(hw.sz hf).1]; exact hs1) (by rw [hw _ (Or.inr (Or.inl rfl))]; exact hmg) (by rw [hw _ (Or.inr (Or.inr rfl))]; exact hr) hz2
  unfold vrm
  rw [htv, hvend]
  by_cases c : y.1.1 + vud V.1 (V.2.2.2 t) (np - 1) (V.2.2.1 t) + vnd V.1 f ≤ y.1.1 + y.1.2.1
  · simp only [if_pos c]
    rw [if_pos (by omega), hcov _ _ _ _ b1 hw1 hf1, (hw1.mg hj.1 hf).1]
    exact ⟨s2, zs, fr, by rw [if_pos trivial], b1, bto⟩
  · simp only [if_neg c]
    rw [if_neg (by omega)]
    have hkk : (vcn (vinc V (4003 + t)) 3 1).1 2067 = nI k := by rw [hV1 _ (by omega) (by omega)]; exact hk
    have hneed : 1 ≤ vnd V.1 f ∧ vnd V.1 f ≤ 100 := ⟨by omega, hnd2⟩
    obtain ⟨v1, v2, v3, -, v5, np2, v6, v7⟩ := vgr_inv (need := vnd V.1 f) hP1 hneed hkk hnc
    have hw2 : vpe V.1 (vgr lim (vcn (vinc V (4003 + t)) 3 1) t (vnd V.1 f)).2.1 := hw1.trans (fun i hi => v5 i (fun h => by unfold vgs at h; omega))
    -- what both ways of growing come to
    have key : ∀ s3 zs3 fr3, RC b lim s3 (vgr lim (vcn (vinc V (4003 + t)) 3 1) t (vnd V.1 f)).2 zs3 fr3 → TO b t s2 s3 → ∃ s' zs' fr', gX2_roomFor_135 b (b + 17 + 2 * t) s3 (nI f) (rb ((vgr lim (vcn (vinc V (4003 + t)) 3 1) t (vnd V.1 f)).1 = true)) = some (if (match vgr lim (vcn (vinc V (4003 + t)) 3 1) t (vnd V.1 f) with
        | (true, V2) => (true, V2)
        | (false, V2) => (false, vot V2 t)).1 = true then (if vmg V.1 f = true then 1024 else 0) else -1, s') ∧ RC b lim s' (match vgr lim (vcn (vinc V (4003 + t)) 3 1) t (vnd V.1 f) with
        | (true, V2) => (true, V2)
        | (false, V2) => (false, vot V2 t)).2 zs' fr' ∧ TO b t s s' := by
      intro s3 zs3 fr3 hR hto
      have hvf : VFR (vgr lim (vcn (vinc V (4003 + t)) 3 1) t (vnd V.1 f)).2 := v1.vfr
      have hcv := hcov _ _ _ _ hR hw2 hvf
      generalize hres : vgr lim (vcn (vinc V (4003 + t)) 3 1) t (vnd V.1 f) = res at *
      obtain ⟨bb, V2⟩ := res
      unfold gX2_roomFor_135
      rw [if_rbn]
      cases bb with
      | true =>
        rw [if_pos rfl, hcv, (hw2.mg hj.1 hf).1]
        exact ⟨s3, zs3, fr3, by simp, hR, bto.trans hto⟩
      | false =>
        rw [if_neg (by simp)]
        have g1 : ∀ i, ¬ vgs t i → V2.1 i = (vcn (vinc V (4003 + t)) 3 1).1 i := v5
        have e26 : V2.1 (3926 + t) = V.1 (3926 + t) := by rw [g1 _ (fun h => by unfold vgs at h; omega), hV1 _ (by omega) (by omega)]
        have e89 : V2.1 (3989 + t) = V.1 (3989 + t) := by rw [g1 _ (fun h => by unfold vgs at h; omega), hV1 _ (by omega) (by omega)]
        have e23 : ∀ k, k < 3 → V2.1 (3923 + k) = V.1 (3923 + k) := fun k hk => by rw [g1 _ (fun h => by unfold vgs at h; omega), hV1 _ (by omega) (by omega)]
        obtain ⟨s4, zs4, fr4, o1, o2, o3⟩ := c_out hR hx v1 ht v6.2.1 v6.2.2.1.2 v6.2.2.2.1 (by rw [e26]; exact hst) (by
          rw [e89]
          rcases hsd with e | ⟨k, k1, k2, k3⟩
          · exact Or.inl e
          · exact Or.inr ⟨k, k1, k2, by rw [e23 k k1]; exact k3⟩)
        rw [o1, cl_some]
        exact ⟨s4, zs4, fr4, by simp, o2, (bto.trans hto).trans o3⟩
    have e2 : s2 (b + 17 + 2 * t) 2 = V.1 (3933 + t) := by rw [b1.at ht (e := (2, 3933)) (by decide), hV1 _ (by omega) (by omega)]
    have eu : s2 (b + 17 + 2 * t) 5 = nI (vus V.1 (V.2.2.2 t) (V.2.2.1 t)) := by rw [b1.at ht (e := (5, 3961)) (by decide), hV1 _ (by omega) (by omega)]; exact hc.2.2.2.2.2.1
    rw [e2]
    rcases hc.2.2.2.2.1 with hm | hm
    · have hnp := hm.2.1
      subst hnp
      rw [hm.1, if_pos (by decide), eu]
      have hm1 : (vcn (vinc V (4003 + t)) 3 1).1 (3933 + t) = 0 := by rw [hV1 _ (by omega) (by omega)]; exact hm.1
      obtain ⟨W, s3, zs3, fr3, d1, d2, d3, d4⟩ := c_growc b1 hx hP1 hm1 hneed
      have d1 : gX4_doubled s2 (2 * nI (vln V.2.1 t 0)) (nI (vus (vcn (vinc V (4003 + t)) 3 1).1 (V.2.2.2 t) (V.2.2.1 t)) + nI (vnd V.1 f)) = some (nI W, s2) := d1
      rw [(hw1.us (k := 0) (fun i hi => (hj.fit ht hi).1)).1, show vln V.2.1 t 0 = y.1.2.1 from y6] at d1
      rw [d1, cl_some, d2, cl_some]
      exact key s3 zs3 fr3 d3 d4
    · rw [hm, if_neg (by decide)]
      have hm1 : (vcn (vinc V (4003 + t)) 3 1).1 (3933 + t) = 1 := by rw [hV1 _ (by omega) (by omega)]; exact hm
      obtain ⟨s3, zs3, fr3, d1, d2, d3⟩ := c_link b1 hx hP1 hm1 hneed
      rw [d1, cl_some]
      exact key s3 zs3 fr3 d2 d3
end
