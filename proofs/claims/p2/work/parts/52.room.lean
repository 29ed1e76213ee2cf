/-! ===== the reference: room for a call ===== -/
theorem Icn.one {V : vV} {t : Nat} (h : Icn V t 1) : Ico V t 1 := by
  obtain ⟨c1, c2, c3, c4, c5, c6, c7, c8⟩ := h
  exact ⟨c1, c2, c3, c4, c5, c6, fun h0 => by
    obtain ⟨d1, d2, d3⟩ := c7 h0
    exact ⟨d1, by omega, d3⟩, fun h0 => ⟨rfl, (c8 h0).2⟩⟩
section
variable {s : wt_S} {V : vV} {t np z k : Nat}
theorem q_lastPiece' (h : RS s V) (hj : VJ 2048 V) (hc : Icn V t np) (ht : t < 6) : ∃ x q, gX11_lastPiece s (nI t) = some (nI x, s) ∧ V.2.1[x]? = some q ∧ x < 256 ∧ vat V.2.1 t (np - 1) = q.1 ∧ vln V.2.1 t (np - 1) = q.2.1 ∧ q ∈ V.2.1 := by
  obtain ⟨x, q, e1, e2, e3, e4, e5, e6, e7, e8⟩ := vfi_some (hc.2.2.2.1.1 (np - 1) (by have := hc.2.2.1; omega))
  refine ⟨x, q, ?_, e2, by have := h.2.2.1.2.1; omega, e7, e8, e4⟩
  unfold gX11_lastPiece
  have hnp := hc.2.2.1
  rw [li_add, ix_nI (by omega) (by omega), h.tk (c := 4066) (by omega) ht, hc.2.1, li_sub (by omega), q_pieceOf h.2.2.1 hj.2.1 ht (by omega), cl_some, e1]
  rfl
/-- where the next frame comes -/
def vnx (V : vV) (t : Nat) : Nat := vat V.2.1 t (vnp V t - 1) + vud V.1 (V.2.2.2 t) (vnp V t - 1) (V.2.2.1 t)
theorem Vpre.vs {lim : Nat} {i : Nat} {v : Int32} (hP : Vpre lim V t np z) (h1 : (i < 2228 ∨ 2898 ≤ i) ∧ i ≠ 2050 ∧ i ≠ 2051 ∧ i ≠ 2048) (h : i ≠ 3954 + t ∧ i ≠ 4066 + t ∧ i ≠ 3933 + t ∧ i ≠ 3961 + t ∧ i ≠ 3982 + t ∧ i ≠ 3975 + t) : Vpre lim (mj_upd V.1 i v, V.2) t np z :=
  ⟨VJ.vs (i := i) (v := v) hP.1 (by omega), ico_vs (i := i) (v := v) hP.2.1 hP.1.1 (by omega) h, hP.2.2.1, (mj_upd_ne (by omega)).trans hP.2.2.2.1, hP.2.2.2.2.1, hP.2.2.2.2.2.1, hP.2.2.2.2.2.2.1, hP.2.2.2.2.2.2.2.1, hP.2.2.2.2.2.2.2.2⟩
theorem q_roomFor {f z2 : Nat} (h : RS s V) (hP : Vpre 2048 V t np z) (hf : f < 10) (hr : V.1 2051 = nI z2) (hz2 : z2 ≤ 80) (hk : V.1 2067 = nI k) (hk2 : k < 2147483300) (hs : V.1 (3989 + t) = -1 ∨ ∃ k, k < 3 ∧ V.1 (3989 + t) = nI k) (hnc : ∀ i, i < V.2.2.1 t → ¬ vcv (V.2.2.2 t i)) :
    ∃ s', gX11_roomFor s (nI t) (nI f) = some (if (vrm 2048 V t f).1 then nI (vnx (vrm 2048 V t f).2 t) else -1, s') ∧ RS s' (vrm 2048 V t f).2 ∧ RF s s' := by
  obtain ⟨hj, hc, ht, hz, h8, hzl, hl, hl2, hq⟩ := hP
  have hnd := q_need h hj.1 hf hr hz2
  have hsz := hj.1.sz hf
  have a1 := q_inc (i := 4003 + t) h (vtt (by omega) ht) (Or.inr (by omega))
  obtain ⟨b1, b2⟩ := q_cnt (c := 3) (v := 1) a1 (by omega)
  have hP1 : Vpre 2048 (vcn (vinc V (4003 + t)) 3 1) t np z := Vpre.vs (V := vinc V (4003 + t)) (Vpre.vs ⟨hj, hc, ht, hz, h8, hzl, hl, hl2, hq⟩ (by omega) (by omega)) (by omega) (by omega)
  have hw1 : vpe V.1 (vcn (vinc V (4003 + t)) 3 1).1 := (vpe.upd (by omega)).trans (vpe.upd (by omega))
  obtain ⟨x, q, l1, l2, l3, l4, l5, l6⟩ := q_lastPiece' b2 hP1.1 hP1.2.1.n' ht
  have hqo := hj.2.1.2 q l6
  have hnp := vnp_of hc.2.1 hc.2.2.1.2
  obtain ⟨r1, r2, -, -⟩ := b2.2.2.1.2.2 x q l2
  have htop := hc.top
  have hud : vud V.1 (V.2.2.2 t) (np - 1) (V.2.2.1 t) ≤ q.2.1 := by
    by_cases c : V.2.2.1 t = 0
    · rw [c, vud]; omega
    · obtain ⟨g, p, -⟩ := hc.2.2.2.2.2.2.1 (by omega)
      have h1 := g.ud (V.2.2.1 t - 1) (by omega)
      have h2 := (g.1 (V.2.2.1 t - 1) (by omega)).2
      rw [p, show V.2.2.1 t - 1 + 1 = V.2.2.1 t by omega] at h1
      rw [p, show vln V.2.1 t (np - 1) = q.2.1 from l5] at h2
      omega
  have htv : vtop V t = q.1 + vud V.1 (V.2.2.2 t) (np - 1) (V.2.2.1 t) := by rw [htop, show vat V.2.1 t (np - 1) = q.1 from l4]
  have hnd1 := q_need b2 hP1.1.1 hf (z := z2) (by rw [vcn_ne (by omega), vinc_ne (by omega)]; exact hr) hz2
  rw [(hw1.mg hj.1 hf).2] at hnd1
  have hvend : vend V t = q.1 + q.2.1 := by unfold vend; rw [hnp, show vat V.2.1 t (np - 1) = q.1 from l4, show vln V.2.1 t (np - 1) = q.2.1 from l5]
  have hF1 : RF s (wt_u (wt_u s 111 (4003 + t) (s 111 (4003 + t) + 1)) 111 (2054 + 3) ((vinc V (4003 + t)).1 (2054 + 3) + 1)) := RF.trans (RF.uf (Or.inl rfl)) (RF.uf (Or.inl rfl))
  unfold gX11_roomFor
  rw [q_topOf h hj rfl hc ht, cl_some, li_add, ix_nI (by omega) (by omega), ix_nI (by omega) (by omega), wr_eq, show gX11_counts (wt_u s 111 (4003 + t) (s 111 (4003 + t) + 1)) 3 1 = _ from b1, cl_some, if_pos b2.1, l1, cl_some, li_add, ix_nI (by omega) (by omega), li_add, ix_nI (by omega) (by omega), hnd1.1, cl_some, r1, r2, nI_add, htv, nI_sub (by omega), nI_int (by omega), nI_int (by omega)]
  unfold vrm
  rw [htv, hvend]
  by_cases c : q.1 + vud V.1 (V.2.2.2 t) (np - 1) (V.2.2.1 t) + vnd V.1 f ≤ q.1 + q.2.1
  · rw [if_neg (by omega)]
    simp only [if_pos c]
    refine ⟨_, ?_, b2, hF1⟩
    unfold vnx
    have : vnp (vcn (vinc V (4003 + t)) 3 1) t = np := vnp_of hP1.2.1.2.1 hc.2.2.1.2
    rw [this, if_pos trivial]
    show _ = some (nI (vat V.2.1 t (np - 1) + vud (vcn (vinc V (4003 + t)) 3 1).1 (V.2.2.2 t) (np - 1) (V.2.2.1 t)), _)
    rw [(hw1.us (fun i hi => (hj.fit ht hi).1)).2, show vat V.2.1 t (np - 1) = q.1 from l4]
  · rw [if_pos (by omega)]
    simp only [if_neg c]
    have hkk : (vcn (vinc V (4003 + t)) 3 1).1 2067 = nI k := by rw [vcn_ne (by omega), vinc_ne (by omega)]; exact hk
    have hG : Gpre (vcn (vinc V (4003 + t)) 3 1) t np k := ⟨hP1.1, hP1.2.1, ht, ⟨z, hP1.2.2.2.1, h8, hzl⟩, fun p hp => by have := hq p hp; omega, hkk, by omega⟩
    obtain ⟨s2, g1, g2, g3⟩ := q_grows (need := vnd V.1 f) b2 hG (by omega) ⟨by have := hnd.2.1; unfold vwd at this; omega, hnd.2.2⟩
    obtain ⟨v1, v2, v3, ⟨k', k1', k2'⟩, v5, np2, v6, v7⟩ := vgr_inv (need := vnd V.1 f) hP1 ⟨by have := hnd.2.1; unfold vwd at this; omega, hnd.2.2⟩ hkk hnc
    rw [hnd1.1, cl_some, g1, cl_some, if_rbn]
    generalize hres : vgr 2048 (vcn (vinc V (4003 + t)) 3 1) t (vnd V.1 f) = res at *
    obtain ⟨bb, V2⟩ := res
    have e22 : V2.2.2 = V.2.2 := v2
    have hmode : V2.1 (3933 + t) = V.1 (3933 + t) := by
      have : V2.1 (3933 + t) = (vcn (vinc V (4003 + t)) 3 1).1 (3933 + t) := v5 _ (fun h => by unfold vgs at h; omega)
      rw [this, vcn_ne (by omega), vinc_ne (by omega)]
    have hF2 := RF.trans hF1 g3
    cases bb with
    | true =>
      have hroom := v7 rfl
      have hnp2 := vnp_of v6.2.1 v6.2.2.1.2
      have hw2 : vpe V.1 V2.1 := hw1.trans (fun i hi => v5 i (fun h => by unfold vgs at h; omega))
      have hvud : vud V2.1 (V2.2.2.2 t) (np2 - 1) (V2.2.2.1 t) = vud V.1 (V.2.2.2 t) (np2 - 1) (V.2.2.1 t) := by
        rw [show V2.2.2.2 = V.2.2.2 by rw [e22], show V2.2.2.1 = V.2.2.1 by rw [e22]]
        exact (hw2.us (fun i hi => (hj.fit ht hi).1)).2
      have hvud1 : vud (vcn (vinc V (4003 + t)) 3 1).1 (V.2.2.2 t) (np2 - 1) (V.2.2.1 t) = vud V.1 (V.2.2.2 t) (np2 - 1) (V.2.2.1 t) := (hw1.us (fun i hi => (hj.fit ht hi).1)).2
      refine ⟨s2, ?_, g2, hF2⟩
      show (if true = true then _ else _) = some (nI (vnx V2 t), s2)
      rw [if_pos rfl, li_add, ix_nI (by omega) (by omega), g2.tk (c := 3933) (by omega) ht]
      unfold vnx
      rw [hnp2, hvud]
      rcases v6.2.2.2.2.1 with ⟨m0, m1, -⟩ | m0
      · subst m1
        rw [if_neg (by rw [m0]; simp), q_topOf g2 v1 rfl v6.one ht, cl_some, v6.one.top, hvud]
      · obtain ⟨y, p, y1, y2, y3, y4, y5, y6⟩ := q_lastPiece' g2 v1 v6 ht
        have hv0 := hroom.2 (by rw [vcn_ne (by omega), vinc_ne (by omega), ← hmode]; exact m0)
        have hv0 : vud (vcn (vinc V (4003 + t)) 3 1).1 (V.2.2.2 t) (np2 - 1) (V.2.2.1 t) = 0 := hv0
        rw [if_pos (by rw [m0]; decide), y1, cl_some, li_add, ix_nI (by omega) (by omega), (g2.2.2.1.2.2 y p y2).1, ← hvud1, hv0, y4, Nat.add_zero]
    | false =>
      have hs2 : V2.1 (3989 + t) = -1 ∨ ∃ k, k < 3 ∧ V2.1 (3989 + t) = nI k := by
        have : V2.1 (3989 + t) = (vcn (vinc V (4003 + t)) 3 1).1 (3989 + t) := v5 _ (fun h => by unfold vgs at h; omega)
        rw [this, vcn_ne (by omega), vinc_ne (by omega)]
        exact hs
      obtain ⟨s3, o1, o2, o3⟩ := q_out g2 v1 rfl ht hs2 k2' (by omega)
      refine ⟨s3, ?_, o2, RF.trans hF2 o3⟩
      show (if false = true then _ else _) = some (-1, s3)
      rw [if_neg (by simp), o1, cl_some]
end
