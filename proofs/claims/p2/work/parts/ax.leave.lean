/-! ===== the class: a frame returns to the one below ===== -/
section
variable {b lim : Nat} {s s' : wt_S} {V V' : vV} {zs zs' : List (vP × Nat)} {fr fr' : List Nat} {t np k n m z : Nat} {v : Int32} {Z : (Nat → Int32) → Int32 → Int32 → Int32 → Bool}
theorem c_leave (h : RC b lim s V zs fr) (hx : CX b lim) (hP : Vpre lim V t np z) (hn : V.2.2.1 t = m + 2) (hhot : V.1 2049 = 0 ∨ V.1 2049 = 1) (hk : V.1 2067 = nI k) (hef : 2048 ≤ (V.2.2.2 t (m + 1)).2.2.2.1 → ∃ ks mm, ks < 3 ∧ V.1 (3989 + t) = nI ks ∧ V.1 (3996 + t) - V.1 (vco (V.2.2.2 t m).1 ((V.2.2.2 t (m + 1)).2.2.2.1 % 32 - 1) + 1) = nI mm ∧ mm < 2147483648) : ∃ s' zs' fr', gX2_leaveFrame b (b + 17 + 2 * t) s v = some ((), s') ∧ RC b lim s' (vrt Z V t v) zs' fr' ∧ TO b t s s' := by
  have hb := hx.b
  have hxm := hx.m
  obtain ⟨hj, hc, ht, hz, h8, hzl, hl, hl2, hq⟩ := hP
  obtain ⟨n1, n2, n3⟩ := hc.mn
  obtain ⟨d1, d2, d3, d4, d5⟩ := hc.2.2.2.2.2.2.1 (by omega)
  rw [hn] at d1 d2 d3 d4 d5
  rw [show m + 2 - 1 = m + 1 from rfl] at d2 d4 d5
  have hlf : vlf V t = V.2.2.2 t (m + 1) := by unfold vlf; rw [hn]; rfl
  have hfit := hj.fit ht (show m + 1 < V.2.2.1 t by omega)
  have hp8 := hfit.2.2
  unfold vwd at hp8
  obtain ⟨M0, M1, M2, M3⟩ := h.2.2.2.2.1 t ht (m + 1) (by omega)
  have hbk := d3.bk (i := m + 1) (by omega)
  obtain ⟨b1, b2, b3, b4, b5⟩ := d3.2.2.1 m (by omega)
  have hud := d1.ud (m + 1) (by omega)
  have t11 := ((h.2.2.2.1 t ht).2.1.2 (by omega)).2
  rw [hn] at t11
  have t11 : s (b + 17 + 2 * t) 11 = nI (vpl V t (m + 1)) := t11
  have t9 : s (b + 17 + 2 * t) 9 = nI (V.2.2.2 t (m + 1)).1 := (h.at ht (e := (9, 3975)) (by decide)).trans d5
  obtain ⟨-, y, -, y2, y3, y4, -⟩ := zfind (t := t) (n := np - 1) h.1 hj.2.2.1 (hc.2.2.2.1.1 (np - 1) (by omega))
  have e12 : s (b + 17 + 2 * t) 12 = nI y.2 := (h.ch ht (np := np) n1).1.2 y y2 y3 (by omega)
  have hid := (h.2.1.mem y2).1
  have hG := c_gone h hx hj ht (by omega) y2 y3 (by rw [hlf, d2, y4])
  rw [hlf] at hG
  unfold gX2_leaveFrame
  rw [t11, c_word (by omega), cl_some, M1, if_neg (by omega), t11, show nI (vpl V t (m + 1)) + 1 = nI (vpl V t (m + 1) + 1) from nI_add _ 1, c_word (by omega), cl_some, M2, t9, c_frameWords h.2.2.2.2.2 hj.1 hfit.1, cl_some, e12, c_use hid, cl_some, wr_eq, wr_eq, wt_u_ne (show b + 17 + 2 * t ≠ b + 5 by omega), wt_u_nk (show 4 ≠ 5 by omega), wt_u_ne (show b + 17 + 2 * t ≠ b + 5 by omega)]
  have hto : TO b t s (wt_u (wt_u (wt_u s (b + 5) y.2 (s (b + 5) y.2 + -(nI (vwd V.1 (V.2.2.2 t (m + 1)).1)))) (b + 17 + 2 * t) 5 (s (b + 17 + 2 * t) 5 - nI (vwd V.1 (V.2.2.2 t (m + 1)).1))) (b + 17 + 2 * t) 4 (s (b + 17 + 2 * t) 4 - 1)) := ((TO.u (by omega) ht).trans (TO.u (by omega) ht)).trans (TO.u (by omega) ht)
  have e12' : (wt_u (wt_u (wt_u s (b + 5) y.2 (s (b + 5) y.2 + -(nI (vwd V.1 (V.2.2.2 t (m + 1)).1)))) (b + 17 + 2 * t) 5 (s (b + 17 + 2 * t) 5 - nI (vwd V.1 (V.2.2.2 t (m + 1)).1))) (b + 17 + 2 * t) 4 (s (b + 17 + 2 * t) 4 - 1)) (b + 17 + 2 * t) 12 = nI y.2 := by rw [wt_u_nk (by omega), wt_u_nk (by omega), wt_u_ne (by omega)]; exact e12
  generalize (wt_u (wt_u (wt_u s (b + 5) y.2 (s (b + 5) y.2 + -(nI (vwd V.1 (V.2.2.2 t (m + 1)).1)))) (b + 17 + 2 * t) 5 (s (b + 17 + 2 * t) 5 - nI (vwd V.1 (V.2.2.2 t (m + 1)).1))) (b + 17 + 2 * t) 4 (s (b + 17 + 2 * t) 4 - 1)) = S at *
  have hv : ∀ i, i ≠ 3961 + t → i ≠ 3954 + t → (vgn V t).1 i = V.1 i := fun i i1 i2 => (vs_ne i2).trans (vs_ne i1)
  have hw : vpe V.1 (vgn V t).1 := fun i hi => hv i (by omega) (by omega)
  have hn1 : (vgn V t).2.2.1 t = m + 1 := by show mj_upd V.2.2.1 t (V.2.2.1 t - 1) t = m + 1; rw [mj_upd_self, hn]; rfl
  have hf1 : (vgn V t).2.2.2 = V.2.2.2 := rfl
  have hp1 : (vgn V t).2.1 = V.2.1 := rfl
  have hj1 : VJ lim (vgn V t) := VJ.nf (VJ.vs (VJ.vs hj (by omega)) (by omega)) (by show V.2.2.1 t - 1 ≤ V.2.2.1 t; omega)
  have hvrt : vrt Z V t v = (let V2 := if V.1 (3933 + t) = 1 then vlv (vgn V t) t (V.2.2.2 t (m + 1)) else vgn V t; let V3 := vs (vs (vs V2 (3982 + t) (nI (vpl V2 t m))) (3975 + t) (nI ((V.2.2.2 t (m + 1)).2.2.2.1 % 1024 / 32))) (3968 + t) (nI ((V.2.2.2 t (m + 1)).2.2.2.1 % 32)); let c := vco ((V.2.2.2 t (m + 1)).2.2.2.1 % 1024 / 32) ((V.2.2.2 t (m + 1)).2.2.2.1 % 32 - 1); let V4 := vnu V3 t m (V.1 (c + 3)).toInt.toNat v; if 2048 ≤ (V.2.2.2 t (m + 1)).2.2.2.1 then vfv V4 t (V.1 (c + 1)) else V4) := by
    unfold vrt
    rw [hn, show m + 2 - 1 = m + 1 from rfl]
    dsimp only
    rw [if_neg (by omega)]
    unfold vgn
    rw [hlf, hn]
    rfl
  have hus : S (b + 5) y.2 = nI (V.2.2.2 t (m + 1)).2.2.1 := by
    have q1 := (hG.2.2.2.1.2.2.2.2.2.2 y y2 y3).1
    rw [q1, hn1, hf1, vud_pe (w := V.1) hw (fun i hi => hj.vfr t ht i (by omega)), y4, ← d2]
    have : vud V.1 (V.2.2.2 t) (V.2.2.2 t (m + 1)).2.1 (m + 1 + 1) = vud V.1 (V.2.2.2 t) (V.2.2.2 t (m + 1)).2.1 (m + 1) + vwd V.1 (V.2.2.2 t (m + 1)).1 := by
      show _ + (if _ then _ else 0) = _
      rw [if_pos rfl]
    rw [this] at hud
    congr 1
    omega
  -- behind leaving
  have key : ∀ (V2 : vV) (S2 : wt_S) zs2 fr2, RBt b lim S2 V2 zs2 fr2 t → VJ lim V2 → V2.2.2 = (vgn V t).2.2 → (∀ i, i ≠ 2067 → i ≠ 4066 + t → V2.1 i = (vgn V t).1 i) → vpl V2 t m = vpl V t m → TO b t s S2 → V2 = (if V.1 (3933 + t) = 1 then vlv (vgn V t) t (V.2.2.2 t (m + 1)) else vgn V t) → ∃ s' zs' fr', gX2_leaveFrame_112 b (b + 17 + 2 * t) S2 v (nI (vpl V t m)) (nI (V.2.2.2 t (m + 1)).2.2.2.1) = some ((), s') ∧ RC b lim s' (vrt Z V t v) zs' fr' ∧ TO b t s s' := by
    intro V2 S2 zs2 fr2 g1 g2 g3 g4 g5 g6 g7
    have hV2 : ∀ i, i ≠ 2067 → i ≠ 4066 + t → i ≠ 3961 + t → i ≠ 3954 + t → V2.1 i = V.1 i := fun i i1 i2 i3 i4 => (g4 i i1 i2).trans (hv i i3 i4)
    have hfm := hj.vfr t ht m (by omega)
    have hl16 := (hj.1.li hfm).2
    have hw2 : vpe V.1 V2.1 := fun i hi => hV2 i (by omega) (by omega) (by omega) (by omega)
    have e23 : V2.2.2.2 = V.2.2.2 := by rw [g3]; rfl
    obtain ⟨s', o1, o2, o3⟩ := c_112 (m := m) (bk := (V.2.2.2 t (m + 1)).2.2.2.1) (v := v) g1 hx g2 ht (by rw [g3]; exact hn1) b1 (by rw [e23]; exact b2) b3 (by rw [e23, (hw2.sz hfm).2.2.1]; exact b4) (by rw [e23, hw2.co0 hfm (by omega)]; rcases b5 with ⟨-, e, -⟩ | ⟨-, e, -⟩; exact Or.inl e; exact Or.inr e) (fun e => by
      rw [e23, hV2 _ (by omega) (by omega) (by omega) (by omega), hV2 _ (by omega) (by omega) (by omega) (by omega), hw2.co hfm (by omega) (by omega)]
      exact hef e)
    rw [g5] at o1
    refine ⟨s', zs2, fr2, o1, ?_, g6.trans o3⟩
    rw [hvrt, ← g7]
    dsimp only at o2 ⊢
    rw [b2, hw2.co hfm (by omega) (by omega), hw2.co hfm (by omega) (by omega)] at o2
    rw [b2]
    exact o2
  have key0 : (V.2.2.2 t (m + 1)).2.2.1 ≠ 0 ∨ (V.2.2.2 t (m + 1)).2.1 = 0 → ∃ s' zs' fr', gX2_leaveFrame_112 b (b + 17 + 2 * t) S v (nI (vpl V t m)) (nI (V.2.2.2 t (m + 1)).2.2.2.1) = some ((), s') ∧ RC b lim s' (vrt Z V t v) zs' fr' ∧ TO b t s s' := fun hF => key (vgn V t) S zs fr hG hj1 rfl (fun _ _ _ => rfl) rfl hto (by rw [vlv_0 hF]; split <;> rfl)
  rw [e12', c_usedOf hid, cl_some, hus, show m + 1 - 1 = m from rfl]
  by_cases cu : (V.2.2.2 t (m + 1)).2.2.1 = 0
  · rw [cu, if_neg (by simp [nI]), e12', c_belowOf hid, cl_some]
    obtain ⟨-, q2, q3⟩ := hG.2.2.2.1.2.2.2.2.2.2 y y2 y3
    by_cases cn : np = 1
    · rw [if_pos (q2 (by omega))]
      exact key0 (Or.inr (by omega))
    · obtain ⟨-, w, -, w2, w3, w4, -⟩ := zfind (t := t) (n := np - 2) h.1 hj.2.2.1 (hc.2.2.2.1.1 (np - 2) (by omega))
      rw [if_neg (by rw [q3 w w2 w3 (by omega)]; exact nI_m1 (by have := (h.2.1.mem w2).1; omega))]
      have cm : V.1 (3933 + t) = 1 := by
        rcases hc.2.2.2.2.1 with e | e
        · exact absurd e.2.1 cn
        · exact e
      have hlt : ∀ i, i < m + 1 → (V.2.2.2 t i).2.1 < np - 1 := fun i gi => by
        have := d1.drop cu (fun i _ => by unfold vwd; omega) i gi
        omega
      have hof : vnof (vgn V t) t (np - 1) := fun i gi => by
        rw [hn1] at gi
        have := hlt i gi
        rw [hf1]
        omega
      have hof2 : vnof (vgn V t) t 1000 := fun i gi => by
        rw [hn1] at gi
        have := hlt i gi
        rw [hf1]
        omega
      have h66 : (vgn V t).1 (4066 + t) = nI np := (hv _ (by omega) (by omega)).trans n1
      have h49 : (vgn V t).1 2049 = 0 ∨ (vgn V t).1 2049 = 1 := by rw [hv _ (by omega) (by omega)]; exact hhot
      obtain ⟨S2, zs2, fr2, o1, o2, o3, o4⟩ := c_leaveP (F := V.2.2.2 t (m + 1)) hG hx hj1 ht h66 (by omega) hc.2.2.2.1 hof hof2 h49 d2 cu
      obtain ⟨v1, v2, -, -, v5, np2, -, -, v8⟩ := vlv_inv (F := V.2.2.2 t (m + 1)) (z := 0) (k := k) hj1 ht h66 hc.2.2.1 hc.2.2.2.1 d2 (fun _ _ => hof) (fun i gi => by rw [hn1] at gi; have := hlt i gi; rw [hf1]; omega) ((hv _ (by omega) (by omega)).trans hk) (fun _ _ => Nat.zero_le _)
      have hplm : vpl (vlv (vgn V t) t (V.2.2.2 t (m + 1))) t m = vpl V t m := by
        have := (v8.2 m (by rw [hn1]; omega)).2.1
        unfold vpl
        rw [show (vlv (vgn V t) t (V.2.2.2 t (m + 1))).2.2.2 = V.2.2.2 by rw [v2, hf1]]
        rw [hf1, hp1] at this
        rw [this]
      rw [o1, cl_some]
      exact key _ S2 zs2 fr2 o2 v1 v2 v5 hplm (hto.trans (o3.to ht)) (by rw [if_pos cm])
  · rw [if_pos (fun e => cu (by
      have hh : (V.2.2.2 t (m + 1)).2.2.1 < 2147483648 := by unfold vpl at hp8; omega
      exact (nI_inj hh (by omega)).mp (e.trans (show (0 : Int32) = nI 0 from rfl))))]
    exact key0 (Or.inl cu)
end
