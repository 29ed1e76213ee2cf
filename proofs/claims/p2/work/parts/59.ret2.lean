section
variable {s : wt_S} {V : vV} {t np z k : Nat}
theorem vlin_c {w : Nat → Int32} {f l : Nat} (hp : Ipr w) (hf : f < 10) (hl : l < vli w f) (hk : w (vco f l) = 6 ∨ w (vco f l) = 9) : ∃ c, w (vco f l + 3) = nI c ∧ c < vsz w f ∧ ¬ bt (w (2238 + f)) c := by
  have h := (hp f hf).2.2 l hl
  unfold vlin vcan at h
  rcases hk with e | e
  · exact (h.2.2.2.2.2.2.1 e).2.2
  · exact (h.2.2.2.2.2.2.2.2.2 e).2.2
/-- the frames that are left when the last one goes -/
theorem Geo.drop {w : Nat → Int32} {ps : List vP} {np n : Nat} {fr : Nat → vF} (h : Geo w ps t np (n + 1) fr) (h0 : (fr n).2.2.1 = 0) (hw : ∀ i, i < n → 1 ≤ vwd w (fr i).1) : ∀ i, i < n → (fr i).2.1 < (fr n).2.1 := by
  intro i hi
  cases n with
  | zero => omega
  | succ n =>
    have h1 := h.mono (i := i) (j := n) (by omega) (by omega)
    rcases h.2.2 n (by omega) with ⟨e1, e2⟩ | ⟨e1, e2⟩
    · have := hw n (by omega)
      omega
    · omega
theorem q_returns {D : wt_S → Int32 → Int32 → Option (Int32 × wt_S)} {Z : (Nat → Int32) → Int32 → Int32 → Int32 → Bool} {z2 : Nat} {v : Int32} (hD : HD D Z) (h : RS s V) (hP : Vpre 2048 V t np z) (h0 : 0 < V.2.2.1 t) (hhot : V.1 2049 = 0 ∨ V.1 2049 = 1) (hs : V.1 (3989 + t) = -1 ∨ ∃ k, k < 3 ∧ V.1 (3989 + t) = nI k) (hk : V.1 2067 = nI k) (hk2 : k < 2147483200) (hr : V.1 2051 = nI z2) (hz2 : z2 ≤ 80) (hb : tld V.1 (V.1 (4052 + t))) (hcb : 2048 ≤ (V.2.2.2 t (V.2.2.1 t - 1)).2.2.2.1 → ∃ ks, ks < 3 ∧ V.1 (3989 + t) = nI ks) :
    ∃ s', gX11_returns D s (nI t) v = some ((), s') ∧ RS s' (vrt Z V t v) ∧ RF s s' := by
  obtain ⟨hj, hc, ht, hz, h8, hzl, hl, hl2, hq⟩ := hP
  obtain ⟨n, hn⟩ : ∃ n, V.2.2.1 t = n + 1 := ⟨V.2.2.1 t - 1, by omega⟩
  obtain ⟨d1, d2, d3, d4, d5⟩ := hc.2.2.2.2.2.2.1 h0
  have hN := (hc.n hj hl).1
  rw [hn] at d1 d2 d3 d4 d5 hcb
  rw [Nat.add_sub_cancel] at d2 d4 d5 hcb
  generalize hFF : V.2.2.2 t n = F at *
  have hi : n < V.2.2.1 t := by omega
  have hft := (d3.1 n (by omega)).1
  rw [hFF] at hft
  have hfit := hj.fit ht hi
  rw [hFF] at hfit
  have hfit2 := hfit.2.2
  unfold vwd at hfit2
  have hwd := h.wd hj rfl ht hi
  rw [hFF] at hwd
  have hbk := d3.bk (i := n) (by omega)
  rw [hFF] at hbk
  have a1 := h.u (i := 3961 + t) (v := V.1 (3961 + t) - (V.1 (2228 + F.1) + 2)) (vtt (by omega) ht) (Or.inr (by omega))
  have a2 := a1.u (i := 3954 + t) (v := V.1 (3954 + t) - 1) (vtt (by omega) ht) (Or.inr (by omega))
  have hjv : VJ 2048 (vs (vs V (3961 + t) (V.1 (3961 + t) - (V.1 (2228 + F.1) + 2))) (3954 + t) (V.1 (3954 + t) - 1)) := VJ.vs (VJ.vs hj (by omega)) (by omega)
  have a3 := a2.nf (t := t) (n := n) hjv.pt (by show n ≤ V.2.2.1 t; omega)
  have hj1 : VJ 2048 (vnf (vs (vs V (3961 + t) (V.1 (3961 + t) - (V.1 (2228 + F.1) + 2))) (3954 + t) (V.1 (3954 + t) - 1)) t n) := hjv.nf (by show n ≤ V.2.2.1 t; omega)
  have hst : ∀ X, gX11_returns D s (nI t) v = X ↔ (if (if n = 0 then (-1 : Int32) else nI (vpl V t (n - 1))) ≠ -1 then (if V.1 (3933 + t) ≠ 1 then gX11_returns_108 D (wt_u (wt_u s 111 (3961 + t) (V.1 (3961 + t) - (V.1 (2228 + F.1) + 2))) 111 (3954 + t) (V.1 (3954 + t) - 1)) (nI t) v (if n = 0 then (-1 : Int32) else nI (vpl V t (n - 1))) (nI F.2.2.2.1) else (wt_cl (gX11_leaves (wt_u (wt_u s 111 (3961 + t) (V.1 (3961 + t) - (V.1 (2228 + F.1) + 2))) 111 (3954 + t) (V.1 (3954 + t) - 1)) (nI t) (nI (vpl V t n))) fun _ s16 => gX11_returns_108 D s16 (nI t) v (if n = 0 then (-1 : Int32) else nI (vpl V t (n - 1))) (nI F.2.2.2.1))) else (wt_cl (gX11_isDone D (wt_u (wt_u s 111 (3961 + t) (V.1 (3961 + t) - (V.1 (2228 + F.1) + 2))) 111 (3954 + t) (V.1 (3954 + t) - 1)) (nI t) v) fun _ s17 => some ((), s17))) = X := by
    intro X
    unfold gX11_returns
    rw [li_add, ix_nI (by omega) (by omega), h.tk (c := 3982) (by omega) ht, d4, q_word0 h.1 (by omega), cl_some, hwd.1, li_add2, q_word0 h.1 (by omega), cl_some, hwd.2.1, li_add, ix_nI (by omega) (by omega), li_add, ix_nI (by omega) (by omega), h.tk (c := 3975) (by omega) ht, d5, q_frameOf hft, cl_some, ix_nI (by omega) (by omega), wr_eq, h.tk (c := 3961) (by omega) ht, h.pr (c := 2228 + F.1) (by omega), li_add, ix_nI (by omega) (by omega), ix_nI (by omega) (by omega), wr_eq, wt_u_nk (show 3954 + t ≠ 3961 + t by omega), h.tk (c := 3954) (by omega) ht, if_neg (show ¬ (wt_u (wt_u s 111 (3961 + t) (V.1 (3961 + t) - (V.1 (2228 + F.1) + 2))) 111 (3954 + t) (V.1 (3954 + t) - 1)) 110 5 ≠ 0 by rw [wt_u_ne (by omega), wt_u_ne (by omega), h.1]; simp), li_add, ix_nI (by omega) (by omega), wt_u_nk (show 3933 + t ≠ 3954 + t by omega), wt_u_nk (show 3933 + t ≠ 3961 + t by omega), h.tk (c := 3933) (by omega) ht]
  have hF2 : RF s (wt_u (wt_u s 111 (3961 + t) (V.1 (3961 + t) - (V.1 (2228 + F.1) + 2))) 111 (3954 + t) (V.1 (3954 + t) - 1)) := RF.trans (RF.uf (Or.inl rfl)) (RF.uf (Or.inl rfl))
  generalize hVV : vnf (vs (vs V (3961 + t) (V.1 (3961 + t) - (V.1 (2228 + F.1) + 2))) (3954 + t) (V.1 (3954 + t) - 1)) t n = V1 at *
  have hat : ∀ i, i ≠ 3961 + t → i ≠ 3954 + t → V1.1 i = V.1 i := fun i g1 g2 => by rw [← hVV]; exact (vs_ne g2).trans (vs_ne g1)
  have hw1 : vpe V.1 V1.1 := fun i g => hat i (by omega) (by omega)
  have hn1 : V1.2.2.1 t = n := by rw [← hVV]; exact mj_upd_self
  have hf1 : V1.2.2.2 = V.2.2.2 := by rw [← hVV]; rfl
  have hp1 : V1.2.1 = V.2.1 := by rw [← hVV]; rfl
  have hvrt : vrt Z V t v = (if n = 0 then vdn Z V1 t v else (let V2 := if V.1 (3933 + t) = 1 then vlv V1 t F else V1; let V3 := vs (vs (vs V2 (3982 + t) (nI (vpl V2 t (n - 1)))) (3975 + t) (nI (F.2.2.2.1 % 1024 / 32))) (3968 + t) (nI (F.2.2.2.1 % 32)); let c := vco (F.2.2.2.1 % 1024 / 32) (F.2.2.2.1 % 32 - 1); let V4 := vnu V3 t (n - 1) (V.1 (c + 3)).toInt.toNat v; if 2048 ≤ F.2.2.2.1 then vfv V4 t (V.1 (c + 1)) else V4)) := by
    unfold vrt
    rw [hn, Nat.add_sub_cancel]
    dsimp only
    rw [hFF, hVV]
  rw [hvrt]
  simp only [hst]
  by_cases c0 : n = 0
  · rw [if_pos c0, if_neg (by simp), if_pos c0]
    obtain ⟨s', e1, e2, e3⟩ := q_done (v := v) hD a3 hj1 ht (by rw [hat _ (by omega) (by omega)]; exact hs) (by rw [hat _ (by omega) (by omega)]; exact hk) (by omega) (by rw [hat _ (by omega) (by omega)]; exact hr) hz2 (by rw [hat _ (by omega) (by omega)]; exact hw1.tl.mpr hb)
    exact ⟨s', by rw [e1, cl_some], e2, RF.trans hF2 e3⟩
  · have hpm : vpl V t (n - 1) < 2048 := by
      have := (hj.fit ht (show n - 1 < V.2.2.1 t by omega)).2.2
      unfold vwd at this
      omega
    rw [if_neg c0, if_neg c0, if_pos (nI_m1 (by omega))]
    -- the frame below
    obtain ⟨m, rfl⟩ : ∃ m, n = m + 1 := ⟨n - 1, by omega⟩
    simp only [Nat.add_sub_cancel] at hpm ⊢
    have hvb := d3.2.2.1 m (by omega)
    rw [hFF] at hvb
    obtain ⟨b1, b2, b3, b4, b5⟩ := hvb
    have hfm := (d3.1 m (by omega)).1
    have hlim := (hj.1.li hfm).2
    obtain ⟨c, c1, c2, c3⟩ := vlin_c (l := F.2.2.2.1 % 32 - 1) hj.1 hfm b4 (by rcases b5 with ⟨-, e, -⟩ | ⟨-, e, -⟩; exact Or.inl e; exact Or.inr e)
    -- behind leaving
    have h108 : ∀ (V2 : vV) (s2 : wt_S), RS s2 V2 → VJ 2048 V2 → V2.2.2 = V1.2.2 → (∀ i, i ≠ 2067 → i ≠ 4066 + t → V2.1 i = V1.1 i) → vpl V2 t m = vpl V t m → RF s s2 → ∃ s', gX11_returns_108 D s2 (nI t) v (nI (vpl V t m)) (nI F.2.2.2.1) = some ((), s') ∧ RS s' (let V3 := vs (vs (vs V2 (3982 + t) (nI (vpl V2 t m))) (3975 + t) (nI (F.2.2.2.1 % 1024 / 32))) (3968 + t) (nI (F.2.2.2.1 % 32)); let c := vco (F.2.2.2.1 % 1024 / 32) (F.2.2.2.1 % 32 - 1); let V4 := vnu V3 t m (V.1 (c + 3)).toInt.toNat v; if 2048 ≤ F.2.2.2.1 then vfv V4 t (V.1 (c + 1)) else V4) ∧ RF s s' := by
      intro V2 s2 g1 g2 g3 g4 g5 g6
      have k1 := g1.u (i := 3982 + t) (v := nI (vpl V2 t m)) (vtt (by omega) ht) (Or.inr (by omega))
      have k2 := k1.u (i := 3975 + t) (v := nI (F.2.2.2.1 % 1024 / 32)) (vtt (by omega) ht) (Or.inr (by omega))
      have k3 := k2.u (i := 3968 + t) (v := nI (F.2.2.2.1 % 32)) (vtt (by omega) ht) (Or.inr (by omega))
      have hj3 : VJ 2048 (vs (vs (vs V2 (3982 + t) (nI (vpl V2 t m))) (3975 + t) (nI (F.2.2.2.1 % 1024 / 32))) (3968 + t) (nI (F.2.2.2.1 % 32))) := VJ.vs (VJ.vs (VJ.vs g2 (by omega)) (by omega)) (by omega)
      have e22 : V2.2.2.1 t = m + 1 := by rw [g3]; exact hn1
      have e23 : V2.2.2.2 = V.2.2.2 := by rw [g3, hf1]
      generalize hV3 : vs (vs (vs V2 (3982 + t) (nI (vpl V2 t m))) (3975 + t) (nI (F.2.2.2.1 % 1024 / 32))) (3968 + t) (nI (F.2.2.2.1 % 32)) = V3 at *
      have hV3w : ∀ i, i ≠ 2067 → i ≠ 4066 + t → i ≠ 3982 + t → i ≠ 3975 + t → i ≠ 3968 + t → V3.1 i = V1.1 i := fun i q1 q2 q3 q4 q5 => by rw [← hV3, vs_ne q5, vs_ne q4, vs_ne q3]; exact g4 i q1 q2
      have hV3p : ∀ i, 2228 ≤ i → i < 2898 → V3.1 i = V.1 i := fun i q1 q2 => by rw [hV3w i (by omega) (by omega) (by omega) (by omega) (by omega), hat i (by omega) (by omega)]
      have hV32 : V3.2.2.2 = V.2.2.2 := by rw [← hV3]; exact e23
      have hV3n : V3.2.2.1 t = m + 1 := by rw [← hV3]; exact e22
      have hV3l : vpl V3 t m = vpl V t m := by rw [← g5, ← hV3]; rfl
      have hszm : vsz V3.1 (V.2.2.2 t m).1 = vsz V.1 (V.2.2.2 t m).1 := by unfold vsz; rw [hV3p _ (by omega) (by omega)]
      have k4 : RS (wt_u (wt_u (wt_u (wt_u s2 111 (3982 + t) (nI (vpl V2 t m))) 111 (3975 + t) (nI (F.2.2.2.1 % 1024 / 32))) 111 (3968 + t) (nI (F.2.2.2.1 % 32))) 111 (vpl V3 t m + 2 + c) v) (vnu V3 t m c v) := k3.num hj3 ht (by omega) (by rw [hV32, hszm]; exact c2) (by rw [hV32, hV3p _ (by omega) (by omega)]; exact c3)
      have hcn : (V.1 (vco (F.2.2.2.1 % 1024 / 32) (F.2.2.2.1 % 32 - 1) + 3)).toInt.toNat = c := by
        rw [b2, c1, nI_int (by have := (hj.1.sz hfm).2; omega)]
        rfl
      have hszc := (hj.1.sz hfm).2
      have hpl8 := (hj.fit ht (show m < V.2.2.1 t by omega)).2.2
      unfold vwd at hpl8
      have hF4 : RF s (wt_u (wt_u (wt_u (wt_u s2 111 (3982 + t) (nI (vpl V2 t m))) 111 (3975 + t) (nI (F.2.2.2.1 % 1024 / 32))) 111 (3968 + t) (nI (F.2.2.2.1 % 32))) 111 (vpl V3 t m + 2 + c) v) := RF.trans g6 (RF.trans (RF.uf (Or.inl rfl)) (RF.trans (RF.uf (Or.inl rfl)) (RF.trans (RF.uf (Or.inl rfl)) (RF.uf (Or.inl rfl)))))
      dsimp only
      rw [hcn]
      unfold gX11_returns_108
      obtain ⟨bb1, bb2, bb3, bb4, -⟩ := bk_at hbk
      rw [bb3, bb4, li_add, ix_nI (by omega) (by omega), wr_eq, li_add, ix_nI (by omega) (by omega), wr_eq, li_add, ix_nI (by omega) (by omega), wr_eq, ix_nI (by omega) (by omega), ix_nI (by omega) (by omega), wt_u_self, wt_u_nk (show 3975 + t ≠ 3968 + t by omega), wt_u_self, li_sub (by omega), q_codeAt, cl_some, li_add2, ix_nI (by omega) (by omega), ← g5, k3.pr (c := 2258 + 4 * (16 * (F.2.2.2.1 % 1024 / 32) + (F.2.2.2.1 % 32 - 1)) + 3) (by omega), hV3p _ (by omega) (by omega), show V.1 (2258 + 4 * (16 * (F.2.2.2.1 % 1024 / 32) + (F.2.2.2.1 % 32 - 1)) + 3) = nI c by rw [b2]; exact c1, li_add2, nI_add, q_lays0 k3.1 (by omega), cl_some, show vpl V2 t m + 2 + c = vpl V3 t m + 2 + c by rw [g5, hV3l]]
      by_cases cc : 2048 ≤ F.2.2.2.1
      · obtain ⟨ks, ks1, ks2⟩ := hcb cc
        have hks4 : (vnu V3 t m c v).1 (3989 + t) = nI ks := by
          show V3.1 (3989 + t) = _
          rw [hV3w _ (by omega) (by omega) (by omega) (by omega) (by omega), hat _ (by omega) (by omega)]
          exact ks2
        obtain ⟨s', f1, f2, f3⟩ := q_fover (words := V.1 (vco (F.2.2.2.1 % 1024 / 32) (F.2.2.2.1 % 32 - 1) + 1)) k4 ht ks1 hks4
        rw [if_pos cc, if_neg (fun e => by have := bb2.mp e; omega), li_add2, ix_nI (by omega) (by omega), k4.pr (c := 2258 + 4 * (16 * (F.2.2.2.1 % 1024 / 32) + (F.2.2.2.1 % 32 - 1)) + 1) (by omega)]
        refine ⟨s', ?_, f2, RF.trans hF4 f3⟩
        rw [show (vnu V3 t m c v).1 (2258 + 4 * (16 * (F.2.2.2.1 % 1024 / 32) + (F.2.2.2.1 % 32 - 1)) + 1) = V.1 (vco (F.2.2.2.1 % 1024 / 32) (F.2.2.2.1 % 32 - 1) + 1) from hV3p _ (by omega) (by omega), f1, cl_some]
      · rw [if_neg cc, if_pos (bb2.mpr (by omega))]
        exact ⟨_, rfl, k4, hF4⟩
    by_cases cm : V.1 (3933 + t) = 1
    · rw [if_neg (by rw [cm]; simp), if_pos cm]
      have hi1 : Itp V1.2.1 t np := by rw [hp1]; exact hc.2.2.2.1
      have hof : F.2.2.1 = 0 → np ≠ 1 → vnof V1 t (np - 1) := fun e1 _ i gi => by
        rw [hn1] at gi
        rw [hf1]
        have := d1.drop (by rw [hFF]; exact e1) (fun i _ => by unfold vwd; omega) i gi
        rw [hFF] at this
        omega
      have hlt : ∀ i, i < V1.2.2.1 t → (V1.2.2.2 t i).2.1 < np := fun i gi => by
        rw [hn1] at gi
        rw [hf1]
        exact (d1.1 i (by omega)).1
      have hk1 : V1.1 2067 = nI k := by rw [hat _ (by omega) (by omega)]; exact hk
      obtain ⟨s2, l1, l2, l3⟩ := q_leaves (F := F) a3 hj1.2.1 hj1.2.2.1 hj1.pt ht (by rw [hat _ (by omega) (by omega)]; exact hc.2.1) hc.2.2.1 hi1 d2 (by unfold vpl at hfit2; rw [hFF] at hfit2; omega) hof (fun m' hm' i gi e => by have := hlt i gi; omega) (by rw [hat _ (by omega) (by omega)]; exact hhot) hk1 (by omega)
      obtain ⟨v1, v2, -, -, v5, np2, -, -, v8⟩ := vlv_inv (F := F) (z := 0) (lim := 2048) hj1 ht (by rw [hat _ (by omega) (by omega)]; exact hc.2.1) hc.2.2.1 hi1 d2 hof hlt hk1 (fun _ _ => Nat.zero_le _)
      have hplm : vpl (vlv V1 t F) t m = vpl V t m := by
        have := (v8.2 m (by rw [hn1]; omega)).2.1
        unfold vpl
        rw [show (vlv V1 t F).2.2.2 = V.2.2.2 by rw [v2, hf1]]
        rw [hf1, hp1] at this
        rw [this]
      obtain ⟨s', o1, o2, o3⟩ := h108 (vlv V1 t F) s2 l2 v1 v2 v5 hplm (RF.trans hF2 l3)
      refine ⟨s', ?_, o2, o3⟩
      have hvpl : vpl V t (m + 1) = vat V1.2.1 t F.2.1 + F.2.2.1 := by unfold vpl; rw [hFF, hp1]
      rw [hvpl, l1, cl_some]
      exact o1
    · rw [if_pos cm, if_neg cm]
      exact h108 V1 _ a3 hj1 rfl (fun _ _ _ => rfl) (by unfold vpl; rw [hf1, hp1]) hF2
end
