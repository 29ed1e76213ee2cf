section
/-! ===== the class: a frame comes ===== -/
section
variable {b lim : Nat} {s s' : wt_S} {V V' : vV} {zs zs' : List (vP × Nat)} {fr fr' : List Nat} {t np z need k f bk : Nat}
/-- what a frame is before a slot is handed over -/
theorem c_push_51 {T : Nat} {p f n : Nat} {W : Nat → Int32} (hx : CX b lim) (hR : RP 5 s W) (hf : f < 10) (hn : vsz W f = n ∧ n ≤ 8) (hp : p + 2 + n ≤ lim) (hT : T ≠ b + 15) : ∀ (m i fu : Nat) (s1 : wt_S), i + m = n → m < fu → (∀ c, c ≠ b + 15 → s1 c = s c) →
    ∃ mm, gX2_pushFrame_51 b T fu s1 (nI f) (nI p) (nI n) (nI i) = gX2_pushFrame_51 b T 1 (wt_uf s (b + 15) mm) (nI f) (nI p) (nI n) (nI n) ∧ (∀ j, i ≤ j → j < n → mm (p + 2 + j) = vdf W f j) ∧ ∀ x, ¬ (p + 2 + i ≤ x ∧ x < p + 2 + n) → mm x = s1 (b + 15) x := by
  have hb := hx.b
  have hxm := hx.m
  intro m
  induction m with
  | zero =>
    intro i fu s1 hi hfu hs
    obtain ⟨fu, rfl⟩ : ∃ k, fu = k + 1 := ⟨fu - 1, by omega⟩
    obtain rfl : i = n := by omega
    refine ⟨s1 (b + 15), ?_, fun j h1 h2 => by omega, fun _ _ => rfl⟩
    have e : wt_uf s (b + 15) (s1 (b + 15)) = s1 := by
      funext c
      by_cases h : c = b + 15
      · subst h; rw [wt_uf_at]
      · rw [wt_uf_ne h, hs c h]
    rw [e, gX2_pushFrame_51, gX2_pushFrame_51, if_pos (Int.le_refl _), if_pos (Int.le_refl _)]
  | succ m ih =>
    intro i fu s1 hi hfu hs
    obtain ⟨fu, rfl⟩ : ∃ k, fu = k + 1 := ⟨fu - 1, by omega⟩
    have hR1 : RP 5 s1 W := ⟨fun f hf => by rw [hs _ (by omega), hs _ (by omega), hs _ (by omega), hs _ (by omega)]; exact hR.1 f hf, fun j hj => by rw [hs _ (by omega)]; exact hR.2 j hj⟩
    rw [gX2_pushFrame_51, if_neg (by rw [nI_int (by omega), nI_int (by omega)]; omega), c_isPointer hR1 hf, cl_some, if_rb, show nI p + 2 + nI i = nI (p + 2 + i) by rw [show nI p + 2 = nI (p + 2) from nI_add _ 2, nI_add]]
    have go : ∀ v, v = vdf W f i → ∃ mm, gX2_pushFrame_87 b T (gX2_pushFrame_51 b T fu) s1 (nI f) (nI p) (nI n) (nI i) (nI (p + 2 + i)) v = gX2_pushFrame_51 b T 1 (wt_uf s (b + 15) mm) (nI f) (nI p) (nI n) (nI n) ∧ (∀ j, i ≤ j → j < n → mm (p + 2 + j) = vdf W f j) ∧ ∀ x, ¬ (p + 2 + i ≤ x ∧ x < p + 2 + n) → mm x = s1 (b + 15) x := fun v hv => by
      unfold gX2_pushFrame_87
      rw [c_put (by omega), cl_some, show nI i + 1 = nI (i + 1) from nI_add i 1]
      obtain ⟨mm, a1, a2, a3⟩ := ih (i + 1) fu (wt_u s1 (b + 15) (p + 2 + i) v) (by omega) (by omega) (fun c hc => by rw [wt_u_ne hc]; exact hs c hc)
      refine ⟨mm, a1, fun j h1 h2 => ?_, fun x hx => ?_⟩
      · by_cases e : j = i
        · subst e
          rw [a3 _ (by omega), wt_u_self]; exact hv
        · exact a2 j (by omega) h2
      · rw [a3 x (by omega), wt_u_nk (by omega)]
    unfold vdf at go
    by_cases c : bt (W (2238 + f)) i
    · rw [if_pos c]
      exact go (-1) (by rw [if_pos c])
    · rw [if_neg c]
      exact go 0 (by rw [if_neg c])
theorem c_push (h : RC b lim s V zs fr) (hx : CX b lim) (hj : VJ lim V) (hc : Icn V t np) (ht : t < 6) (hf : f < 10) (hr : vud V.1 (V.2.2.2 t) (np - 1) (V.2.2.1 t) + vwd V.1 f ≤ vln V.2.1 t (np - 1)) {bw : Int32} :
    ∃ s1 id, id < 256 ∧ gX2_pushFrame b (b + 17 + 2 * t) s (nI f) bw = some ((), s1) ∧ (∃ y ∈ zs, y.2 = id ∧ y.1.2.2.1 = t ∧ y.1.2.2.2 = np - 1) ∧
      (∀ c, c ≠ b + 15 → c ≠ b + 5 → c ≠ b + 17 + 2 * t → s1 c = s c) ∧ s1 (b + 5) = mj_upd (s (b + 5)) id (s (b + 5) id + nI (vwd V.1 f)) ∧
      s1 (b + 15) (vnx V t) = s (b + 17 + 2 * t) 11 ∧ s1 (b + 15) (vnx V t + 1) = bw ∧ (∀ k, k < vsz V.1 f → s1 (b + 15) (vnx V t + 2 + k) = vdf V.1 f k) ∧ (∀ x, ¬ (vnx V t ≤ x ∧ x < vnx V t + vwd V.1 f) → s1 (b + 15) x = s (b + 15) x) ∧
      s1 (b + 17 + 2 * t) 4 = s (b + 17 + 2 * t) 4 + 1 ∧ s1 (b + 17 + 2 * t) 5 = s (b + 17 + 2 * t) 5 + nI (vwd V.1 f) ∧ s1 (b + 17 + 2 * t) 6 = (if (s (b + 17 + 2 * t) 6).toInt < (s (b + 17 + 2 * t) 5 + nI (vwd V.1 f)).toInt then s (b + 17 + 2 * t) 5 + nI (vwd V.1 f) else s (b + 17 + 2 * t) 6) ∧ s1 (b + 17 + 2 * t) 11 = nI (vnx V t) ∧ s1 (b + 17 + 2 * t) 9 = nI f ∧ s1 (b + 17 + 2 * t) 10 = 0 ∧ ∀ j, j ≠ 4 → j ≠ 5 → j ≠ 6 → j ≠ 9 → j ≠ 10 → j ≠ 11 → s1 (b + 17 + 2 * t) j = s (b + 17 + 2 * t) j := by
  have hb := hx.b
  have hxm := hx.m
  have hnp := hc.2.2.1
  have hsz := hj.1.sz hf
  have hwd := hj.1.wd hf
  obtain ⟨x, y, -, y2, y3, y4, y5, y6, -, -⟩ := zfind (t := t) (n := np - 1) h.1 hj.2.2.1 (hc.2.2.2.1.1 (np - 1) (by omega))
  have hch := h.ch ht hc.2.1
  have e12 := hch.1.2 y y2 y3 (by omega)
  obtain ⟨i1, i2, -, -⟩ := h.2.1.mem y2
  have e5 := ((h.2.2.2.1 t ht).2.2.2.2.2 y y2 y3).1
  rw [y4] at e5
  have hvn : vnx V t = y.1.1 + vud V.1 (V.2.2.2 t) (np - 1) (V.2.2.1 t) := by unfold vnx; rw [vnp_of hc.2.1 hnp.2, y5]
  have hyo := (hj.2.1.2 y.1 (h.mem y2)).2.1
  have hpl : vnx V t + vwd V.1 f ≤ lim := by rw [y6] at hr; omega
  have hw2 : vwd V.1 f = vsz V.1 f + 2 := rfl
  obtain ⟨mm, m1, m2, m3⟩ := c_push_51 (T := b + 17 + 2 * t) (p := vnx V t) hx h.2.2.2.2.2 hf ⟨rfl, hsz.2⟩ (by omega) (by omega) (vsz V.1 f) 0 wt_N (wt_u (wt_u s (b + 15) (vnx V t) (s (b + 17 + 2 * t) 11)) (b + 15) (vnx V t + 1) bw) (by omega) (by unfold wt_N; omega) (fun c hc => by rw [wt_u_ne hc, wt_u_ne hc])
  have hRP1 : RP 5 (wt_u (wt_u s (b + 15) (vnx V t) (s (b + 17 + 2 * t) 11)) (b + 15) (vnx V t + 1) bw) V.1 := h.2.2.2.2.2.eq hj.1 vpe.refl (fun c c1 c2 => by rw [wt_u_ne (by omega), wt_u_ne (by omega)])
  have hmx : ∀ (s : wt_S) (x y : Int32), gJ9_max_7cf53 s x y = some (if x.toInt < y.toInt then y else x, s) := fun s x y => by
    unfold gJ9_max_7cf53
    split <;> rfl
  have e2w : 2 + nI (vsz V.1 f) = nI (vwd V.1 f) := by rw [li_add, hw2, Nat.add_comm]
  unfold gX2_pushFrame
  rw [e12, c_topOf i1, cl_some, i2, e5, nI_add, ← hvn, c_put (by omega), cl_some, show nI (vnx V t) + 1 = nI (vnx V t + 1) from nI_add _ 1, c_put (by omega), cl_some, c_sizeOf hRP1 hf, cl_some, hsz.1, show (0 : Int32) = nI 0 from rfl, m1, gX2_pushFrame_51, if_pos (Int.le_refl _), e2w]
  rw [wt_uf_ne (show b + 17 + 2 * t ≠ b + 15 by omega), e12, c_use i1, cl_some, wr_eq, hmx, cl_some, wr_eq, wr_eq, wr_eq, wr_eq, wr_eq]
  refine ⟨_, y.2, i1, rfl, ⟨y, y2, rfl, y3, y4⟩, ?_⟩
  have h5v : wt_uf s (b + 15) mm (b + 5) y.2 = s (b + 5) y.2 := by rw [wt_uf_ne (by omega)]
  rw [h5v]
  have hT0 : wt_u (wt_uf s (b + 15) mm) (b + 5) y.2 (s (b + 5) y.2 + nI (vwd V.1 f)) (b + 17 + 2 * t) = s (b + 17 + 2 * t) := by rw [wt_u_ne (by omega), wt_uf_ne (by omega)]
  have hC5 : wt_u (wt_uf s (b + 15) mm) (b + 5) y.2 (s (b + 5) y.2 + nI (vwd V.1 f)) (b + 5) = mj_upd (s (b + 5)) y.2 (s (b + 5) y.2 + nI (vwd V.1 f)) := by rw [wt_u_at, wt_uf_ne (by omega)]
  have hC15 : wt_u (wt_uf s (b + 15) mm) (b + 5) y.2 (s (b + 5) y.2 + nI (vwd V.1 f)) (b + 15) = mm := by rw [wt_u_ne (by omega), wt_uf_at]
  have hCo : ∀ c, c ≠ b + 5 → c ≠ b + 15 → wt_u (wt_uf s (b + 15) mm) (b + 5) y.2 (s (b + 5) y.2 + nI (vwd V.1 f)) c = s c := fun c h1 h2 => by rw [wt_u_ne h1, wt_uf_ne h2]
  generalize wt_u (wt_uf s (b + 15) mm) (b + 5) y.2 (s (b + 5) y.2 + nI (vwd V.1 f)) = s2 at *
  generalize hT : b + 17 + 2 * t = T at *
  have hO : ∀ (v5 v6 v4 v11 v9 v10 : Int32) c, c ≠ T → wt_u (wt_u (wt_u (wt_u (wt_u (wt_u s2 T 5 v5) T 6 v6) T 4 v4) T 11 v11) T 9 v9) T 10 v10 c = s2 c := fun _ _ _ _ _ _ c hc => by
    rw [wt_u_ne hc, wt_u_ne hc, wt_u_ne hc, wt_u_ne hc, wt_u_ne hc, wt_u_ne hc]
  have hTT : ∀ (v5 v6 v4 v11 v9 v10 : Int32), wt_u (wt_u (wt_u (wt_u (wt_u (wt_u s2 T 5 v5) T 6 v6) T 4 v4) T 11 v11) T 9 v9) T 10 v10 T = mj_upd (mj_upd (mj_upd (mj_upd (mj_upd (mj_upd (s T) 5 v5) 6 v6) 4 v4) 11 v11) 9 v9) 10 v10 := fun _ _ _ _ _ _ => by
    rw [wt_u_at, wt_u_at, wt_u_at, wt_u_at, wt_u_at, wt_u_at, hT0]
  have q5 : wt_u s2 T 5 (s2 T 5 + nI (vwd V.1 f)) T 5 = s T 5 + nI (vwd V.1 f) := by rw [wt_u_self, hT0]
  have q6 : wt_u s2 T 5 (s2 T 5 + nI (vwd V.1 f)) T 6 = s T 6 := by rw [wt_u_nk (by omega), hT0]
  have q4 : ∀ v, wt_u (wt_u s2 T 5 (s2 T 5 + nI (vwd V.1 f))) T 6 v T 4 = s T 4 := fun v => by rw [wt_u_nk (by omega), wt_u_nk (by omega), hT0]
  rw [q4, q5, q6, hT0, show nI 0 = (0 : Int32) from rfl]
  rw [hTT]
  refine ⟨fun c h1 h2 h3 => by rw [hO _ _ _ _ _ _ c h3, hCo c h2 h1], by rw [hO _ _ _ _ _ _ _ (by omega), hC5], ?_, ?_, fun k hk => ?_, fun x hx => ?_, ?_, ?_, ?_, ?_, ?_, ?_, fun j h4 h5 h6 h9 h10 h11 => ?_⟩
  · rw [hO _ _ _ _ _ _ _ (by omega), hC15, m3 _ (by omega), wt_u_nk (by omega), wt_u_self]
  · rw [hO _ _ _ _ _ _ _ (by omega), hC15, m3 _ (by omega), wt_u_self]
  · rw [hO _ _ _ _ _ _ _ (by omega), hC15]; exact m2 k (by omega) hk
  · rw [hO _ _ _ _ _ _ _ (by omega), hC15, m3 _ (by omega), wt_u_nk (by omega), wt_u_nk (by omega)]
  · rw [mj_upd_ne (by omega), mj_upd_ne (by omega), mj_upd_ne (by omega), mj_upd_self]
  · rw [mj_upd_ne (by omega), mj_upd_ne (by omega), mj_upd_ne (by omega), mj_upd_ne (by omega), mj_upd_ne (by omega), mj_upd_self]
  · rw [mj_upd_ne (by omega), mj_upd_ne (by omega), mj_upd_ne (by omega), mj_upd_ne (by omega), mj_upd_self]
  · rw [mj_upd_ne (by omega), mj_upd_ne (by omega), mj_upd_self]
  · rw [mj_upd_ne (by omega), mj_upd_self]
  · rw [mj_upd_self]
  · rw [mj_upd_ne h10, mj_upd_ne h9, mj_upd_ne h11, mj_upd_ne h4, mj_upd_ne h6, mj_upd_ne h5]
end
end
section
/-! ===== the class: a frame has come ===== -/
/-- what pushFrame leaves -/
def PUs (b t : Nat) (s s1 : wt_S) (V : vV) (f id : Nat) (bw : Int32) : Prop := (∀ c, c ≠ b + 15 → c ≠ b + 5 → c ≠ b + 17 + 2 * t → s1 c = s c) ∧ s1 (b + 5) = mj_upd (s (b + 5)) id (s (b + 5) id + nI (vwd V.1 f)) ∧
      s1 (b + 15) (vnx V t) = s (b + 17 + 2 * t) 11 ∧ s1 (b + 15) (vnx V t + 1) = bw ∧ (∀ k, k < vsz V.1 f → s1 (b + 15) (vnx V t + 2 + k) = vdf V.1 f k) ∧ (∀ x, ¬ (vnx V t ≤ x ∧ x < vnx V t + vwd V.1 f) → s1 (b + 15) x = s (b + 15) x) ∧
      s1 (b + 17 + 2 * t) 4 = s (b + 17 + 2 * t) 4 + 1 ∧ s1 (b + 17 + 2 * t) 5 = s (b + 17 + 2 * t) 5 + nI (vwd V.1 f) ∧ s1 (b + 17 + 2 * t) 6 = (if (s (b + 17 + 2 * t) 6).toInt < (s (b + 17 + 2 * t) 5 + nI (vwd V.1 f)).toInt then s (b + 17 + 2 * t) 5 + nI (vwd V.1 f) else s (b + 17 + 2 * t) 6) ∧ s1 (b + 17 + 2 * t) 11 = nI (vnx V t) ∧ s1 (b + 17 + 2 * t) 9 = nI f ∧ s1 (b + 17 + 2 * t) 10 = 0 ∧ ∀ j, j ≠ 4 → j ≠ 5 → j ≠ 6 → j ≠ 9 → j ≠ 10 → j ≠ 11 → s1 (b + 17 + 2 * t) j = s (b + 17 + 2 * t) j
section
variable {b lim : Nat} {s s1 s2 : wt_S} {V V' : vV} {zs zs' : List (vP × Nat)} {fr fr' : List Nat} {t np z need k f bk id : Nat} {a : Int32} {q : Option (Nat × Nat)}
theorem c_pushP (h : RC b lim s V zs fr) (hx : CX b lim) (hj : VJ lim V) (hc : Icn V t np) (ht : t < 6) (hf : f < 10) (hr : vud V.1 (V.2.2.2 t) (np - 1) (V.2.2.1 t) + vwd V.1 f ≤ vln V.2.1 t (np - 1)) {bw : Int32} : ∃ s1 id, id < 256 ∧ gX2_pushFrame b (b + 17 + 2 * t) s (nI f) bw = some ((), s1) ∧ (∃ y ∈ zs, y.2 = id ∧ y.1.2.2.1 = t ∧ y.1.2.2.2 = np - 1) ∧ PUs b t s s1 V f id bw := c_push h hx hj hc ht hf hr
theorem vpu_m : (vpu V t f bk a q).1 (4045 + t) = if (V.1 (3961 + t) + (V.1 (2228 + f) + 2)).toInt ≤ (V.1 (4045 + t)).toInt then V.1 (4045 + t) else V.1 (3961 + t) + (V.1 (2228 + f) + 2) := by
  unfold vpu
  dsimp only
  rw [vs_at]
  have e : (vs (vnf (vinc (vs (vs (vs (vfr V t (V.2.2.1 t) (vfn V t f bk a q)) (3982 + t) (nI (vat V.2.1 t (vfn V t f bk a q).2.1 + (vfn V t f bk a q).2.2.1))) (3975 + t) (nI f)) (3968 + t) 0) (3954 + t)) t (V.2.2.1 t + 1)) (3961 + t) (V.1 (3961 + t) + (V.1 (2228 + f) + 2))).1 (4045 + t) = V.1 (4045 + t) := by
    rw [vs_ne (by omega)]
    show (vinc (vs (vs (vs (vfr V t (V.2.2.1 t) (vfn V t f bk a q)) (3982 + t) _) (3975 + t) (nI f)) (3968 + t) 0) (3954 + t)).1 (4045 + t) = _
    rw [vinc_ne (by omega), vs_ne (by omega), vs_ne (by omega), vs_ne (by omega)]
    rfl
  rw [e]
  split
  · exact e
  · exact vs_at
theorem c_pu (h : RC b lim s V zs fr) (hx : CX b lim) (hj : VJ lim V) (hc : Icn V t np) (ht : t < 6) (hf : f < 10) (hs1 : 1 ≤ vsz V.1 f) (hr : vud V.1 (V.2.2.2 t) (np - 1) (V.2.2.1 t) + vwd V.1 f ≤ vln V.2.1 t (np - 1)) (hy : ∃ y ∈ zs, y.2 = id ∧ y.1.2.2.1 = t ∧ y.1.2.2.2 = np - 1) (hp : PUs b t s s1 V f id (nI bk)) (hs2 : ∀ c, c ≠ b + 15 → s2 c = s1 c) (hm2 : ∀ x, x ≠ vnx V t + 2 → s2 (b + 15) x = s1 (b + 15) x) (h0 : s2 (b + 15) (vnx V t + 2) = vsw V.1 (vpl V t) (vfn V t f bk a q) 0) (hq : ∀ p, q = some p → p.1 < V.2.2.1 t) : RC b lim s2 (vpu V t f bk a q) zs fr ∧ TO b t s s2 := by
  have hb := hx.b
  obtain ⟨p1, p2, p3, p4, p5, p6, p7, p8, p9, p10, p11, p12, p13⟩ := hp
  obtain ⟨y, y1, y2, y3, y4⟩ := hy
  have hnp := vnp_of hc.2.1 hc.2.2.1.2
  have hsz := hj.1.sz hf
  have hwd := hj.1.wd hf
  obtain ⟨w1, w2, w3, w4, w5, w6⟩ := vpu_w (V := V) (t := t) (f := f) (bk := bk) (a := a) (q := q)
  have w7 := vpu_m (V := V) (t := t) (f := f) (bk := bk) (a := a) (q := q)
  rw [hwd.1] at w6 w7
  have h22 := vpu_2 (V := V) (t := t) (f := f) (bk := bk) (a := a) (q := q)
  obtain ⟨k1, k2, k3, k4, k5, k6⟩ := h.2.2.2.1 t ht
  have g2 : ∀ c, c ≠ b + 15 → c ≠ b + 5 → c ≠ b + 17 + 2 * t → s2 c = s c := fun c h1 h2 h3 => by rw [hs2 c h1, p1 c h1 h2 h3]
  have gT : s2 (b + 17 + 2 * t) = s1 (b + 17 + 2 * t) := hs2 _ (by omega)
  have g5 : s2 (b + 5) = mj_upd (s (b + 5)) id (s (b + 5) id + nI (vwd V.1 f)) := by rw [hs2 _ (by omega), p2]
  have hto : TO b t s s2 := ⟨fun k hk hne => ⟨g2 _ (by omega) (by omega) (by omega), g2 _ (by omega) (by omega) (by omega)⟩, fun c hc => g2 c (by omega) (by omega) (by omega)⟩
  have hot : OT t V (vpu V t f bk a q) := OT.pu ht
  have e4 := k1.2.1 (4, 3954) (by decide)
  have e5 := k1.2.1 (5, 3961) (by decide)
  have e6 := k1.2.1 (6, 4045) (by decide)
  have n22 : (vpu V t f bk a q).2.2.1 t = V.2.2.1 t + 1 := by rw [h22]; exact mj_upd_self
  have f22 : (vpu V t f bk a q).2.2.2 t = mj_upd (V.2.2.2 t) (V.2.2.1 t) (vfn V t f bk a q) := by rw [h22]; exact if_pos rfl
  have ps22 : (vpu V t f bk a q).2.1 = V.2.1 := by rw [h22]
  have hF1 : (vfn V t f bk a q).1 = f := rfl
  have hF2 : (vfn V t f bk a q).2.1 = np - 1 := by show vnp V t - 1 = _; rw [hnp]
  have hvn : vat V.2.1 t (vfn V t f bk a q).2.1 + (vfn V t f bk a q).2.2.1 = vnx V t := rfl
  have hfree := hc.free (f := f) hj ht hr
  refine ⟨h.op hx hj.1 hot ht hto hj.vfr (fun z _ => Iff.rfl) (fun z hz hzt => ?_) (by rw [ps22]; exact h.1) (h.2.1.eq (fun c hc' => g2 c (by omega) (by omega) (by omega))) ⟨fun j hj' => ?_, fun j hj' => ?_⟩ ⟨⟨?_, fun e he => ?_, fun e he => ?_⟩, ⟨fun hz => by omega, fun _ => ?_⟩, ⟨?_, fun z hz hzt => ?_⟩, ⟨fun z hz hzt hzn => ?_, fun hz => ?_⟩, ?_, fun z hz hzt => ?_⟩ ?_, hto⟩
  · have hne : z.2 ≠ id := fun e => hzt (by rw [h.2.1.inj hz y1 (e.trans y2.symm)]; exact y3)
    rw [g5, mj_upd_ne hne, g2 (b + 6) (by omega) (by omega) (by omega)]
    exact ⟨rfl, rfl⟩
  · rw [g2 _ (by omega) (by omega) (by omega), w1 _ (by omega) (by omega) (by omega) (by omega) (by omega) (by omega)]; exact h.2.2.1.1 j hj'
  · rw [g2 _ (by omega) (by omega) (by omega), w1 _ (by omega) (by omega) (by omega) (by omega) (by omega) (by omega)]; exact h.2.2.1.2 j hj'
  · rw [gT, p13 _ (by omega) (by omega) (by omega) (by omega) (by omega) (by omega)]; exact k1.1
  · have hk := k1.2.1 e he
    rw [gT]
    simp only [tf, List.mem_cons, List.not_mem_nil, or_false] at he
    rcases he with rfl | rfl | rfl | rfl | rfl | rfl | rfl | rfl | rfl | rfl
    · rw [p13 _ (by omega) (by omega) (by omega) (by omega) (by omega) (by omega), w1 _ (by omega) (by omega) (by omega) (by omega) (by omega) (by omega)]; exact hk
    · rw [p13 _ (by omega) (by omega) (by omega) (by omega) (by omega) (by omega), w1 _ (by omega) (by omega) (by omega) (by omega) (by omega) (by omega)]; exact hk
    · rw [p13 _ (by omega) (by omega) (by omega) (by omega) (by omega) (by omega), w1 _ (by omega) (by omega) (by omega) (by omega) (by omega) (by omega)]; exact hk
    · show s1 (b + 17 + 2 * t) 4 = (vpu V t f bk a q).1 (3954 + t)
      rw [p7, w5, hk]
    · show s1 (b + 17 + 2 * t) 5 = (vpu V t f bk a q).1 (3961 + t)
      rw [p8, w6, hk]
    · show s1 (b + 17 + 2 * t) 6 = (vpu V t f bk a q).1 (4045 + t)
      rw [p9, w7, hk, e5]
      by_cases c : (V.1 (3961 + t) + nI (vwd V.1 f)).toInt ≤ (V.1 (4045 + t)).toInt
      · rw [if_neg (by show ¬ (V.1 (4045 + t)).toInt < (V.1 (3961 + t) + nI (vwd V.1 f)).toInt; omega), if_pos c]
      · rw [if_pos (by show (V.1 (4045 + t)).toInt < (V.1 (3961 + t) + nI (vwd V.1 f)).toInt; omega), if_neg c]
    · rw [p13 _ (by omega) (by omega) (by omega) (by omega) (by omega) (by omega), w1 _ (by omega) (by omega) (by omega) (by omega) (by omega) (by omega)]; exact hk
    · rw [p13 _ (by omega) (by omega) (by omega) (by omega) (by omega) (by omega), w1 _ (by omega) (by omega) (by omega) (by omega) (by omega) (by omega)]; exact hk
    · show s1 (b + 17 + 2 * t) 9 = (vpu V t f bk a q).1 (3975 + t)
      rw [p11, w3]
    · rw [p13 _ (by omega) (by omega) (by omega) (by omega) (by omega) (by omega), w1 _ (by omega) (by omega) (by omega) (by omega) (by omega) (by omega)]; exact hk
  · have hk := k1.2.2 e he
    have ep := ts_p e he
    have hne : ∀ e ∈ ts, e.2 ≠ 3982 ∧ e.2 ≠ 3975 ∧ e.2 ≠ 3968 ∧ e.2 ≠ 3954 ∧ e.2 ≠ 3961 ∧ e.2 ≠ 4045 := by decide
    have := hne e he
    rw [g2 _ (by omega) (by omega) (by omega), w1 _ (by omega) (by omega) (by omega) (by omega) (by omega) (by omega)]; exact hk
  · rw [gT, p12, p10, w4, n22]
    refine ⟨rfl, ?_⟩
    unfold vpl
    rw [f22, ps22, Nat.add_sub_cancel, mj_upd_self, hvn]
  · rw [gT, p13 _ (by omega) (by omega) (by omega) (by omega) (by omega) (by omega), w1 _ (by omega) (by omega) (by omega) (by omega) (by omega) (by omega)]; exact k3.1
  · rw [gT, p13 _ (by omega) (by omega) (by omega) (by omega) (by omega) (by omega), w1 _ (by omega) (by omega) (by omega) (by omega) (by omega) (by omega)]
    exact k3.2 z hz hzt
  · rw [gT, p13 _ (by omega) (by omega) (by omega) (by omega) (by omega) (by omega)]; exact k4.1 z hz hzt hzn
  · rw [gT, p13 _ (by omega) (by omega) (by omega) (by omega) (by omega) (by omega)]
    rw [ps22] at hz
    exact k4.2 hz
  · unfold Kg
    rw [gT, p13 _ (by omega) (by omega) (by omega) (by omega) (by omega) (by omega), w1 _ (by omega) (by omega) (by omega) (by omega) (by omega) (by omega), w1 _ (by omega) (by omega) (by omega) (by omega) (by omega) (by omega)]; exact k5
  · obtain ⟨u1, u2, u3⟩ := k6 z hz hzt
    rw [g2 (b + 6) (by omega) (by omega) (by omega), n22, f22]
    refine ⟨?_, u2, u3⟩
    show s2 (b + 5) z.2 = nI (vud (vpu V t f bk a q).1 (mj_upd (V.2.2.2 t) (V.2.2.1 t) (vfn V t f bk a q)) z.1.2.2.2 (V.2.2.1 t) + if (mj_upd (V.2.2.2 t) (V.2.2.1 t) (vfn V t f bk a q) (V.2.2.1 t)).2.1 = z.1.2.2.2 then vwd (vpu V t f bk a q).1 (mj_upd (V.2.2.2 t) (V.2.2.1 t) (vfn V t f bk a q) (V.2.2.1 t)).1 else 0)
    have hvu : ∀ (w : Nat → Int32) n, n ≤ V.2.2.1 t → vud w (mj_upd (V.2.2.2 t) (V.2.2.1 t) (vfn V t f bk a q)) z.1.2.2.2 n = vud w (V.2.2.2 t) z.1.2.2.2 n := fun w n => by
      induction n with
      | zero => intro _; rfl
      | succ n ih =>
        intro hn
        show vud w _ z.1.2.2.2 n + _ = vud w _ z.1.2.2.2 n + _
        rw [ih (by omega), mj_upd_ne (by omega)]
    rw [hvu _ _ (Nat.le_refl _), vud_pe hot.1 (hj.vfr t ht), mj_upd_self, hF1, hF2, (hot.1.sz hf).2.1, g5]
    by_cases c : np - 1 = z.1.2.2.2
    · rw [if_pos c]
      have : z = y := zuniq h.1 hj.2.2.1 hz y1 (hzt.trans y3.symm) (c.symm.trans y4.symm)
      rw [this, y2, mj_upd_self, ← y2, ← this, u1, nI_add]
    · rw [if_neg c, Nat.add_zero]
      have hne : z.2 ≠ id := fun e => c (by rw [h.2.1.inj hz y1 (e.trans y2.symm)]; exact y4.symm)
      rw [mj_upd_ne hne]; exact u1
  · -- the words
    have hin : ∀ x, ¬ (vnx V t ≤ x ∧ x < vnx V t + vwd V.1 f) → s2 (b + 15) x = s (b + 15) x := fun x hx => by
      have hw2 : vwd V.1 f = vsz V.1 f + 2 := rfl
      rw [hm2 x (by omega), p6 x hx]
    have hV : VM (s2 (b + 15)) V := fun k hk => (h.2.2.2.2.1 k hk).mem (fun i hi j hj2 => by
      refine hin _ (fun hc' => ?_)
      have := hfree.2 (vpl V k i + j) hc'.1 hc'.2 k hk i hi
      omega)
    have hpush := hV.push (F := vfn V t f bk a q) hj ht hf (by
      rw [hvn, hm2 _ (by omega), p3]
      by_cases c : V.2.2.1 t = 0
      · rw [if_pos c]; exact (k2.1 c).2
      · rw [if_neg c]; exact (k2.2 (by omega)).2) (by rw [hvn, hm2 _ (by omega), p4]; rfl) (fun j hj2 => by
      rw [hvn]
      by_cases c : j = 0
      · subst c; exact h0
      · rw [hm2 _ (by omega), p5 j hj2]
        unfold vsw vdf
        rw [hF1]
        by_cases cb : bt (V.1 (2238 + f)) j
        · rw [if_pos cb, if_pos cb]
          show _ = (match (if j = 0 then q else none) with
            | none => (-1 : Int32)
            | some q => nI (vpl V t q.1 + 2 + q.2))
          rw [if_neg c]
        · rw [if_neg cb, if_neg cb]
          show _ = (if j = 0 then a else 0)
          rw [if_neg c]) (fun j hj2 hb2 p hp2 => by
      by_cases c : j = 0
      · subst c; exact hq p hp2
      · have : (if j = 0 then q else none) = some p := hp2
        rw [if_neg c] at this
        cases this)
    intro k hk
    have := hpush k hk
    have e1 : (vpu V t f bk a q).2.2.1 = mj_upd V.2.2.1 t (V.2.2.1 t + 1) := by rw [h22]
    have e2 : (vpu V t f bk a q).2.2.2 = (vfr V t (V.2.2.1 t) (vfn V t f bk a q)).2.2.2 := by rw [h22]
    have e3 : vpl (vpu V t f bk a q) k = vpl (vnf (vfr V t (V.2.2.1 t) (vfn V t f bk a q)) t (V.2.2.1 t + 1)) k := by
      funext i
      unfold vpl
      rw [ps22, e2]
      rfl
    rw [e1, e2, e3]
    exact MR_w (fun i i1 i2 => hot.1 i (Or.inl (by omega))) this
end
end
section
/-! ===== the class: a call ===== -/
section
variable {b lim : Nat} {s s1 s2 : wt_S} {V V1 : vV} {zs zs' : List (vP × Nat)} {fr fr' : List Nat} {t np z need k f bk id l k0 cvn : Nat}
theorem c_enter (h : RC b lim s V zs fr) (hx : CX b lim) (hj : VJ lim V) (hc : Icn V t np) (ht : t < 6) (hf : f < 10) (hs1 : 1 ≤ vsz V.1 f) (hr : vud V.1 (V.2.2.2 t) (np - 1) (V.2.2.1 t) + vwd V.1 f ≤ vln V.2.1 t (np - 1)) (h0 : 0 < V.2.2.1 t) (h75 : V.1 (3975 + t) = nI (V.2.2.2 t (V.2.2.1 t - 1)).1) (h68 : V.1 (3968 + t) = nI (l + 1)) (hl : l < vli V.1 (V.2.2.2 t (V.2.2.1 t - 1)).1) (hcv : cvn ≤ 1024) {fo : Bool} (hk : V.1 (vco (V.2.2.2 t (V.2.2.1 t - 1)).1 l) = if fo then 9 else 6) (hsl : V.1 (vco (V.2.2.2 t (V.2.2.1 t - 1)).1 l + (if fo then 3 else 2)) = nI k0) (hk0 : k0 < vsz V.1 (V.2.2.2 t (V.2.2.1 t - 1)).1) :
    ∃ s', gX2_enter b (b + 17 + 2 * t) s (nI f) (nI cvn) = some ((), s') ∧ RC b lim s' (vpu V t f (32 * (V.2.2.2 t (V.2.2.1 t - 1)).1 + (l + 1) + cvn + if fo then 2048 else 0) (vha V.1 f (V.2.2.2 t (V.2.2.1 t - 1)) k0).1 (vha V.1 f (V.2.2.2 t (V.2.2.1 t - 1)) k0).2) zs fr ∧ TO b t s s' := by
  have hb := hx.b
  have hxm := hx.m
  have hfit := hj.fit ht (show V.2.2.1 t - 1 < V.2.2.1 t by omega)
  have hMR := h.2.2.2.2.1 t ht (V.2.2.1 t - 1) (by omega)
  have hKl := (h.2.2.2.1 t ht).2.1.2 h0
  have e9 : s (b + 17 + 2 * t) 9 = nI (V.2.2.2 t (V.2.2.1 t - 1)).1 := by rw [h.at ht (e := (9, 3975)) (by decide)]; exact h75
  have e10 : s (b + 17 + 2 * t) 10 = nI (l + 1) := hKl.1.trans h68
  have e11 := hKl.2
  obtain ⟨npx, -, -, hifr⟩ := hj.geo ht h0
  have hptr := hifr.2.2.2.2.2 (V.2.2.1 t - 1) (by omega) k0 hk0
  generalize hF : V.2.2.2 t (V.2.2.1 t - 1) = F at *
  have hF10 := hfit.1
  have hw2 : vwd V.1 F.1 = vsz V.1 F.1 + 2 := rfl
  have hli := (hj.1.li hF10).2
  have hword : s (b + 15) (vpl V t (V.2.2.1 t - 1) + 2 + k0) = vsw V.1 (vpl V t) F k0 := hMR.2.2.2 k0 hk0
  obtain ⟨s1, id, p1, p2, p3, p4⟩ := c_pushP (bw := nI (32 * F.1 + (l + 1) + cvn + if fo then 2048 else 0)) h hx hj hc ht hf hr
  have hRP1 : RP 5 s1 V.1 := h.2.2.2.2.2.eq hj.1 vpe.refl (fun c c1 c2 => p4.1 c (by omega) (by omega) (by omega))
  have e11' : s1 (b + 17 + 2 * t) 11 = nI (vnx V t) := p4.2.2.2.2.2.2.2.2.2.1
  have hfree := (hc.free (f := f) hj ht hr).1
  have hwf : vwd V.1 f = vsz V.1 f + 2 := rfl
  have hhw := vha_word (f := f) (W := V.1) (pl := vpl V t) (F0 := F) (k0 := k0) (x1 := vnp V t - 1) (x2 := vud V.1 (V.2.2.2 t) (vnp V t - 1) (V.2.2.1 t)) (x3 := 32 * F.1 + (l + 1) + cvn + if fo then 2048 else 0)
  have hqq : ∀ p, (vha V.1 f F k0).2 = some p → p.1 < V.2.2.1 t := fun p hp => by
    unfold vha at hp
    by_cases cb : bt (V.1 (2238 + F.1)) k0
    · rw [if_pos cb] at hp
      have hp : (if bt (V.1 (2238 + f)) 0 then F.2.2.2.2.2 k0 else none) = some p := hp
      split at hp
      · have := (hptr cb p hp).1
        omega
      · cases hp
    · rw [if_neg cb] at hp
      cases hp
  have hfin : ∃ s', gX2_enter_106 b (b + 17 + 2 * t) s (nI f) (nI F.1) (nI k0) (vsw V.1 (vpl V t) F k0) (nI f) (nI (32 * F.1 + (l + 1) + cvn)) (nI (if fo then 2048 else 0)) = some ((), s') ∧ RC b lim s' (vpu V t f (32 * F.1 + (l + 1) + cvn + if fo then 2048 else 0) (vha V.1 f F k0).1 (vha V.1 f F k0).2) zs fr ∧ TO b t s s' := by
    unfold gX2_enter_106
    rw [nI_add, p2, cl_some, c_isPointer hRP1 hF10, cl_some, c_isPointer0 hRP1 hf, cl_some]
    by_cases ce : rb (bt (V.1 (2238 + f)) 0) ≠ rb (bt (V.1 (2238 + F.1)) k0)
    · rw [if_pos (Ne.symm ce)]
      rw [if_pos ce] at hhw
      have hz := p4.2.2.2.2.1 0 (by omega)
      obtain ⟨r1, r2⟩ := c_pu (s2 := s1) h hx hj hc ht hf hs1 hr p3 p4 (fun _ _ => rfl) (fun _ _ => rfl) (hz.trans hhw) hqq
      exact ⟨s1, rfl, r1, r2⟩
    · rw [if_neg (fun q => ce (Ne.symm q)), e11', show nI (vnx V t) + 2 = nI (vnx V t + 2) from nI_add _ 2, c_put (by omega), cl_some]
      rw [if_neg ce] at hhw
      obtain ⟨r1, r2⟩ := c_pu (s2 := wt_u s1 (b + 15) (vnx V t + 2) (vsw V.1 (vpl V t) F k0)) h hx hj hc ht hf hs1 hr p3 p4 (fun c hc => wt_u_ne hc) (fun x hx => wt_u_nk hx) (by rw [wt_u_self]; exact hhw) hqq
      exact ⟨_, rfl, r1, r2⟩
  have e32 : 32 * nI F.1 + nI (l + 1) + nI cvn = nI (32 * F.1 + (l + 1) + cvn) := by rw [li_mul, nI_add, nI_add]
  unfold gX2_enter
  rw [e9, e10, show nI (l + 1) - 1 = nI l by rw [i_sub1, nI_pred2], c_part0 h.2.2.2.2.2 hj.1 hF10 hl, cl_some, hk]
  cases fo with
  | false =>
    rw [if_pos (by decide)]
    unfold gX2_enter_32 gX2_enter_56
    rw [if_pos rfl, e10, show nI (l + 1) - 1 = nI l by rw [i_sub1, nI_pred2], c_part2 h.2.2.2.2.2 hj.1 hF10 hl, cl_some, show V.1 (vco F.1 l + 2) = nI k0 from hsl, e11, show nI (vpl V t (V.2.2.1 t - 1)) + 2 + nI k0 = nI (vpl V t (V.2.2.1 t - 1) + 2 + k0) by rw [show nI (vpl V t (V.2.2.1 t - 1)) + 2 = nI (vpl V t (V.2.2.1 t - 1) + 2) from nI_add _ 2, nI_add], c_word (by omega), cl_some, if_pos rfl, hword, e10, e32]
    exact hfin
  | true =>
    rw [if_neg (by decide)]
    unfold gX2_enter_32 gX2_enter_56
    rw [if_neg (by decide), e10, show nI (l + 1) - 1 = nI l by rw [i_sub1, nI_pred2], c_part3 h.2.2.2.2.2 hj.1 hF10 hl, cl_some, show V.1 (vco F.1 l + 3) = nI k0 from hsl, e11, show nI (vpl V t (V.2.2.1 t - 1)) + 2 + nI k0 = nI (vpl V t (V.2.2.1 t - 1) + 2 + k0) by rw [show nI (vpl V t (V.2.2.1 t - 1)) + 2 = nI (vpl V t (V.2.2.1 t - 1) + 2) from nI_add _ 2, nI_add], c_word (by omega), cl_some, if_neg (by decide), hword, e10, e32]
    exact hfin
end
end
section
/-! ===== the class: room is made and the frame comes ===== -/
section
variable {b lim : Nat} {s s1 : wt_S} {V V1 : vV} {zs : List (vP × Nat)} {fr : List Nat} {t np z k f l k0 cvn bk z2 : Nat} {fo : Bool}
theorem c_225 (h1 : s (b + 17 + 2 * t) 1 ≠ 2) : gX2_makeStep_225 b (b + 17 + 2 * t) s = some ((), s) := by
  unfold gX2_makeStep_225
  rw [if_pos h1]
theorem vha_pe {w w' : Nat → Int32} {F : vF} (h : vpe w w') (hf : f < 10) (hF : F.1 < 10) : vha w' f F k0 = vha w f F k0 := by
  unfold vha
  rw [(h.sz hf).2.2.2, (h.sz hF).2.2.2]
/-- what a line must be to call -/
def CL (V : vV) (t f l k0 : Nat) (fo : Bool) : Prop := 0 < V.2.2.1 t ∧ V.1 (3975 + t) = nI (vlf V t).1 ∧ V.1 (3968 + t) = nI (l + 1) ∧ l < vli V.1 (vlf V t).1 ∧ V.1 (vco (vlf V t).1 l) = (if fo then 9 else 6) ∧ V.1 (vco (vlf V t).1 l + (if fo then 3 else 2)) = nI k0 ∧ k0 < vsz V.1 (vlf V t).1 ∧ V.1 (3926 + t) = 1
theorem c_enter2 (h : RC b lim s1 V1 zs fr) (hx : CX b lim) (hp : Ipr V.1) (hfr : (vlf V t).1 < 10) (hj : VJ lim V1) (hw : vpe V.1 V1.1) (h2 : V1.2.2 = V.2.2) (hc : Icn V1 t np) (ht : t < 6) (hf : f < 10) (hs1 : 1 ≤ vsz V.1 f) (hr : vud V1.1 (V1.2.2.2 t) (np - 1) (V1.2.2.1 t) + vwd V1.1 f ≤ vln V1.2.1 t (np - 1)) (hL : CL V t f l k0 fo) (h75 : V1.1 (3975 + t) = V.1 (3975 + t)) (h68 : V1.1 (3968 + t) = V.1 (3968 + t)) (h26 : V1.1 (3926 + t) = V.1 (3926 + t)) (hcv : cvn ≤ 1024) (hbk : bk = 32 * (vlf V t).1 + (l + 1) + cvn + if fo then 2048 else 0) :
    ∃ s', gX2_makeStep_208 b (b + 17 + 2 * t) s1 (nI f) (nI cvn) = some ((), s') ∧ RC b lim s' (vpu V1 t f bk (vha V.1 f (vlf V t) k0).1 (vha V.1 f (vlf V t) k0).2) zs fr ∧ TO b t s1 s' := by
  obtain ⟨l0, l1, l2, l3, l4, l5, l6, l7⟩ := hL
  have hlf : V1.2.2.2 t (V1.2.2.1 t - 1) = vlf V t := by rw [h2]; rfl
  have hl16 : l < 16 := by have := (hp.li hfr).2; omega
  obtain ⟨w1, w2, w3, w4⟩ := hw.sz hfr
  obtain ⟨s', a1, a2, a3⟩ := c_enter (V := V1) (l := l) (k0 := k0) (cvn := cvn) (fo := fo) (f := f) h hx hj hc ht hf (by rw [(hw.sz hf).1]; exact hs1) hr (by rw [h2]; exact l0) (by rw [hlf, h75]; exact l1) (by rw [h68]; exact l2) (by rw [hlf, w3]; exact l3) hcv (by rw [hlf, hw.co0 hfr hl16]; exact l4) (by rw [hlf, hw.co hfr hl16 (by cases fo <;> decide)]; exact l5) (by rw [hlf, w1]; exact l6)
  rw [hlf, vha_pe hw hf hfr, ← hbk] at a2
  have hst : s' (b + 17 + 2 * t) 1 ≠ 2 := by
    rw [a2.at ht (e := (1, 3926)) (by decide)]
    show (vpu V1 t f bk (vha V.1 f (vlf V t) k0).1 (vha V.1 f (vlf V t) k0).2).1 (3926 + t) ≠ 2
    rw [vpu_w.1 _ (by omega) (by omega) (by omega) (by omega) (by omega) (by omega), h26, l7]
    decide
  refine ⟨s', ?_, a2, a3⟩
  unfold gX2_makeStep_208
  rw [if_neg (nI_m1 (by omega)), a1, cl_some, c_225 hst]
theorem c_call (h : RC b lim s V zs fr) (hx : CX b lim) (hP : Vpre lim V t np z) (hf : f < 10) (hs1 : 1 ≤ vsz V.1 f) (hmg : V.1 2050 = 0 ∨ V.1 2050 = 1) (hr : V.1 2051 = nI z2) (hz2 : z2 ≤ 80) (hk : V.1 2067 = nI k) (hsd : V.1 (3989 + t) = -1 ∨ ∃ k, k < 3 ∧ V.1 (3989 + t) = nI k ∧ V.1 (3923 + k) = nI t) (hL : CL V t f l k0 fo) (hE : vE V.1 (vlf V t).1 f) (hbk : bk = 32 * (vlf V t).1 + l + 1 + if fo then 2048 else 0) :
    ∃ s' zs' fr', gX2_makeStep_191 b (b + 17 + 2 * t) s (nI f) = some ((), s') ∧ RC b lim s' (vcl lim V t f bk (vha V.1 f (vlf V t) k0)) zs' fr' ∧ TO b t s s' := by
  have hP0 := hP
  obtain ⟨hj, hc, ht, hz, h8, hzl, hl, hl2, hq⟩ := hP
  have l0 := hL.1
  have l7 := hL.2.2.2.2.2.2.2
  have hfr : (vlf V t).1 < 10 := (hj.fit ht (show V.2.2.1 t - 1 < V.2.2.1 t by omega)).1
  obtain ⟨s1, zs1, fr1, a1, a2, a3⟩ := c_room h hx hP0 hf hs1 hmg hr hz2 hk (by rw [l7]; decide) hsd
  unfold gX2_makeStep_191
  rw [if_pos (nI_m1 (by omega)), a1, cl_some]
  unfold vcl
  by_cases c : vlc V t = true
  · rw [if_pos c] at a2 ⊢
    rw [if_pos c]
    obtain ⟨d, x1, x2, x3⟩ := vlc_room hj hc ht c hE
    have hd := (vdp_le hj.1 hf x1).1
    have hw : vpe V.1 (vcn V 11 1).1 := fun i hi => vcn_ne (by omega)
    have hud := (hw.us (fr := V.2.2.2 t) (n := V.2.2.1 t) (k := np - 1) (fun i hi => (hj.fit ht hi).1)).2
    obtain ⟨s', e1, e2, e3⟩ := c_enter2 (cvn := 1024) (bk := bk + 1024) a2 hx hj.1 hfr (VJ.vs hj (by omega)) hw rfl ((ico_vs hc hj.1 (by omega) (by omega)).n') ht hf hs1 (by
      show vud (vcn V 11 1).1 (V.2.2.2 t) (np - 1) (V.2.2.1 t) + vwd (vcn V 11 1).1 f ≤ vln V.2.1 t (np - 1)
      rw [hud, (hw.sz hf).2.1]
      omega) hL (vcn_ne (by omega)) (vcn_ne (by omega)) (vcn_ne (by omega)) (by omega) (by omega)
    exact ⟨s', zs1, fr1, e1, e2, a3.trans e3⟩
  · have c' : vlc V t = false := by simpa using c
    rw [if_neg c] at a2 ⊢
    rw [if_neg c]
    have hnc := (vlc_iff hj hc).1 c'
    obtain ⟨v1, v2, v3⟩ := vrm_inv hP0 hf hs1 hk hnc
    generalize hres : vrm lim V t f = res at *
    obtain ⟨bb, V1⟩ := res
    cases bb with
    | true =>
      obtain ⟨r1, r2, r3, -, r5, np2, r6, r7⟩ := v1 rfl
      have r7 : vud V.1 (V.2.2.2 t) (np2 - 1) (V.2.2.1 t) + vnd V.1 f ≤ vln V1.2.1 t (np2 - 1) := r7
      have hnd := vnd_ge (w := V.1) hj.1 hf
      have hw : vpe V.1 V1.1 := fun i hi => r5 i (fun q => by unfold vrs vgs at q; omega)
      have hud := (hw.us (fr := V.2.2.2 t) (n := V.2.2.1 t) (k := np2 - 1) (fun i hi => (hj.fit ht hi).1)).2
      have key : ∀ cvn, cvn ≤ 1024 → ∃ s', gX2_makeStep_208 b (b + 17 + 2 * t) s1 (nI f) (nI cvn) = some ((), s') ∧ RC b lim s' (vpu V1 t f (bk + cvn) (vha V.1 f (vlf V t) k0).1 (vha V.1 f (vlf V t) k0).2) zs1 fr1 ∧ TO b t s1 s' := fun cvn hcv =>
        c_enter2 (cvn := cvn) (bk := bk + cvn) a2 hx hj.1 hfr r1 hw r2 r6 ht hf hs1 (by
          rw [show V1.2.2.2 = V.2.2.2 by rw [r2], show V1.2.2.1 = V.2.2.1 by rw [r2], hud, (hw.sz hf).2.1]
          omega) hL (r5 _ (fun q => by unfold vrs vgs at q; omega)) (r5 _ (fun q => by unfold vrs vgs at q; omega)) (r5 _ (fun q => by unfold vrs vgs at q; omega)) hcv (by omega)
      simp only [if_true]
      by_cases cm : vmg V.1 f = true
      · simp only [if_pos cm]
        obtain ⟨s', e1, e2, e3⟩ := key 1024 (by omega)
        exact ⟨s', zs1, fr1, e1, e2, a3.trans e3⟩
      · simp only [if_neg cm]
        obtain ⟨s', e1, e2, e3⟩ := key 0 (by omega)
        exact ⟨s', zs1, fr1, e1, e2, a3.trans e3⟩
    | false =>
      obtain ⟨V2, o1, -⟩ := v2 rfl
      have o1 : V1 = vot V2 t := o1
      simp only [Bool.false_eq_true, if_false] at a2 ⊢
      refine ⟨s1, zs1, fr1, ?_, a2, a3⟩
      unfold gX2_makeStep_208
      rw [if_pos rfl, c_225]
      rw [a2.at ht (e := (1, 3926)) (by decide)]
      show V1.1 (3926 + t) ≠ 2
      rw [o1]
      unfold vot
      rw [vlg1_ne (by omega), vcn_ne (by omega), vs_at]
      decide
end
end
section
/-! ===== the class: a slot is written ===== -/
section
variable {b lim : Nat} {s s1 : wt_S} {V V1 : vV} {zs : List (vP × Nat)} {fr : List Nat} {t np z k f l k0 i : Nat} {v : Int32}
theorem vud_sf {w : Nat → Int32} {F F' : Nat → vF} (h : vsf F F') : ∀ {n : Nat}, vud w F' k n = vud w F k n := by
  intro n
  induction n with
  | zero => rfl
  | succ n ih =>
    show vud w F' k n + _ = vud w F k n + _
    rw [ih, (h n).1, (h n).2.1]
theorem RC.fr1 (h : RC b lim s V zs fr) (hx : CX b lim) (hj : VJ lim V) (ht : t < 6) {F : vF} {p : Nat} (h1 : F.1 = (V.2.2.2 t i).1) (h2 : F.2.1 = (V.2.2.2 t i).2.1) (h3 : F.2.2.1 = (V.2.2.2 t i).2.2.1) (h4 : F.2.2.2.1 = (V.2.2.2 t i).2.2.2.1) (hm : VM (mj_upd (s (b + 15)) p v) (vfr V t i F)) : RC b lim (wt_u s (b + 15) p v) (vfr V t i F) zs fr := by
  have hb := hx.b
  obtain ⟨k1, k2, k3, k4, k5, k6⟩ := h.2.2.2.1 t ht
  have hg : ∀ c, c ≠ b + 15 → wt_u s (b + 15) p v c = s c := fun c hc => wt_u_ne hc
  have hsf : vsf (V.2.2.2 t) ((vfr V t i F).2.2.2 t) := fun j => by
    by_cases e : j = i
    · subst e
      rw [vfr_at]
      exact ⟨h1, h2, h3, h4⟩
    · rw [vfr_2 e]
      exact ⟨rfl, rfl, rfl, rfl⟩
  have e0 := hg (b + 17 + 2 * t) (by omega)
  have e1 := hg (b + 17 + 2 * t + 1) (by omega)
  have e5 := hg (b + 5) (by omega)
  have e6 := hg (b + 6) (by omega)
  refine h.op hx hj.1 OT.fr ht (TO.u (by omega) ht) hj.vfr (fun z _ => Iff.rfl) (fun z _ _ => ⟨by rw [e5], by rw [e6]⟩) h.1 (h.2.1.eq (fun c hc => hg c (by omega))) (h.2.2.1.keep (hg _ (by omega)) (hg _ (by omega)) (fun _ _ _ => rfl)) ⟨k1.keep (fun j _ _ => by rw [e0]) e1 ht (fun _ _ _ => rfl), ⟨fun e => ?_, fun e => ?_⟩, ⟨fun e => ?_, fun z hz e g => ?_⟩, ⟨fun z hz e g => ?_, fun e => ?_⟩, fun e => ?_, fun z hz e => ?_⟩ (by rw [wt_u_at]; exact hm)
  · rw [e0]; exact k2.1 e
  · rw [e0, vfr_pl h2 h3]; exact k2.2 e
  · rw [e0]; exact k3.1 e
  · rw [e0]; exact k3.2 z hz e g
  · rw [e0]; exact k4.1 z hz e g
  · rw [e0]; exact k4.2 e
  · rw [e0]; exact k5 e
  · rw [e5, e6]
    have := k6 z hz e
    refine ⟨?_, this.2⟩
    show s (b + 5) z.2 = nI (vud V.1 ((vfr V t i F).2.2.2 t) z.1.2.2.2 (V.2.2.1 t))
    rw [vud_sf hsf]
    exact this.1
theorem RC.num (h : RC b lim s V zs fr) (hx : CX b lim) (hj : VJ lim V) (ht : t < 6) (hi : i < V.2.2.1 t) (hk : k < vsz V.1 (V.2.2.2 t i).1) (hb : ¬ bt (V.1 (2238 + (V.2.2.2 t i).1)) k) : RC b lim (wt_u s (b + 15) (vpl V t i + 2 + k) v) (vnu V t i k v) zs fr := by
  refine h.fr1 hx hj ht rfl rfl rfl rfl (h.2.2.2.2.1.set hj ht hi hk rfl rfl rfl rfl ?_ (fun k' hk' => ?_))
  · unfold vsw
    show (if bt (V.1 (2238 + (V.2.2.2 t i).1)) k then _ else mj_upd (V.2.2.2 t i).2.2.2.2.1 k v k) = v
    rw [if_neg hb, mj_upd_self]
  · unfold vsw
    show (if bt (V.1 (2238 + (V.2.2.2 t i).1)) k' then _ else mj_upd (V.2.2.2 t i).2.2.2.2.1 k v k') = _
    rw [mj_upd_ne hk']
theorem RC.ptr {q : Option (Nat × Nat)} (h : RC b lim s V zs fr) (hx : CX b lim) (hj : VJ lim V) (ht : t < 6) (hi : i < V.2.2.1 t) (hk : k < vsz V.1 (V.2.2.2 t i).1) (hb : bt (V.1 (2238 + (V.2.2.2 t i).1)) k) : RC b lim (wt_u s (b + 15) (vpl V t i + 2 + k) (match q with | none => -1 | some x => nI (vpl V t x.1 + 2 + x.2))) (vpo V t i k q) zs fr := by
  refine h.fr1 hx hj ht rfl rfl rfl rfl (h.2.2.2.2.1.set hj ht hi hk rfl rfl rfl rfl ?_ (fun k' hk' => ?_))
  · unfold vsw
    show (if bt (V.1 (2238 + (V.2.2.2 t i).1)) k then (match mj_upd (V.2.2.2 t i).2.2.2.2.2 k q k with | none => (-1 : Int32) | some x => nI (vpl V t x.1 + 2 + x.2)) else _) = _
    rw [if_pos hb, mj_upd_self]
  · unfold vsw
    show (if bt (V.1 (2238 + (V.2.2.2 t i).1)) k' then (match mj_upd (V.2.2.2 t i).2.2.2.2.2 k q k' with | none => (-1 : Int32) | some x => nI (vpl V t x.1 + 2 + x.2)) else _) = _
    rw [mj_upd_ne hk']
    rfl
/-- the next line is set -/
theorem RC.line (h : RC b lim s V zs fr) (hx : CX b lim) (hj : VJ lim V) (ht : t < 6) (h0 : 0 < V.2.2.1 t) : RC b lim (wt_u s (b + 17 + 2 * t) 10 v) (vs V (3968 + t) v) zs fr := by
  have hb := hx.b
  obtain ⟨k1, k2, k3, k4, k5, k6⟩ := h.2.2.2.1 t ht
  have hg : ∀ c, c ≠ b + 17 + 2 * t → wt_u s (b + 17 + 2 * t) 10 v c = s c := fun c hc => wt_u_ne hc
  have hT : ∀ j, j ≠ 10 → wt_u s (b + 17 + 2 * t) 10 v (b + 17 + 2 * t) j = s (b + 17 + 2 * t) j := fun j hj => wt_u_nk hj
  have e5 := hg (b + 5) (by omega)
  have e6 := hg (b + 6) (by omega)
  have hw : ∀ i, i ≠ 3968 + t → (vs V (3968 + t) v).1 i = V.1 i := fun i hi => vs_ne hi
  refine h.op hx hj.1 (OT.vs ht (vown_t (c := 3968) (by omega))) ht (TO.u (by omega) ht) hj.vfr (fun z _ => Iff.rfl) (fun z _ _ => ⟨by rw [e5], by rw [e6]⟩) h.1 (h.2.1.eq (fun c hc => hg c (by omega))) (h.2.2.1.keep (hg _ (by omega)) (hg _ (by omega)) (fun i _ _ => hw i (by omega))) ⟨⟨?_, fun e he => ?_, fun e he => ?_⟩, ⟨fun e => ?_, fun e => ?_⟩, ⟨fun e => ?_, fun z hz e g => ?_⟩, ⟨fun z hz e g => ?_, fun e => ?_⟩, fun e => ?_, fun z hz e => ?_⟩ ?_
  · rw [hT _ (by omega)]; exact k1.1
  · have q := tf_n e he
    have q2 := tf_p e he
    rw [hT _ (by omega), hw _ (by omega)]; exact k1.2.1 e he
  · have q := ts_n e he
    have q2 := ts_p e he
    rw [hg _ (by omega), hw _ (by omega)]; exact k1.2.2 e he
  · have e : V.2.2.1 t = 0 := e
    omega
  · rw [wt_u_self, vs_at, hT _ (by omega)]; exact ⟨rfl, (k2.2 h0).2⟩
  · rw [hT _ (by omega)]; exact k3.1 (by rw [← hw (4066 + t) (by omega)]; exact e)
  · rw [hT _ (by omega)]; exact k3.2 z hz e (by rw [← hw (4066 + t) (by omega)]; exact g)
  · rw [hT _ (by omega)]; exact k4.1 z hz e g
  · rw [hT _ (by omega)]; exact k4.2 e
  · rw [hT _ (by omega), hw _ (by omega)]; exact k5 (by rw [← hw (3926 + t) (by omega)]; exact e)
  · rw [e5, e6]
    have := k6 z hz e
    refine ⟨?_, this.2⟩
    show s (b + 5) z.2 = nI (vud (vs V (3968 + t) v).1 (V.2.2.2 t) z.1.2.2.2 (V.2.2.1 t))
    rw [vud_pe (w := V.1) (fun i hi => hw i (by omega)) (fun i hi => (hj.fit ht hi).1)]
    exact this.1
  · rw [hg _ (by omega)]
    exact VM_vs (by omega) h.2.2.2.2.1
end
end
section
/-! ===== the class: a line that only reckons ===== -/
section
variable {b lim : Nat} {s s1 : wt_S} {V V1 : vV} {zs : List (vP × Nat)} {fr : List Nat} {t l x y : Nat} {v A B C : Int32} {Z : (Nat → Int32) → Int32 → Int32 → Int32 → Bool}
/-- a task at a line -/
def LC (b lim : Nat) (s : wt_S) (V : vV) (zs : List (vP × Nat)) (fr : List Nat) (t l : Nat) : Prop := RC b lim s V zs fr ∧ CX b lim ∧ VJ lim V ∧ t < 6 ∧ 0 < V.2.2.1 t ∧ V.1 (3975 + t) = nI (vlf V t).1 ∧ l < vli V.1 (vlf V t).1
theorem LC.i (h : LC b lim s V zs fr t l) : V.2.2.1 t - 1 < V.2.2.1 t := by
  have := h.2.2.2.2.1
  omega
theorem LC.f (h : LC b lim s V zs fr t l) : (vlf V t).1 < 10 ∧ vpl V t (V.2.2.1 t - 1) + (vsz V.1 (vlf V t).1 + 2) ≤ wt_mz b := by
  have h1 := h.2.2.1.fit h.2.2.2.1 h.i
  have h2 := h.2.1.m
  refine ⟨h1.1, ?_⟩
  have h3 : vpl V t (V.2.2.1 t - 1) + (vsz V.1 (vlf V t).1 + 2) ≤ lim := h1.2.2
  omega
theorem LC.t9 (h : LC b lim s V zs fr t l) : s (b + 17 + 2 * t) 9 = nI (vlf V t).1 := by
  rw [h.1.at h.2.2.2.1 (e := (9, 3975)) (by decide)]
  exact h.2.2.2.2.2.1
theorem LC.t11 (h : LC b lim s V zs fr t l) : s (b + 17 + 2 * t) 11 = nI (vpl V t (V.2.2.1 t - 1)) := ((h.1.2.2.2.1 t h.2.2.2.1).2.1.2 h.2.2.2.2.1).2
theorem c_ad {p x : Nat} : nI p + 2 + nI x = nI (p + 2 + x) := by rw [li_add2, nI_add]
theorem LC.w (h : LC b lim s V zs fr t l) (hx : x < vsz V.1 (vlf V t).1) : gX3_word b s (nI (vpl V t (V.2.2.1 t - 1)) + 2 + nI x) = some (vsw V.1 (vpl V t) (vlf V t) x, s) := by
  have h1 := h.f.2
  rw [c_ad, c_word (by omega)]
  have := (h.1.2.2.2.2.1 t h.2.2.2.1 _ h.i).2.2.2 x hx
  rw [this]
  rfl
theorem LC.n (h : LC b lim s V zs fr t l) (hx : x < vsz V.1 (vlf V t).1) (hb : ¬ bt (V.1 (2238 + (vlf V t).1)) x) : gX3_word b s (nI (vpl V t (V.2.2.1 t - 1)) + 2 + nI x) = some (vnm (vlf V t) (nI x), s) := by
  have h1 := h.2.2.1.1.sz h.f.1
  rw [h.w hx]
  unfold vsw vnm
  rw [if_neg hb, nI_int (by omega)]
  rfl
theorem LC.nu (h : LC b lim s V zs fr t l) (hx : x < vsz V.1 (vlf V t).1) (hb : ¬ bt (V.1 (2238 + (vlf V t).1)) x) : ∃ s', gX3_put b s (nI (vpl V t (V.2.2.1 t - 1)) + 2 + nI x) v = some ((), s') ∧ RC b lim s' (vnu V t (V.2.2.1 t - 1) x v) zs fr ∧ TO b t s s' := by
  have h1 := h.f.2
  rw [c_ad, c_put (by omega)]
  exact ⟨_, rfl, h.1.num h.2.1 h.2.2.1 h.2.2.2.1 h.i hx hb, TO.u (by omega) h.2.2.2.1⟩
theorem LC.pt (h : LC b lim s V zs fr t l) (hx : x < vsz V.1 (vlf V t).1) (hb : bt (V.1 (2238 + (vlf V t).1)) x) {q : Nat × Nat} (hq : (vlf V t).2.2.2.2.2 x = some q) : q.1 < V.2.2.1 t ∧ q.2 < vsz V.1 (V.2.2.2 t q.1).1 ∧ ¬ bt (V.1 (2238 + (V.2.2.2 t q.1).1)) q.2 ∧ vpl V t q.1 + 2 + q.2 < wt_mz b := by
  obtain ⟨np, -, -, hi⟩ := h.2.2.1.geo h.2.2.2.1 h.2.2.2.2.1
  obtain ⟨g1, g2, g3⟩ := hi.2.2.2.2.2 _ h.i x hx hb q hq
  have g0 : q.1 < V.2.2.1 t := by have := h.i; omega
  have h1 := (h.2.2.1.fit h.2.2.2.1 g0).2.2
  have h2 := h.2.1.m
  have h3 : vwd V.1 (V.2.2.2 t q.1).1 = vsz V.1 (V.2.2.2 t q.1).1 + 2 := rfl
  exact ⟨g0, g2, g3, by omega⟩
theorem LC.pw (h : LC b lim s V zs fr t l) (hx : x < vsz V.1 (vlf V t).1) (hb : bt (V.1 (2238 + (vlf V t).1)) x) : gX3_word b s (nI (vpl V t (V.2.2.1 t - 1)) + 2 + nI x) = some ((match (vlf V t).2.2.2.2.2 x with | none => (-1 : Int32) | some q => nI (vpl V t q.1 + 2 + q.2)), s) := by
  rw [h.w hx]
  unfold vsw
  rw [if_pos hb]
  rfl
theorem vln1_0 : vln1 lim Z V t l 0 A B C = vnu V t (V.2.2.1 t - 1) A.toInt.toNat B := rfl
theorem vln1_1 : vln1 lim Z V t l 1 A B C = vnu V t (V.2.2.1 t - 1) A.toInt.toNat (vnm (vlf V t) B + vnm (vlf V t) C) := rfl
theorem vln1_2 : vln1 lim Z V t l 2 A B C = vnu V t (V.2.2.1 t - 1) A.toInt.toNat (if (vnm (vlf V t) C).toInt ≤ (vnm (vlf V t) B).toInt then 0 else 1) := rfl
theorem vln1_3 : vln1 lim Z V t l 3 A B C = vpo V t (V.2.2.1 t - 1) A.toInt.toNat (some (V.2.2.1 t - 1, B.toInt.toNat)) := rfl
theorem vln1_4 : vln1 lim Z V t l 4 A B C = vnu V t (V.2.2.1 t - 1) A.toInt.toNat (match (vlf V t).2.2.2.2.2 B.toInt.toNat with | none => 0 | some q => (V.2.2.2 t q.1).2.2.2.2.1 q.2) := rfl
theorem vln1_5 : vln1 lim Z V t l 5 A B C = (match (vlf V t).2.2.2.2.2 A.toInt.toNat with | none => V | some q => vnu V t q.1 q.2 (vnm (vlf V t) B)) := rfl
theorem vln1_6 : vln1 lim Z V t l 6 A B C = (if tld V.1 A then vcl lim V t A.toInt.toNat (32 * (vlf V t).1 + l + 1) (vha V.1 A.toInt.toNat (vlf V t) B.toInt.toNat) else vnu V t (V.2.2.1 t - 1) C.toInt.toNat 0) := rfl
theorem vln1_7 : vln1 lim Z V t l 7 A B C = (if (vnm (vlf V t) A).toInt ≤ 0 then V else vs V (3968 + t) B) := rfl
theorem vln1_8 : vln1 lim Z V t l 8 A B C = vrt Z V t (vnm (vlf V t) A) := rfl
theorem vln1_9 : vln1 lim Z V t l 9 A B C = vfg lim V t A B C := rfl
theorem vln1_10 : vln1 lim Z V t l 10 A B C = (vqu lim V t).2 := rfl
theorem c_rk (h : LC b lim s V zs fr t l) {K : Int32} (hK : K = 0 ∨ K = 1 ∨ K = 2 ∨ K = 3 ∨ K = 4 ∨ K = 5 ∨ K = 7) (e0 : V.1 (vco (vlf V t).1 l) = K) (e1 : V.1 (vco (vlf V t).1 l + 1) = A) (e2 : V.1 (vco (vlf V t).1 l + 2) = B) (e3 : V.1 (vco (vlf V t).1 l + 3) = C) :
    ∃ s', gX2_reckon b (b + 17 + 2 * t) s K (nI l) = some ((), s') ∧ RC b lim s' (vln1 lim Z V t l K A B C) zs fr ∧ TO b t s s' ∧ (vln1 lim Z V t l K A B C).1 (3926 + t) = V.1 (3926 + t) := by
  have hft := h.f.1
  have hj := h.2.2.1
  have hlin := (hj.1 _ hft).2.2 l h.2.2.2.2.2.2
  unfold vlin at hlin
  rw [e0, e1, e2, e3] at hlin
  unfold vcan at hlin
  obtain ⟨-, p0, p1, p3, p4, p5, p6, p7, p8, p9⟩ := hlin
  unfold gX2_reckon
  rw [h.t9, c_part1 h.1.2.2.2.2.2 hj.1 hft h.2.2.2.2.2.2, cl_some, h.t9, c_part2 h.1.2.2.2.2.2 hj.1 hft h.2.2.2.2.2.2, cl_some, h.t9, c_part3 h.1.2.2.2.2.2 hj.1 hft h.2.2.2.2.2.2, cl_some, e1, e2, e3, h.t11]
  rcases hK with rfl | rfl | rfl | rfl | rfl | rfl | rfl
  · rw [if_neg (by decide), if_pos (by decide), vln1_0]
    obtain ⟨a, rfl, a2, a3, a4, a5⟩ := vnum_nat hj.1 hft (p0 rfl)
    obtain ⟨s', f1, f2, f3⟩ := h.nu (v := B) a3 a5
    exact ⟨s', by rw [f1, cl_some], by rw [a2]; exact f2, f3, rfl⟩
  · rw [if_neg (by decide), if_neg (by decide), if_pos (by decide), vln1_1]
    obtain ⟨q1, q2, q3⟩ := p1 (Or.inl rfl)
    obtain ⟨a, rfl, a2, a3, a4, a5⟩ := vnum_nat hj.1 hft q1
    obtain ⟨c, rfl, c2, c3, c4, c5⟩ := vnum_nat hj.1 hft q2
    obtain ⟨d, rfl, d2, d3, d4, d5⟩ := vnum_nat hj.1 hft q3
    obtain ⟨s', f1, f2, f3⟩ := h.nu (v := vnm (vlf V t) (nI c) + vnm (vlf V t) (nI d)) a3 a5
    exact ⟨s', by rw [h.n c3 c5, cl_some, h.n d3 d5, cl_some, f1, cl_some], by rw [a2]; exact f2, f3, rfl⟩
  · rw [if_neg (by decide), if_neg (by decide), if_neg (by decide), if_pos (by decide), vln1_2]
    obtain ⟨q1, q2, q3⟩ := p1 (Or.inr rfl)
    obtain ⟨a, rfl, a2, a3, a4, a5⟩ := vnum_nat hj.1 hft q1
    obtain ⟨c, rfl, c2, c3, c4, c5⟩ := vnum_nat hj.1 hft q2
    obtain ⟨d, rfl, d2, d3, d4, d5⟩ := vnum_nat hj.1 hft q3
    obtain ⟨s', f1, f2, f3⟩ := h.nu (v := if (vnm (vlf V t) (nI d)).toInt ≤ (vnm (vlf V t) (nI c)).toInt then 0 else 1) a3 a5
    refine ⟨s', ?_, by rw [a2]; exact f2, f3, rfl⟩
    rw [h.n c3 c5, cl_some, h.n d3 d5, cl_some]
    unfold gX2_reckon_198
    by_cases cq : (vnm (vlf V t) (nI d)).toInt ≤ (vnm (vlf V t) (nI c)).toInt
    · rw [if_pos cq] at f1 ⊢
      rw [f1, cl_some]
    · rw [if_neg cq] at f1 ⊢
      rw [f1, cl_some]
  · rw [if_neg (by decide), if_neg (by decide), if_neg (by decide), if_neg (by decide), if_pos (by decide), vln1_3]
    obtain ⟨q1, q2⟩ := p3 rfl
    obtain ⟨a, rfl, a2, a3, a4, a5⟩ := vptr_nat hj.1 hft q1
    obtain ⟨c, rfl, c2, c3, c4, c5⟩ := vnum_nat hj.1 hft q2
    have f2 := RC.ptr (k := a) (q := some (V.2.2.1 t - 1, c)) h.1 h.2.1 hj h.2.2.2.1 h.i a3 a5
    have h1 := h.f.2
    refine ⟨_, ?_, by rw [a2, c2]; exact f2, TO.u (by omega) h.2.2.2.1, rfl⟩
    rw [c_ad, c_ad, c_put (by omega), cl_some]
  · rw [if_neg (by decide), if_neg (by decide), if_neg (by decide), if_neg (by decide), if_neg (by decide), if_pos (by decide), vln1_4]
    obtain ⟨q1, q2⟩ := p4 rfl
    obtain ⟨a, rfl, a2, a3, a4, a5⟩ := vnum_nat hj.1 hft q1
    obtain ⟨c, rfl, c2, c3, c4, c5⟩ := vptr_nat hj.1 hft q2
    rw [c2, a2, h.pw c3 c5, cl_some]
    unfold gX2_reckon_266
    cases eq : (vlf V t).2.2.2.2.2 c with
    | none =>
      obtain ⟨s', f1, f2, f3⟩ := h.nu (v := 0) a3 a5
      exact ⟨s', by rw [if_neg (by simp), f1, cl_some], f2, f3, rfl⟩
    | some q =>
      obtain ⟨g1, g2, g3, g4⟩ := h.pt c3 c5 eq
      have hm := h.2.1.m
      have hwq := (h.1.2.2.2.2.1 t h.2.2.2.1 q.1 g1).2.2.2 q.2 g2
      have hvq : vsw V.1 (vpl V t) (V.2.2.2 t q.1) q.2 = (V.2.2.2 t q.1).2.2.2.2.1 q.2 := by unfold vsw; rw [if_neg g3]
      obtain ⟨s', f1, f2, f3⟩ := h.nu (v := (V.2.2.2 t q.1).2.2.2.2.1 q.2) a3 a5
      refine ⟨s', ?_, f2, f3, rfl⟩
      dsimp only
      rw [if_pos (nI_m1 (by omega)), c_word g4, cl_some, hwq, hvq, f1, cl_some]
  · rw [if_neg (by decide), if_neg (by decide), if_neg (by decide), if_neg (by decide), if_neg (by decide), if_neg (by decide), if_pos (by decide), vln1_5]
    obtain ⟨q1, q2⟩ := p5 rfl
    obtain ⟨a, rfl, a2, a3, a4, a5⟩ := vptr_nat hj.1 hft q1
    obtain ⟨c, rfl, c2, c3, c4, c5⟩ := vnum_nat hj.1 hft q2
    rw [a2, h.pw a3 a5, cl_some, h.n c3 c5, cl_some]
    cases eq : (vlf V t).2.2.2.2.2 a with
    | none =>
      dsimp only
      rw [c_put_m, cl_some]
      exact ⟨s, rfl, h.1, TO.refl, rfl⟩
    | some q =>
      obtain ⟨g1, g2, g3, g4⟩ := h.pt a3 a5 eq
      dsimp only
      rw [c_put g4, cl_some]
      exact ⟨_, rfl, h.1.num h.2.1 hj h.2.2.2.1 g1 g2 g3, TO.u (by omega) h.2.2.2.1, rfl⟩
  · rw [if_neg (by decide), if_neg (by decide), if_neg (by decide), if_neg (by decide), if_neg (by decide), if_neg (by decide), if_neg (by decide), if_neg (by decide), if_pos (by decide), vln1_7]
    obtain ⟨q1, -⟩ := p7 rfl
    obtain ⟨a, rfl, a2, a3, a4, a5⟩ := vnum_nat hj.1 hft q1
    rw [h.n a3 a5, cl_some, show (0 : Int32).toInt = 0 from rfl]
    by_cases cq : (vnm (vlf V t) (nI a)).toInt ≤ 0
    · rw [if_pos cq, if_pos cq]
      exact ⟨s, rfl, h.1, TO.refl, rfl⟩
    · rw [if_neg cq, if_neg cq, wr_eq]
      exact ⟨_, rfl, h.1.line h.2.1 hj h.2.2.2.1 h.2.2.2.2.1, TO.u (by omega) h.2.2.2.1, vs_ne (by omega)⟩
/-- a function that isn't told is called -/
theorem c_cf0 (h : LC b lim s V zs fr t l) (e1 : V.1 (vco (vlf V t).1 l + 1) = A) (e3 : V.1 (vco (vlf V t).1 l + 3) = C) (hC : vnum V.1 (vlf V t).1 C) (ht : ¬ tld V.1 A) :
    ∃ s', gX2_callFunction b (b + 17 + 2 * t) s (nI l) = some (-1, s') ∧ RC b lim s' (vnu V t (V.2.2.1 t - 1) C.toInt.toNat 0) zs fr ∧ TO b t s s' := by
  have hft := h.f.1
  have hj := h.2.2.1
  unfold gX2_callFunction
  rw [h.t9, c_part1 h.1.2.2.2.2.2 hj.1 hft h.2.2.2.2.2.2, cl_some, c_told h.1.2.2.2.2.2, cl_some, if_rb, e1, if_neg ht, h.t9, c_part3 h.1.2.2.2.2.2 hj.1 hft h.2.2.2.2.2.2, cl_some, e3, h.t11]
  obtain ⟨a, rfl, a2, a3, a4, a5⟩ := vnum_nat hj.1 hft hC
  obtain ⟨s', f1, f2, f3⟩ := h.nu (v := 0) a3 a5
  exact ⟨s', by rw [f1, cl_some], by rw [a2]; exact f2, f3⟩
theorem c_cf1 (h : LC b lim s V zs fr t l) (e1 : V.1 (vco (vlf V t).1 l + 1) = A) (ht : tld V.1 A) : gX2_callFunction b (b + 17 + 2 * t) s (nI l) = some (A, s) := by
  have hft := h.f.1
  have hj := h.2.2.1
  unfold gX2_callFunction
  rw [h.t9, c_part1 h.1.2.2.2.2.2 hj.1 hft h.2.2.2.2.2.2, cl_some, c_told h.1.2.2.2.2.2, cl_some, if_rb, e1, if_pos ht]
end
end
section
/-! ===== the class: sides, the end of a foreign call ===== -/
section
variable {b lim : Nat} {s : wt_S} {V : vV} {zs : List (vP × Nat)} {fr : List Nat} {t ks : Nat} {words l1 : Int32} {K2 : wt_S → Int32 → Option (Int32 × wt_S)}
theorem fs_a : ∀ m j fu, j + m = 6 → m < fu → gX9_freeSide_26 b K2 fu s l1 0 6 (nI j) = K2 s (l1 + 1) := by
  have l6 : (6 : Int32).toInt = 6 := rfl
  intro m
  induction m with
  | zero =>
    intro j fu hj hfu
    obtain ⟨fu, rfl⟩ : ∃ m, fu = m + 1 := ⟨fu - 1, by omega⟩
    rw [gX9_freeSide_26, if_pos (by rw [l6, nI_int (by omega)]; omega), if_pos rfl]
  | succ m ih =>
    intro j fu hj hfu
    obtain ⟨fu, rfl⟩ : ∃ m, fu = m + 1 := ⟨fu - 1, by omega⟩
    rw [gX9_freeSide_26, if_neg (by rw [l6, nI_int (by omega)]; omega), ix_nI (by omega) (by omega), if_pos rfl]
    unfold gX9_freeSide_56 gX9_freeSide_57
    rw [nI_1, ih (j + 1) fu (by omega) (by omega)]
theorem fs_b : ∀ m j fu, j + m = 6 → m < fu → (∀ j', j ≤ j' → j' < 6 → s (b + 17 + 2 * j') 7 ≠ l1) → gX9_freeSide_26 b K2 fu s l1 1 6 (nI j) = some (l1, s) := by
  have l6 : (6 : Int32).toInt = 6 := rfl
  intro m
  induction m with
  | zero =>
    intro j fu hj hfu _
    obtain ⟨fu, rfl⟩ : ∃ m, fu = m + 1 := ⟨fu - 1, by omega⟩
    rw [gX9_freeSide_26, if_pos (by rw [l6, nI_int (by omega)]; omega), if_neg (by decide)]
  | succ m ih =>
    intro j fu hj hfu hn
    obtain ⟨fu, rfl⟩ : ∃ m, fu = m + 1 := ⟨fu - 1, by omega⟩
    rw [gX9_freeSide_26, if_neg (by rw [l6, nI_int (by omega)]; omega), ix_nI (by omega) (by omega), if_neg (by decide), if_neg (hn j (Nat.le_refl _) (by omega))]
    unfold gX9_freeSide_57
    rw [nI_1, ih (j + 1) fu (by omega) (by omega) (fun j' h1 h2 => hn j' (by omega) h2)]
theorem fs_c {j0 : Nat} (h0 : j0 < 6) (he : s (b + 17 + 2 * j0) 7 = l1) : ∀ m j fu, j + m = 6 → m < fu → j ≤ j0 → gX9_freeSide_26 b K2 fu s l1 1 6 (nI j) = K2 s (l1 + 1) := by
  have l6 : (6 : Int32).toInt = 6 := rfl
  intro m
  induction m with
  | zero =>
    intro j fu hj hfu hl
    omega
  | succ m ih =>
    intro j fu hj hfu hl
    obtain ⟨fu, rfl⟩ : ∃ m, fu = m + 1 := ⟨fu - 1, by omega⟩
    rw [gX9_freeSide_26, if_neg (by rw [l6, nI_int (by omega)]; omega), ix_nI (by omega) (by omega), if_neg (by decide)]
    by_cases c : s (b + 17 + 2 * j) 7 = l1
    · rw [if_pos c]
      unfold gX9_freeSide_56 gX9_freeSide_57
      rw [nI_1, fs_a m (j + 1) fu (by omega) (by omega)]
    · rw [if_neg c]
      unfold gX9_freeSide_57
      have : j ≠ j0 := fun e => c (by rw [e]; exact he)
      rw [nI_1, ih (j + 1) fu (by omega) (by omega) (by omega)]
theorem c_freeSide {z : Nat} (h : RC b lim s V zs fr) (hsd : Isd V.1) (hS : ∀ t', t' < 6 → ∀ k, k < 3 → V.1 (3989 + t') = nI k → V.1 (3923 + k) = nI t') (hz : V.1 2052 = nI z) (hz3 : z ≤ 3) : gX9_freeSide b s = some (oI (vfs V.1 z 0), s) := by
  have hg : s (b + 1) 4 = nI z := (h.2.2.1.1 4 (by omega)).trans hz
  have loop : ∀ (m k fu : Nat), k + m = z → m < fu → gX9_freeSide_2 b fu s (nI k) = some (oI (vfs V.1 m k), s) := by
    intro m
    induction m with
    | zero =>
      intro k fu hk hfu
      obtain ⟨fu, rfl⟩ : ∃ m, fu = m + 1 := ⟨fu - 1, by omega⟩
      rw [gX9_freeSide_2, hg, nI_int (by omega), nI_int (by omega), if_pos (by omega)]
      rfl
    | succ m ih =>
      intro k fu hk hfu
      obtain ⟨fu, rfl⟩ : ∃ m, fu = m + 1 := ⟨fu - 1, by omega⟩
      have ev : vfs V.1 (m + 1) k = if V.1 (3923 + k) = -1 then some k else vfs V.1 m (k + 1) := by rw [vfs]
      rw [gX9_freeSide_2, hg, nI_int (by omega), nI_int (by omega), if_neg (by omega), ev]
      by_cases c : V.1 (3923 + k) = -1
      · rw [if_pos c, show (0 : Int32) = nI 0 from rfl, fs_b 6 0 wt_N (by omega) (by unfold wt_N; omega) (fun j' _ hj' he => ?_)]
        · rfl
        · rw [h.at hj' (e := (7, 3989)) (by decide)] at he
          have := hS j' hj' k (by omega) he
          rw [c] at this
          exact nI_m1 (by omega) this.symm
      · rw [if_neg c]
        rcases hsd k (by omega) with e | ⟨t', t1, t2, t3⟩
        · exact absurd e c
        · rw [show (0 : Int32) = nI 0 from rfl, fs_c (j0 := t') t1 (by rw [h.at t1 (e := (7, 3989)) (by decide)]; exact t3) 6 0 wt_N (by omega) (by unfold wt_N; omega) (by omega), nI_1, ih (k + 1) fu (by omega) (by omega)]
  exact loop z 0 wt_N (by omega) (by unfold wt_N; omega)
theorem vs_cm {i j : Nat} {v w : Int32} (h : i ≠ j) : vs (vs V i v) j w = vs (vs V j w) i v := by
  unfold vs
  refine Prod.ext (funext fun x => ?_) rfl
  show mj_upd (mj_upd V.1 i v) j w x = mj_upd (mj_upd V.1 j w) i v x
  by_cases e1 : x = j
  · subst e1
    rw [mj_upd_self, mj_upd_ne (Ne.symm h), mj_upd_self]
  · rw [mj_upd_ne e1]
    by_cases e2 : x = i
    · subst e2
      rw [mj_upd_self, mj_upd_self]
    · rw [mj_upd_ne e2, mj_upd_ne e2, mj_upd_ne e1]
theorem vcn_cm {i k : Nat} {v w : Int32} (h : i ≠ 2054 + k) : vcn (vs V i v) k w = vs (vcn V k w) i v := by
  unfold vcn
  rw [vs_ne (Ne.symm h), vs_cm h]
theorem c_ef {m : Nat} (h : RC b lim s V zs fr) (hx : CX b lim) (hp : Ipr V.1) (hf : VFR V) (ht : t < 6) (hm : V.1 (3996 + t) - words = nI m) (hm2 : m < 2147483648) (hks : ks < 3) (hs : V.1 (3989 + t) = nI ks) : ∃ s', gX2_endForeign b (b + 17 + 2 * t) s words = some ((), s') ∧ RC b lim s' (vfv V t words) zs fr ∧ TO b t s s' := by
  have hpv : ∀ {i : Nat} {v : Int32} {U : vV}, Ipr U.1 → ((i < 2228 ∨ 2898 ≤ i) ∧ i ≠ 2050 ∧ i ≠ 2051) → Ipr (vs U i v).1 := fun {i v U} h1 h2 => Ipr.vs1 h1 h2
  have a1 := h.ut hx hp hf ht (e := (8, 3996)) (by decide) (v := V.1 (3996 + t) - words) (fun q => absurd q (by decide))
  have e8 := h.at ht (e := (8, 3996)) (by decide)
  have hto1 : TO b t s (wt_u s (b + 17 + 2 * t) 8 (V.1 (3996 + t) - words)) := TO.u (Or.inr (Or.inl rfl)) ht
  unfold gX2_endForeign
  rw [wr_eq, show s (b + 17 + 2 * t) 8 = V.1 (3996 + t) from e8, wt_u_self]
  unfold vfv
  dsimp only
  rw [vs_at]
  have a1 : RC b lim (wt_u s (b + 17 + 2 * t) 8 (V.1 (3996 + t) - words)) (vs V (3996 + t) (V.1 (3996 + t) - words)) zs fr := a1
  by_cases c : V.1 (3996 + t) - words ≠ 0
  · rw [if_pos c, if_pos (by
      rw [hm] at c ⊢
      rw [nI_int hm2]
      rcases Nat.eq_zero_or_pos m with rfl | hq
      · exact absurd rfl c
      · omega)]
    unfold gX2_endForeign_22
    obtain ⟨s', b1, b2, b3, -⟩ := c_addn (k := 9) (v := 1) a1 hx (hpv hp (by omega)) hf ht (by omega)
    refine ⟨s', by rw [show (9 : Int32) = nI 9 from rfl, b1, cl_some], ?_, hto1.trans b3⟩
    rw [vcn_cm (by omega)] at b2
    exact b2
  · rw [if_neg c, if_neg (by rw [Decidable.not_not.mp c]; decide), wr_eq]
    unfold gX2_endForeign_22
    have a2 := a1.ut hx (hpv hp (by omega)) hf ht (e := (7, 3989)) (by decide) (v := -1) (fun q => absurd q (by decide))
    have a2 : RC b lim (wt_u (wt_u s (b + 17 + 2 * t) 8 (V.1 (3996 + t) - words)) (b + 17 + 2 * t) 7 (-1)) (vs (vs V (3996 + t) (V.1 (3996 + t) - words)) (3989 + t) (-1)) zs fr := a2
    obtain ⟨s', b1, b2, b3, -⟩ := c_addn (k := 9) (v := 1) a2 hx (hpv (hpv hp (by omega)) (by omega)) hf ht (by omega)
    have hto2 : TO b t (wt_u s (b + 17 + 2 * t) 8 (V.1 (3996 + t) - words)) (wt_u (wt_u s (b + 17 + 2 * t) 8 (V.1 (3996 + t) - words)) (b + 17 + 2 * t) 7 (-1)) := TO.u (Or.inr (Or.inl rfl)) ht
    refine ⟨s', by rw [show (9 : Int32) = nI 9 from rfl, b1, cl_some], ?_, (hto1.trans hto2).trans b3⟩
    have b4 := b2.v hx (by
      show Ipr (vcn (vs (vs V (3996 + t) (V.1 (3996 + t) - words)) (3989 + t) (-1)) 9 1).1
      exact hpv (hpv (hpv hp (by omega)) (by omega)) (by omega)) hf (i := 3923 + (V.1 (3989 + t)).toInt.toNat) (v := -1) (by rw [hs, nI_int (by omega)]; right; right; show 3923 ≤ 3923 + ks ∧ 3923 + ks < 3926; omega)
    rw [vcn_cm (by omega), vcn_cm (by omega), vs_cm (i := 3989 + t) (by rw [hs, nI_int (by omega)]; show 3989 + t ≠ 3923 + ks; omega)] at b4
    exact b4
end
end
