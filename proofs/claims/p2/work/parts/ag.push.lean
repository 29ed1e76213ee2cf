/-! ===== the class: a frame comes ===== -/
section
variable {b lim : Nat} {s s' : wt_S} {V V' : vV} {zs zs' : List (vP × Nat)} {fr fr' : List Nat} {t np z need k f bk : Nat}
/-- what a frame is before a slot is handed over -/
theorem c_push_51 {T : Nat} {p f n : Nat} {W : Nat → Int32} (hx : CX b lim) (hR : RP 5 s W) (hf : f < 10) (hn : vsz W f = n ∧ n ≤ 8) (hp : p + 2 + n ≤ lim) (hT : T ≠ b + 15) : ∀ (m i fu : Nat) (s1 : wt_S), i + m = n → m < fu → (∀ c, c ≠ b + 15 → s1 c = s c) →
    ∃ mm, gX2_pushFrame_51 b T fu s1 (nI f) (nI p) (nI n) (nI i) = gX2_pushFrame_51 b T 1 (wt_uf s (b + 15) mm) (nI f) (nI p) (nI n) (nI n) ∧ (∀ j, i ≤ j → j < n → mm (p + 2 + j) = vdf W f j) ∧ ∀ x, ¬ (p + 2 + i ≤ x ∧ x < p + 2 + n) → mm x = s1 (b + 15) x := by
  have hb := hx.b
  have hxm := hx.m
  intro m
  induction m with
  | zero =>
    intro i fu s1 hi hfu hs
    obtain ⟨fu, rfl⟩ : ∃ k, fu = k + 1 := ⟨fu - 1, by omega⟩
    obtain rfl : i = n := by omega
    refine ⟨s1 (b + 15), ?_, fun j h1 h2 => by omega, fun _ _ => rfl⟩
    have e : wt_uf s (b + 15) (s1 (b + 15)) = s1 := by
      funext c
      by_cases h : c = b + 15
      · subst h; rw [wt_uf_at]
      · rw [wt_uf_ne h, hs c h]
    rw [e, gX2_pushFrame_51, gX2_pushFrame_51, if_pos (Int.le_refl _), if_pos (Int.le_refl _)]
  | succ m ih =>
    intro i fu s1 hi hfu hs
    obtain ⟨fu, rfl⟩ : ∃ k, fu = k + 1 := ⟨fu - 1, by omega⟩
    have hR1 : RP 5 s1 W := ⟨fun f hf => by rw [hs _ (by omega), hs _ (by omega), hs _ (by omega), hs _ (by omega)]; exact hR.1 f hf, fun j hj => by rw [hs _ (by omega)]; exact hR.2 j hj⟩
    rw [gX2_pushFrame_51, if_neg (by rw [nI_int (by omega), nI_int (by omega)]; omega), c_isPointer hR1 hf, cl_some, if_rb, show nI p + 2 + nI i = nI (p + 2 + i) by rw [show nI p + 2 = nI (p + 2) from nI_add _ 2, nI_add]]
    have go : ∀ v, v = vdf W f i → ∃ mm, gX2_pushFrame_87 b T (gX2_pushFrame_51 b T fu) s1 (nI f) (nI p) (nI n) (nI i) (nI (p + 2 + i)) v = gX2_pushFrame_51 b T 1 (wt_uf s (b + 15) mm) (nI f) (nI p) (nI n) (nI n) ∧ (∀ j, i ≤ j → j < n → mm (p + 2 + j) = vdf W f j) ∧ ∀ x, ¬ (p + 2 + i ≤ x ∧ x < p + 2 + n) → mm x = s1 (b + 15) x := fun v hv => by
      unfold gX2_pushFrame_87
      rw [c_put (by omega), cl_some, show nI i + 1 = nI (i + 1) from nI_add i 1]
      obtain ⟨mm, a1, a2, a3⟩ := ih (i + 1) fu (wt_u s1 (b + 15) (p + 2 + i) v) (by omega) (by omega) (fun c hc => by rw [wt_u_ne hc]; exact hs c hc)
      refine ⟨mm, a1, fun j h1 h2 => ?_, fun x hx => ?_⟩
      · by_cases e : j = i
        · subst e
          rw [a3 _ (by omega), wt_u_self]; exact hv
        · exact a2 j (by omega) h2
      · rw [a3 x (by omega), wt_u_nk (by omega)]
    unfold vdf at go
    by_cases c : bt (W (2238 + f)) i
    · rw [if_pos c]
      exact go (-1) (by rw [if_pos c])
    · rw [if_neg c]
      exact go 0 (by rw [if_neg c])
theorem c_push (h : RC b lim s V zs fr) (hx : CX b lim) (hj : VJ lim V) (hc : Icn V t np) (ht : t < 6) (hf : f < 10) (hr : vud V.1 (V.2.2.2 t) (np - 1) (V.2.2.1 t) + vwd V.1 f ≤ vln V.2.1 t (np - 1)) {bw : Int32} :
    ∃ s1 id, id < 256 ∧ gX2_pushFrame b (b + 17 + 2 * t) s (nI f) bw = some ((), s1) ∧ (∃ y ∈ zs, y.2 = id ∧ y.1.2.2.1 = t ∧ y.1.2.2.2 = np - 1) ∧
      (∀ c, c ≠ b + 15 → c ≠ b + 5 → c ≠ b + 17 + 2 * t → s1 c = s c) ∧ s1 (b + 5) = mj_upd (s (b + 5)) id (s (b + 5) id + nI (vwd V.1 f)) ∧
      s1 (b + 15) (vnx V t) = s (b + 17 + 2 * t) 11 ∧ s1 (b + 15) (vnx V t + 1) = bw ∧ (∀ k, k < vsz V.1 f → s1 (b + 15) (vnx V t + 2 + k) = vdf V.1 f k) ∧ (∀ x, ¬ (vnx V t ≤ x ∧ x < vnx V t + vwd V.1 f) → s1 (b + 15) x = s (b + 15) x) ∧
      s1 (b + 17 + 2 * t) 4 = s (b + 17 + 2 * t) 4 + 1 ∧ s1 (b + 17 + 2 * t) 5 = s (b + 17 + 2 * t) 5 + nI (vwd V.1 f) ∧ s1 (b + 17 + 2 * t) 6 = (if (s (b + 17 + 2 * t) 6).toInt < (s (b + 17 + 2 * t) 5 + nI (vwd V.1 f)).toInt then s (b + 17 + 2 * t) 5 + nI (vwd V.1 f) else s (b + 17 + 2 * t) 6) ∧ s1 (b + 17 + 2 * t) 11 = nI (vnx V t) ∧ s1 (b + 17 + 2 * t) 9 = nI f ∧ s1 (b + 17 + 2 * t) 10 = 0 ∧ ∀ j, j ≠ 4 → j ≠ 5 → j ≠ 6 → j ≠ 9 → j ≠ 10 → j ≠ 11 → s1 (b + 17 + 2 * t) j = s (b + 17 + 2 * t) j := by
  have hb := hx.b
  have hxm := hx.m
  have hnp := hc.2.2.1
  have hsz := hj.1.sz hf
  have hwd := hj.1.wd hf
  obtain ⟨x, y, -, y2, y3, y4, y5, y6, -, -⟩ := zfind (t := t) (n := np - 1) h.1 hj.2.2.1 (hc.2.2.2.1.1 (np - 1) (by omega))
  have hch := h.ch ht hc.2.1
  have e12 := hch.1.2 y y2 y3 (by omega)
  obtain ⟨i1, i2, -, -⟩ := h.2.1.mem y2
  have e5 := ((h.2.2.2.1 t ht).2.2.2.2.2 y y2 y3).1
  rw [y4] at e5
  have hvn : vnx V t = y.1.1 + vud V.1 (V.2.2.2 t) (np - 1) (V.2.2.1 t) := by unfold vnx; rw [vnp_of hc.2.1 hnp.2, y5]
  have hyo := (hj.2.1.2 y.1 (h.mem y2)).2.1
  have hpl : vnx V t + vwd V.1 f ≤ lim := by rw [y6] at hr; omega
  have hw2 : vwd V.1 f = vsz V.1 f + 2 := rfl
  obtain ⟨mm, m1, m2, m3⟩ := c_push_51 (T := b + 17 + 2 * t) (p := vnx V t) hx h.2.2.2.2.2 hf ⟨rfl, hsz.2⟩ (by omega) (by omega) (vsz V.1 f) 0 wt_N (wt_u (wt_u s (b + 15) (vnx V t) (s (b + 17 + 2 * t) 11)) (b + 15) (vnx V t + 1) bw) (by omega) (by unfold wt_N; omega) (fun c hc => by rw [wt_u_ne hc, wt_u_ne hc])
  have hRP1 : RP 5 (wt_u (wt_u s (b + 15) (vnx V t) (s (b + 17 + 2 * t) 11)) (b + 15) (vnx V t + 1) bw) V.1 := h.2.2.2.2.2.eq hj.1 vpe.refl (fun c c1 c2 => by rw [wt_u_ne (by omega), wt_u_ne (by omega)])
  have hmx : ∀ (s : wt_S) (x y : Int32), gJ9_max_7cf53 s x y = some (if x.toInt < y.toInt then y else x, s) := fun s x y => by
    unfold gJ9_max_7cf53
    split <;> rfl
  have e2w : 2 + nI (vsz V.1 f) = nI (vwd V.1 f) := by rw [li_add, hw2, Nat.add_comm]
  unfold gX2_pushFrame
  rw [e12, c_topOf i1, cl_some, i2, e5, nI_add, ← hvn, c_put (by omega), cl_some, show nI (vnx V t) + 1 = nI (vnx V t + 1) from nI_add _ 1, c_put (by omega), cl_some, c_sizeOf hRP1 hf, cl_some, hsz.1, show (0 : Int32) = nI 0 from rfl, m1, gX2_pushFrame_51, if_pos (Int.le_refl _), e2w]
  rw [wt_uf_ne (show b + 17 + 2 * t ≠ b + 15 by omega), e12, c_use i1, cl_some, wr_eq, hmx, cl_some, wr_eq, wr_eq, wr_eq, wr_eq, wr_eq]
  refine ⟨_, y.2, i1, rfl, ⟨y, y2, rfl, y3, y4⟩, ?_⟩
  have h5v : wt_uf s (b + 15) mm (b + 5) y.2 = s (b + 5) y.2 := by rw [wt_uf_ne (by omega)]
  rw [h5v]
  have hT0 : wt_u (wt_uf s (b + 15) mm) (b + 5) y.2 (s (b + 5) y.2 + nI (vwd V.1 f)) (b + 17 + 2 * t) = s (b + 17 + 2 * t) := by rw [wt_u_ne (by omega), wt_uf_ne (by omega)]
  have hC5 : wt_u (wt_uf s (b + 15) mm) (b + 5) y.2 (s (b + 5) y.2 + nI (vwd V.1 f)) (b + 5) = mj_upd (s (b + 5)) y.2 (s (b + 5) y.2 + nI (vwd V.1 f)) := by rw [wt_u_at, wt_uf_ne (by omega)]
  have hC15 : wt_u (wt_uf s (b + 15) mm) (b + 5) y.2 (s (b + 5) y.2 + nI (vwd V.1 f)) (b + 15) = mm := by rw [wt_u_ne (by omega), wt_uf_at]
  have hCo : ∀ c, c ≠ b + 5 → c ≠ b + 15 → wt_u (wt_uf s (b + 15) mm) (b + 5) y.2 (s (b + 5) y.2 + nI (vwd V.1 f)) c = s c := fun c h1 h2 => by rw [wt_u_ne h1, wt_uf_ne h2]
  generalize wt_u (wt_uf s (b + 15) mm) (b + 5) y.2 (s (b + 5) y.2 + nI (vwd V.1 f)) = s2 at *
  generalize hT : b + 17 + 2 * t = T at *
  have hO : ∀ (v5 v6 v4 v11 v9 v10 : Int32) c, c ≠ T → wt_u (wt_u (wt_u (wt_u (wt_u (wt_u s2 T 5 v5) T 6 v6) T 4 v4) T 11 v11) T 9 v9) T 10 v10 c = s2 c := fun _ _ _ _ _ _ c hc => by
    rw [wt_u_ne hc, wt_u_ne hc, wt_u_ne hc, wt_u_ne hc, wt_u_ne hc, wt_u_ne hc]
  have hTT : ∀ (v5 v6 v4 v11 v9 v10 : Int32), wt_u (wt_u (wt_u (wt_u (wt_u (wt_u s2 T 5 v5) T 6 v6) T 4 v4) T 11 v11) T 9 v9) T 10 v10 T = mj_upd (mj_upd (mj_upd (mj_upd (mj_upd (mj_upd (s T) 5 v5) 6 v6) 4 v4) 11 v11) 9 v9) 10 v10 := fun _ _ _ _ _ _ => by
    rw [wt_u_at, wt_u_at, wt_u_at, wt_u_at, wt_u_at, wt_u_at, hT0]
  have q5 : wt_u s2 T 5 (s2 T 5 + nI (vwd V.1 f)) T 5 = s T 5 + nI (vwd V.1 f) := by rw [wt_u_self, hT0]
  have q6 : wt_u s2 T 5 (s2 T 5 + nI (vwd V.1 f)) T 6 = s T 6 := by rw [wt_u_nk (by omega), hT0]
  have q4 : ∀ v, wt_u (wt_u s2 T 5 (s2 T 5 + nI (vwd V.1 f))) T 6 v T 4 = s T 4 := fun v => by rw [wt_u_nk (by omega), wt_u_nk (by omega), hT0]
  rw [q4, q5, q6, hT0, show nI 0 = (0 : Int32) from rfl]
  rw [hTT]
  refine ⟨fun c h1 h2 h3 => by rw [hO _ _ _ _ _ _ c h3, hCo c h2 h1], by rw [hO _ _ _ _ _ _ _ (by omega), hC5], ?_, ?_, fun k hk => ?_, fun x hx => ?_, ?_, ?_, ?_, ?_, ?_, ?_, fun j h4 h5 h6 h9 h10 h11 => ?_⟩
  · rw [hO _ _ _ _ _ _ _ (by omega), hC15, m3 _ (by omega), wt_u_nk (by omega), wt_u_self]
  · rw [hO _ _ _ _ _ _ _ (by omega), hC15, m3 _ (by omega), wt_u_self]
  · rw [hO _ _ _ _ _ _ _ (by omega), hC15]; exact m2 k (by omega) hk
  · rw [hO _ _ _ _ _ _ _ (by omega), hC15, m3 _ (by omega), wt_u_nk (by omega), wt_u_nk (by omega)]
  · rw [mj_upd_ne (by omega), mj_upd_ne (by omega), mj_upd_ne (by omega), mj_upd_self]
  · rw [mj_upd_ne (by omega), mj_upd_ne (by omega), mj_upd_ne (by omega), mj_upd_ne (by omega), mj_upd_ne (by omega), mj_upd_self]
  · rw [mj_upd_ne (by omega), mj_upd_ne (by omega), mj_upd_ne (by omega), mj_upd_ne (by omega), mj_upd_self]
  · rw [mj_upd_ne (by omega), mj_upd_ne (by omega), mj_upd_self]
  · rw [mj_upd_ne (by omega), mj_upd_self]
  · rw [mj_upd_self]
  · rw [mj_upd_ne h10, mj_upd_ne h9, mj_upd_ne h11, mj_upd_ne h4, mj_upd_ne h6, mj_upd_ne h5]
end
