section
/-! ===== the class: a task begins ===== -/
section
variable {b lim B : Nat} {s s' : wt_S} {V V' : vV} {zs zs' : List (vP × Nat)} {fr fr' : List Nat} {t np k l f z : Nat} {v a mode : Int32}
theorem OT.symm (h : OT t V V') : OT t V' V := by
  obtain ⟨h1, h2, h3, h4, h5, h6⟩ := h
  exact ⟨h1.symm, fun i i1 i2 => (h2 i i1 i2).symm, fun t' ht' hne => ⟨fun j hj => ((h3 t' ht' hne).1 j hj).symm, (h3 t' ht' hne).2.1.symm, (h3 t' ht' hne).2.2.symm⟩, fun q hq => (h4 q hq).symm, fun t' n hne => (h5 t' n hne).symm, fun k hk t' ht' hne => (h6 k hk t' ht' hne).symm⟩
theorem c_fill_loop {r n : Nat} (hn : n ≤ 100000) : ∀ (m i fu : Nat) (s : wt_S), i + m = n → m < fu → ∃ s', gJ7_fill_53178_5 r n fu s v (nI i) (nI n) = some ((), s') ∧ (∀ c, c ≠ r → s' c = s c) ∧ (∀ j, i ≤ j → j < n → s' r j = v) ∧ ∀ j, j < i ∨ n ≤ j → s' r j = s r j := by
  intro m
  induction m with
  | zero =>
    intro i fu s hi hfu
    obtain ⟨fu, rfl⟩ : ∃ k, fu = k + 1 := ⟨fu - 1, by omega⟩
    obtain rfl : i = n := by omega
    refine ⟨s, ?_, fun _ _ => rfl, fun j h1 h2 => by omega, fun _ _ => rfl⟩
    rw [gJ7_fill_53178_5, if_pos (Int.le_refl _)]
  | succ m ih =>
    intro i fu s hi hfu
    obtain ⟨fu, rfl⟩ : ∃ k, fu = k + 1 := ⟨fu - 1, by omega⟩
    obtain ⟨s', a1, a2, a3, a4⟩ := ih (i + 1) fu (wt_u s r i v) (by omega) (by omega)
    refine ⟨s', ?_, fun c hc => by rw [a2 c hc, wt_u_ne hc], fun j h1 h2 => ?_, fun j hj => ?_⟩
    · rw [gJ7_fill_53178_5, if_neg (by rw [nI_int (by omega), nI_int (by omega)]; omega), ix_nI (by omega) (by omega), wr_eq, show nI i + 1 = nI (i + 1) from nI_add i 1]
      exact a1
    · by_cases c : j = i
      · subst c
        rw [a4 _ (by omega), wt_u_self]
      · exact a3 j (by omega) h2
    · rw [a4 j (by omega), wt_u_nk (by omega)]
theorem c_fill {r n : Nat} (hn : n ≤ 100000) : ∃ s', gJ7_fill_53178 r n s v = some ((), s') ∧ (∀ c, c ≠ r → s' c = s c) ∧ (∀ j, j < n → s' r j = v) ∧ ∀ j, n ≤ j → s' r j = s r j := by
  obtain ⟨s', a1, a2, a3, a4⟩ := c_fill_loop (r := r) (v := v) hn n 0 wt_N s (by omega) (by unfold wt_N; omega)
  exact ⟨s', a1, a2, fun j hj => a3 j (by omega) hj, fun j hj => a4 j (Or.inr hj)⟩
/-- a task that is none -/
def clr (f : Nat → Int32) : Nat → Int32 := fun j => if j = 0 ∨ 17 ≤ j then f j else if j = 7 ∨ (9 ≤ j ∧ j ≤ 13) ∨ j = 15 then -1 else 0
theorem c_clear {T : Nat} : ∃ s', gX7_clear T s = some ((), s') ∧ (∀ c, c ≠ T → c ≠ T + 1 → s' c = s c) ∧ s' T = clr (s T) ∧ ∀ j, j < 12 → s' (T + 1) j = 0 := by
  obtain ⟨s8, f1, f2, f3, -⟩ := c_fill (r := T + 1) (n := 12) (v := 0) (s := wt_u (wt_u (wt_u (wt_u (wt_u (wt_u (wt_u s T 1 0) T 2 0) T 3 0) T 6 0) T 14 0) T 15 (-1)) T 16 0) (by omega)
  obtain ⟨s9, d1, d2, d3⟩ := c_drop (s := s8) (T := T)
  refine ⟨s9, ?_, fun c h1 h2 => ?_, ?_, fun j hj => ?_⟩
  · unfold gX7_clear
    rw [wr_eq, wr_eq, wr_eq, wr_eq, wr_eq, wr_eq, wr_eq, f1, cl_some, d1, cl_some]
  · rw [d2 c h1, f2 c h2, wt_u_ne h1, wt_u_ne h1, wt_u_ne h1, wt_u_ne h1, wt_u_ne h1, wt_u_ne h1, wt_u_ne h1]
  · rw [d3, f2 T (by omega), wt_u_at, wt_u_at, wt_u_at, wt_u_at, wt_u_at, wt_u_at, wt_u_at]
    funext j
    unfold dst clr
    by_cases c1 : j = 4 ∨ j = 5 ∨ j = 8
    · rw [if_pos c1, if_neg (by omega), if_neg (by omega)]
    rw [if_neg c1]
    by_cases c2 : j = 7 ∨ (9 ≤ j ∧ j ≤ 13)
    · rw [if_pos c2, if_neg (by omega), if_pos (by omega)]
    rw [if_neg c2]
    by_cases e : j = 16
    · subst e; rw [mj_upd_self, if_neg (by omega), if_neg (by omega)]
    rw [mj_upd_ne e]
    by_cases e : j = 15
    · subst e; rw [mj_upd_self, if_neg (by omega), if_pos (by omega)]
    rw [mj_upd_ne e]
    by_cases e : j = 14
    · subst e; rw [mj_upd_self, if_neg (by omega), if_neg (by omega)]
    rw [mj_upd_ne e]
    by_cases e : j = 6
    · subst e; rw [mj_upd_self, if_neg (by omega), if_neg (by omega)]
    rw [mj_upd_ne e]
    by_cases e : j = 3
    · subst e; rw [mj_upd_self, if_neg (by omega), if_neg (by omega)]
    rw [mj_upd_ne e]
    by_cases e : j = 2
    · subst e; rw [mj_upd_self, if_neg (by omega), if_neg (by omega)]
    rw [mj_upd_ne e]
    by_cases e : j = 1
    · subst e; rw [mj_upd_self, if_neg (by omega), if_neg (by omega)]
    rw [mj_upd_ne e, if_pos (by omega)]
  · rw [d2 _ (by omega)]
    exact f3 j hj
theorem b5_tf {x : Int32} (ht : t < 6) : ∀ e ∈ tf, (vb5 V t z k x a mode).1 (e.2 + t) = if e.1 = 1 then 1 else if e.1 = 2 then mode else if e.1 = 16 then a else if e.1 = 7 ∨ e.1 = 9 then -1 else 0 := by
  intro e he
  obtain ⟨b1, b2, b3, b4, b5⟩ := vb5_at (V := V) (t := t) (g := z) (z := k) (x := x) (a := a) (mode := mode)
  simp only [tf, List.mem_cons, List.not_mem_nil, or_false] at he
  rcases he with rfl | rfl | rfl | rfl | rfl | rfl | rfl | rfl | rfl | rfl
  · exact b1
  · exact b2
  · rw [vb5_0 (c := 3940) (by omega), vcr_0 ht (by omega) (by omega)]; rfl
  · rw [vb5_0 (c := 3954) (by omega), vcr_0 ht (by omega) (by omega)]; rfl
  · rw [vb5_0 (c := 3961) (by omega), vcr_0 ht (by omega) (by omega)]; rfl
  · rw [vb5_0 (c := 4045) (by omega), vcr_0 ht (by omega) (by omega)]; rfl
  · rw [vb5_0 (c := 3989) (by omega), vcr_f.2]; rfl
  · rw [vb5_0 (c := 3996) (by omega), vcr_0 ht (by omega) (by omega)]; rfl
  · rw [vb5_0 (c := 3975) (by omega), vcr_f.1]; rfl
  · exact b5
theorem b5_ts {x : Int32} (ht : t < 6) : ∀ e ∈ ts, (vb5 V t z k x a mode).1 (e.2 + t) = 0 := by
  intro e he
  have ep := ts_p e he
  have : ∀ e ∈ ts, e.2 ≠ 3975 ∧ e.2 ≠ 3989 ∧ e.2 ≠ 3926 ∧ e.2 ≠ 3933 ∧ e.2 ≠ 4066 ∧ e.2 ≠ 4052 ∧ e.2 ≠ 4059 := by decide
  have := this e he
  rw [vb5_0 (by omega), vcr_0 ht (by omega) (by omega)]
theorem c_b5 (h : RC b lim s V zs fr) (hx : CX b lim) (hI : VI lim B V) (ht : t < 6) (hid : Iid V t) {g id : Nat} {S S8 : wt_S} {x : Int32} (hR : RC b lim (wt_u S (b + 17 + 2 * t) 12 (nI id)) (vs (vps V (vins (g, z, t, 0) V.2.1)) (4066 + t) (nI (0 + 1))) zs' fr') (hc : ∀ c, c ≠ b + 17 + 2 * t → c ≠ b + 17 + 2 * t + 1 → S8 c = S c) (h0 : S8 (b + 17 + 2 * t) 0 = S (b + 17 + 2 * t) 0)
    (hT : ∀ j, 1 ≤ j → j ≤ 16 → j ≠ 14 → S8 (b + 17 + 2 * t) j = if j = 1 then 1 else if j = 2 then mode else if j = 15 then x else if j = 16 then a else if j = 12 then nI id else if j = 7 ∨ (9 ≤ j ∧ j ≤ 13) then -1 else 0) (hs : ∀ j, j < 12 → S8 (b + 17 + 2 * t + 1) j = 0) : RC b lim S8 (vb5 V t g z x a mode) zs' fr' := by
  have hb := hx.b
  have hj := hI.J
  have hmem := hid.2.2.2.2.2.2.2.2
  obtain ⟨b1, b2, b3, b4, b5⟩ := vb5_at (V := V) (t := t) (g := g) (z := z) (x := x) (a := a) (mode := mode)
  have hO0 : OT t V (vb5 V t g z x a mode) := OT.b5 ht
  have hOY : OT t V (vs (vps V (vins (g, z, t, 0) V.2.1)) (4066 + t) (nI (0 + 1))) := (OT.ins rfl).trans (OT.vs ht (vown_t (by omega)))
  have hO := hOY.symm.trans hO0
  have hY : ∀ i, i ≠ 4066 + t → (vs (vps V (vins (g, z, t, 0) V.2.1)) (4066 + t) (nI (0 + 1))).1 i = V.1 i := fun i hi => vs_ne hi
  have hpY := hj.1.ww hOY.1
  have hn0 : (vb5 V t g z x a mode).2.2.1 t = 0 := hid.1
  have e5 : S8 (b + 5) = (wt_u S (b + 17 + 2 * t) 12 (nI id)) (b + 5) := by rw [hc _ (by omega) (by omega), wt_u_ne (by omega)]
  have e6 : S8 (b + 6) = (wt_u S (b + 17 + 2 * t) 12 (nI id)) (b + 6) := by rw [hc _ (by omega) (by omega), wt_u_ne (by omega)]
  have hto : TO b t (wt_u S (b + 17 + 2 * t) 12 (nI id)) S8 := ⟨fun k hk hne => ⟨by rw [hc _ (by omega) (by omega), wt_u_ne (by omega)], by rw [hc _ (by omega) (by omega), wt_u_ne (by omega)]⟩, fun c hc' => by rw [hc _ (by omega) (by omega), wt_u_ne (by omega)]⟩
  have hVX : ∀ q ∈ (vb5 V t g z x a mode).2.1, q.2.2.1 = t → q.2.2.2 = 0 := fun q hq e => by
    rw [vb5_2] at hq
    rcases vins_mem.mp hq with rfl | hq
    · rfl
    · exact absurd e (hmem q hq)
  have hzz : ∀ y ∈ zs', y.1.2.2.1 = t → y.1.2.2.2 = 0 := fun y hy e => by
    have hin : y.1 ∈ zs'.map Prod.fst := List.mem_map.mpr ⟨y, hy, rfl⟩
    rw [hR.1] at hin
    exact hVX y.1 hin e
  refine hR.op hx hpY hO ht hto hj.vfr (fun _ _ => Iff.rfl) (fun y _ _ => by rw [e5, e6]; exact ⟨rfl, rfl⟩) hR.1 (hR.2.1.eq (fun c hc' => by rw [hc _ (by omega) (by omega), wt_u_ne (by omega)])) ⟨fun j hj => ?_, fun j hj => ?_⟩ ⟨⟨?_, fun e he => ?_, fun e he => ?_⟩, ⟨fun _ => ⟨?_, ?_⟩, fun h1 => by rw [hn0] at h1; omega⟩, ⟨fun e => ?_, fun y hy hyt hyn => ?_⟩, ⟨fun y hy h1 h2 => ?_, fun _ => ?_⟩, fun _ => ?_, fun y hy hyt => ?_⟩ ?_
  · have := hR.2.2.1.1 j hj
    rw [wt_u_ne (by omega), hY _ (by omega)] at this
    rw [hc _ (by omega) (by omega), vb5_ne ht (by omega)]; exact this
  · have := hR.2.2.1.2 j hj
    rw [wt_u_ne (by omega), hY _ (by omega)] at this
    rw [hc _ (by omega) (by omega), vb5_ne ht (by omega)]; exact this
  · have := (hR.2.2.2.1 t ht).1.1
    rw [wt_u_nk (by omega)] at this
    rw [h0]; exact this
  · have q : ∀ e ∈ tf, 1 ≤ e.1 ∧ e.1 ≤ 16 ∧ e.1 ≠ 14 ∧ e.1 ≠ 15 ∧ e.1 ≠ 12 ∧ ((e.1 = 7 ∨ (9 ≤ e.1 ∧ e.1 ≤ 13)) ↔ (e.1 = 7 ∨ e.1 = 9)) := by decide
    obtain ⟨q1, q2, q3, q4, q5, q6⟩ := q e he
    rw [hT _ q1 q2 q3, b5_tf ht e he]
    by_cases c1 : e.1 = 1
    · rw [if_pos c1, if_pos c1]
    rw [if_neg c1, if_neg c1]
    by_cases c2 : e.1 = 2
    · rw [if_pos c2, if_pos c2]
    rw [if_neg c2, if_neg c2, if_neg q4]
    by_cases c3 : e.1 = 16
    · rw [if_pos c3, if_pos c3]
    rw [if_neg c3, if_neg c3, if_neg q5]
    by_cases c4 : e.1 = 7 ∨ e.1 = 9
    · rw [if_pos c4, if_pos (q6.mpr c4)]
    · rw [if_neg c4, if_neg (fun r => c4 (q6.mp r))]
  · have q : ∀ e ∈ ts, e.1 < 12 := by decide
    rw [hs _ (q e he), b5_ts ht e he]
  · rw [hT _ (by omega) (by omega) (by omega), if_neg (by omega), if_neg (by omega), if_neg (by omega), if_neg (by omega), if_neg (by omega), if_pos (by omega)]
  · rw [hT _ (by omega) (by omega) (by omega), if_neg (by omega), if_neg (by omega), if_neg (by omega), if_neg (by omega), if_neg (by omega), if_pos (by omega)]
  · rw [b3] at e; exact absurd e (by decide)
  · rw [hT _ (by omega) (by omega) (by omega), if_neg (by omega), if_neg (by omega), if_neg (by omega), if_neg (by omega), if_pos (by omega)]
    have := (hR.2.2.2.1 t ht).2.2.1.2 y hy hyt (by rw [hzz y hy hyt, vs_at])
    rw [wt_u_self] at this
    exact this
  · have := hzz y hy h1
    omega
  · rw [hT _ (by omega) (by omega) (by omega), if_neg (by omega), if_neg (by omega), if_neg (by omega), if_neg (by omega), if_neg (by omega), if_pos (by omega)]
  · rw [hT _ (by omega) (by omega) (by omega), if_neg (by omega), if_neg (by omega), if_pos (by omega), b4]
  · obtain ⟨u1, u2, u3⟩ := (hR.2.2.2.1 t ht).2.2.2.2.2 y hy hyt
    rw [e5, e6]
    refine ⟨?_, u2, u3⟩
    rw [u1]
    show nI (vud _ (V.2.2.2 t) y.1.2.2.2 (V.2.2.1 t)) = nI (vud _ (V.2.2.2 t) y.1.2.2.2 (V.2.2.1 t))
    rw [hid.1]
    rfl
  · rw [hc _ (by omega) (by omega)]
    have hm := hR.2.2.2.2.1
    rw [wt_u_ne (by omega)] at hm
    exact fun t' ht' => MR_w (fun i i1 i2 => by rw [vb5_ne ht (by omega), hY _ (by omega)]) (hm t' ht')
theorem c_begin (h : RC b lim s V zs fr) (hx : CX b lim) (hI : VI lim B V) (ht : t < 6) (hid : Iid V t) (hf : f < 10) (hs1 : 1 ≤ vsz V.1 f) (hm : mode = 0 ∨ mode = 1) : ∃ s' zs' fr', gX2_begin b (b + 17 + 2 * t) s (nI f) a mode = some (rb ((vbg lim V t f a mode).1 = true), s') ∧ RC b lim s' (vbg lim V t f a mode).2 zs' fr' ∧ TO b t s s' := by
  have hb := hx.b
  have hxm := hx.m
  have hj := hI.J
  obtain ⟨z, hz, z2, z3, z4⟩ := hI.1.1
  have hzn : (V.1 2048).toInt.toNat = z := by rw [hz, nI_int (by omega)]; rfl
  have e0 : s (b + 1) 0 = nI z := (h.2.2.1.1 0 (by omega)).trans hz
  have et : s (b + 17 + 2 * t) 0 = nI t := (h.2.2.2.1 t ht).1.1
  have h12 : s (b + 17 + 2 * t) 12 = -1 := (h.2.2.2.1 t ht).2.2.1.1 hid.2.2.1
  have hmem := hid.2.2.2.2.2.2.2.2
  unfold gX2_begin vbg
  rw [hzn, e0, et]
  cases e : vgap lim 0 V.2.1 z with
  | none =>
    rw [(c_take h.2.1 (by rw [h.1]; exact hj.2.1) ⟨by omega, by omega⟩ hx.2.2).1 (by rw [h.1]; exact e), cl_some, if_neg (by simp)]
    exact ⟨s, zs, fr, by rw [rb_neg (by simp)], h, TO.refl⟩
  | some g =>
    dsimp only
    have hlen : zs.length < 256 := by
      have := Vlen hj.2.1 (fun q hq => by have := hI.2.2.1.2.2 q hq; omega) z2 z4 (Nat.le_refl z) e
      rw [← h.1, List.length_map] at this
      exact this
    obtain ⟨id, s1, zs1, fr1, a1, a2, a3, a4⟩ := c_new h hx hj ht (n := 0) (words := z) (g := g) hid.2.2.1 (by omega) (fun q hq e => absurd e (hmem q hq)) (fun i hi => by rw [hid.1] at hi; omega) ⟨by omega, by omega⟩ hlen e
    rw [h12] at a1
    obtain ⟨s3, c1, c2, c3, c4⟩ := c_clear (s := s1) (T := b + 17 + 2 * t)
    rw [a1, cl_some, if_pos (nI_m1 (by omega)), c1, cl_some, wr_eq, wr_eq, wr_eq, wr_eq, wr_eq]
    obtain ⟨hP, hsd⟩ := b5_pre (a := a) (x := nI f) hI hx.2.2 ht hid hz (by omega) e hm
    have hO0 : OT t V (vb5 V t g z (nI f) a mode) := OT.b5 ht
    generalize hS8 : wt_u (wt_u (wt_u (wt_u (wt_u s3 (b + 17 + 2 * t) 1 1) (b + 17 + 2 * t) 2 mode) (b + 17 + 2 * t) 15 (nI f)) (b + 17 + 2 * t) 16 a) (b + 17 + 2 * t) 12 (nI id) = S8
    have f8 : ∀ c, c ≠ b + 17 + 2 * t → S8 c = s3 c := fun c hc => by rw [← hS8, wt_u_ne hc, wt_u_ne hc, wt_u_ne hc, wt_u_ne hc, wt_u_ne hc]
    have f8T : S8 (b + 17 + 2 * t) = mj_upd (mj_upd (mj_upd (mj_upd (mj_upd (clr (s1 (b + 17 + 2 * t))) 1 1) 2 mode) 15 (nI f)) 16 a) 12 (nI id) := by rw [← hS8, wt_u_at, wt_u_at, wt_u_at, wt_u_at, wt_u_at, c3]
    have hR8 : RC b lim S8 (vb5 V t g z (nI f) a mode) zs1 fr1 := by
      refine c_b5 h hx hI ht hid a3 (fun c h1 h2 => by rw [f8 c h1, c2 c h1 h2]) ?_ (fun j j1 j2 j3 => ?_) (fun j hj => by rw [f8 _ (by omega)]; exact c4 j hj)
      · rw [f8T, mj_upd_ne (by omega), mj_upd_ne (by omega), mj_upd_ne (by omega), mj_upd_ne (by omega), mj_upd_ne (by omega)]
        unfold clr
        rw [if_pos (by omega)]
      · rw [f8T]
        by_cases d1 : j = 1
        · subst d1; rw [if_pos rfl, mj_upd_ne (by omega), mj_upd_ne (by omega), mj_upd_ne (by omega), mj_upd_ne (by omega), mj_upd_self]
        rw [if_neg d1]
        by_cases d2 : j = 2
        · subst d2; rw [if_pos rfl, mj_upd_ne (by omega), mj_upd_ne (by omega), mj_upd_ne (by omega), mj_upd_self]
        rw [if_neg d2]
        by_cases d3 : j = 15
        · subst d3; rw [if_pos rfl, mj_upd_ne (by omega), mj_upd_ne (by omega), mj_upd_self]
        rw [if_neg d3]
        by_cases d4 : j = 16
        · subst d4; rw [if_pos rfl, mj_upd_ne (by omega), mj_upd_self]
        rw [if_neg d4]
        by_cases d5 : j = 12
        · subst d5; rw [if_pos rfl, mj_upd_self]
        rw [if_neg d5, mj_upd_ne d5, mj_upd_ne d4, mj_upd_ne d3, mj_upd_ne d2, mj_upd_ne d1]
        unfold clr
        rw [if_neg (by omega)]
        by_cases d6 : j = 7 ∨ (9 ≤ j ∧ j ≤ 13)
        · rw [if_pos d6, if_pos (by omega)]
        · rw [if_neg d6, if_neg (by omega)]
    have hto8 : TO b t s S8 := (TO.pf a4).trans ⟨fun k hk hne => ⟨by rw [f8 _ (by omega), c2 _ (by omega) (by omega)], by rw [f8 _ (by omega), c2 _ (by omega) (by omega)]⟩, fun c hc => by rw [f8 _ (by omega), c2 _ (by omega) (by omega)]⟩
    obtain ⟨b1, b2, b3, b4, b5⟩ := vb5_at (V := V) (t := t) (g := g) (z := z) (x := nI f) (a := a) (mode := mode)
    obtain ⟨k, k1, k2⟩ := hI.2.2.2.2.1
    obtain ⟨z5, y1, y2, y3⟩ := hI.1.2.2.2.1
    have hbp : (vb5 V t g z (nI f) a mode).1 (2238 + f) = V.1 (2238 + f) := vb5_ne ht (by omega)
    have hn0 : (vb5 V t g z (nI f) a mode).2.2.1 t = 0 := hid.1
    have h89 : (vb5 V t g z (nI f) a mode).1 (3989 + t) = -1 := by rw [vb5_0 (c := 3989) (by omega)]; exact vcr_f.2
    have hs2 : 1 ≤ vsz (vb5 V t g z (nI f) a mode).1 f := by rw [(hO0.1.sz hf).1]; exact hs1
    have hk8 : (vb5 V t g z (nI f) a mode).1 2067 = nI k := (vb5_ne ht (by omega)).trans k2
    obtain ⟨s9, zs9, fr9, r1, r2, r3⟩ := c_room hR8 hx hP hf hs2 (by rw [vb5_ne ht (by omega)]; exact hI.1.2.2.1) ((vb5_ne ht (by omega)).trans y1) y3 hk8 (by rw [b1]; decide) (Or.inl h89)
    generalize vb5 V t g z (nI f) a mode = X at *
    have hvl : ¬ vlc X t = true := by unfold vlc; rw [hn0]; simp
    rw [if_neg hvl] at r1 r2
    have hnc : ∀ i, i < X.2.2.1 t → ¬ vcv (X.2.2.2 t i) := fun i hi => by rw [hn0] at hi; omega
    obtain ⟨v1, v2, -⟩ := vrm_inv hP hf hs2 hk8 hnc
    rw [r1, cl_some]
    unfold vcl
    rw [if_neg hvl]
    generalize hres : vrm lim X t f = res at *
    obtain ⟨bb, V1⟩ := res
    cases bb with
    | false =>
      exact ⟨s9, zs9, fr9, by rw [rb_pos rfl]; rfl, r2, hto8.trans r3⟩
    | true =>
      obtain ⟨q1, q2, q3, -, q5, np2, q6, q7⟩ := v1 rfl
      have r2 : RC b lim s9 V1 zs9 fr9 := r2
      have q1 : VJ lim V1 := q1
      have q6 : Icn V1 t np2 := q6
      have q7 : vud X.1 (X.2.2.2 t) (np2 - 1) (X.2.2.1 t) + vnd X.1 f ≤ vln V1.2.1 t (np2 - 1) := q7
      have hnd := vnd_ge (w := X.1) hP.1.1 hf
      have hw : vpe X.1 V1.1 := fun i hi => q5 i (fun q => by unfold vrs vgs at q; omega)
      have hud := (hw.us (fr := X.2.2.2 t) (n := X.2.2.1 t) (k := np2 - 1) (fun i hi => by rw [hn0] at hi; omega)).2
      have hr : vud V1.1 (V1.2.2.2 t) (np2 - 1) (V1.2.2.1 t) + vwd V1.1 f ≤ vln V1.2.1 t (np2 - 1) := by
        rw [show V1.2.2.2 = X.2.2.2 by rw [q2], show V1.2.2.1 = X.2.2.1 by rw [q2], hud, (hw.sz hf).2.1]
        omega
      have hs3 : 1 ≤ vsz V1.1 f := by rw [(hw.sz hf).1]; exact hs2
      have hfree := (q6.free (f := f) q1 ht hr).1
      have hwf : vwd V1.1 f = vsz V1.1 f + 2 := rfl
      have key : ∀ cvn, cvn ≤ 1024 → ∃ s', (if nI cvn = ((-1) : Int32) then some (1, s9) else (wt_cl (gX2_pushFrame b (b + 17 + 2 * t) s9 (nI f) (nI cvn)) fun _ s11 => (wt_cl (gX6_isPointer 5 s11 (nI f) 0) fun v13 s12 => (if v13 ≠ (0 : Int32) then some (1, s12) else (wt_cl (gX3_put b s12 ((s12 (b + 17 + 2 * t) 11) + 2) a) fun _ s14 => some (1, s14)))))) = some ((1 : Int32), s') ∧ RC b lim s' (vpu V1 t f (0 + cvn) (if bt (V.1 (2238 + f)) 0 then 0 else a) none) zs9 fr9 ∧ TO b t s9 s' := fun cvn hcv => by
        obtain ⟨s11, id, p1, p2, p3, p4⟩ := c_pushP (bw := nI cvn) r2 hx q1 q6 ht hf hr
        have hRP1 : RP 5 s11 V1.1 := r2.2.2.2.2.2.eq q1.1 vpe.refl (fun c c1 c2 => p4.1 c (by omega) (by omega) (by omega))
        have e11' : s11 (b + 17 + 2 * t) 11 = nI (vnx V1 t) := p4.2.2.2.2.2.2.2.2.2.1
        have hbt : V1.1 (2238 + f) = V.1 (2238 + f) := (hw.sz hf).2.2.2.trans hbp
        rw [Nat.zero_add, if_neg (nI_m1 (by omega)), p2, cl_some, c_isPointer0 hRP1 hf, cl_some, if_rbn, hbt]
        have hvs : vsw V1.1 (vpl V1 t) (vfn V1 t f cvn (if bt (V.1 (2238 + f)) 0 then 0 else a) none) 0 = if bt (V.1 (2238 + f)) 0 then -1 else a := by
          unfold vsw
          show (if bt (V1.1 (2238 + f)) 0 then (match (if (0 : Nat) = 0 then (none : Option (Nat × Nat)) else none) with | none => (-1 : Int32) | some q => nI (vpl V1 t q.1 + 2 + q.2)) else (if (0 : Nat) = 0 then (if bt (V.1 (2238 + f)) 0 then 0 else a) else 0)) = _
          rw [hbt]
          by_cases c : bt (V.1 (2238 + f)) 0
          · rw [if_pos c, if_pos c]; rfl
          · rw [if_neg c, if_neg c, if_pos rfl, if_neg c]
        by_cases c : bt (V.1 (2238 + f)) 0
        · simp only [if_pos c] at hvs ⊢
          have hz := p4.2.2.2.2.1 0 (by omega)
          unfold vdf at hz
          rw [hbt, if_pos c] at hz
          obtain ⟨t1, t2⟩ := c_pu (s2 := s11) (bk := cvn) (a := 0) (q := none) r2 hx q1 q6 ht hf hs3 hr p3 p4 (fun _ _ => rfl) (fun _ _ => rfl) (hz.trans hvs.symm) (fun p hp => by cases hp)
          exact ⟨s11, rfl, t1, t2⟩
        · simp only [if_neg c] at hvs ⊢
          rw [e11', show nI (vnx V1 t) + 2 = nI (vnx V1 t + 2) from nI_add _ 2, c_put (by omega), cl_some]
          obtain ⟨t1, t2⟩ := c_pu (s2 := wt_u s11 (b + 15) (vnx V1 t + 2) a) (bk := cvn) (a := a) (q := none) r2 hx q1 q6 ht hf hs3 hr p3 p4 (fun c hc => wt_u_ne hc) (fun x hx => wt_u_nk hx) (by rw [wt_u_self]; exact hvs.symm) (fun p hp => by cases hp)
          exact ⟨_, rfl, t1, t2⟩
      simp only [if_true]
      by_cases cm : vmg X.1 f = true
      · simp only [if_pos cm]
        obtain ⟨s', e1, e2, e3⟩ := key 1024 (by omega)
        exact ⟨s', zs9, fr9, e1, e2, (hto8.trans r3).trans e3⟩
      · simp only [if_neg cm]
        obtain ⟨s', e1, e2, e3⟩ := key 0 (by omega)
        exact ⟨s', zs9, fr9, e1, e2, (hto8.trans r3).trans e3⟩
theorem wl_bg (hI : VI lim B V) (hlm : lim ≤ 10000) (ht : t < 6) (hid : Iid V t) (hf : f < 10) (hs1 : 1 ≤ vsz V.1 f) (hm : mode = 0 ∨ mode = 1) : WL (vbg lim V t f a mode).2 t := by
  obtain ⟨z, hz, z2, z3, z4⟩ := hI.1.1
  have hzn : (V.1 2048).toInt.toNat = z := by rw [hz, nI_int (by omega)]; rfl
  unfold vbg
  rw [hzn]
  cases e : vgap lim 0 V.2.1 z with
  | none =>
    refine WL.no ?_
    show V.1 (3926 + t) ≠ 2
    rcases hid.2.2.2.2.2.2.2.1 with g | g | g <;> rw [g] <;> decide
  | some g =>
    obtain ⟨hP, hsd⟩ := b5_pre (a := a) (x := nI f) hI hlm ht hid hz (by omega) e hm
    obtain ⟨k, k1, k2⟩ := hI.2.2.2.2.1
    have hO0 : OT t V (vb5 V t g z (nI f) a mode) := OT.b5 ht
    have := vcl_26 (bk := 0) (h2 := (if bt (V.1 (2238 + f)) 0 then 0 else a, none)) hP hf (by rw [(hO0.1.sz hf).1]; exact hs1) ((vb5_ne ht (by omega)).trans k2)
    rw [vb5_at.1] at this
    exact WL.no (by rcases this with e | e <;> rw [e] <;> decide)
end
end
section
/-! ===== the class: all old pieces of a task go, the new one (number 5000) stays ===== -/
section
variable {b lim : Nat} {s s' : wt_S} {V V' : vV} {zs zs' : List (vP × Nat)} {fr fr' : List Nat} {t np z need g words : Nat}
/-- the pieces from a number on have gone -/
def vPe5 (t m : Nat) (q : vP) : Bool := decide (¬ (q.2.2.1 = t ∧ m ≤ q.2.2.2 ∧ q.2.2.2 ≠ 1000 ∧ q.2.2.2 ≠ 5000))
theorem c_rel5_loop {ps : List vP} (hx : CX b lim) (hm : zs.map Prod.fst = ps) (ho : vo lim ps) (hu : ps.Pairwise (fun p q => ¬ (p.2.2.1 = q.2.2.1 ∧ p.2.2.2 = q.2.2.2))) (hit : (∀ k, k < np → ∃ q ∈ ps, q.2.2.1 = t ∧ q.2.2.2 = k) ∧ ∀ q ∈ ps, q.2.2.1 = t → q.2.2.2 < np ∨ q.2.2.2 = 1000 ∨ q.2.2.2 = 5000) (hnp : np ≤ 256) (hch : Ch b s zs t np) : ∀ (m i fu : Nat) (s1 : wt_S) (zs1 : List (vP × Nat)) (fr1 : List Nat) (p : Int32), m ≤ np → i + m ≤ 256 → m < fu → PC b lim s1 zs1 fr1 → zs1.map Prod.fst = ps.filter (vPe5 t m) → (∀ y, y ∈ zs1 ↔ y ∈ zs ∧ vPe5 t m y.1 = true) → PF b s s1 → s1 (b + 5) = s (b + 5) → s1 (b + 6) = s (b + 6) → (m = 0 → p = -1) → (∀ z ∈ zs, z.1.2.2.1 = t → z.1.2.2.2 + 1 = m → p = nI z.2) →
    ∃ s2 zs2 fr2, gX9_releasePieces_7 b (b + 17 + 2 * t) fu s1 p (nI i) = gX9_releasePieces_42 b (b + 17 + 2 * t) s2 ∧ PC b lim s2 zs2 fr2 ∧ zs2.map Prod.fst = ps.filter (vPe5 t 0) ∧ (∀ y, y ∈ zs2 ↔ y ∈ zs ∧ vPe5 t 0 y.1 = true) ∧ PF b s s2 ∧ s2 (b + 5) = s (b + 5) ∧ s2 (b + 6) = s (b + 6) := by
  have hb := hx.b
  intro m
  induction m with
  | zero =>
    intro i fu s1 zs1 fr1 p _ him hf h1 h2 h3 h4 h5 h6 h7 _
    obtain ⟨fu, rfl⟩ : ∃ k, fu = k + 1 := ⟨fu - 1, by omega⟩
    refine ⟨s1, zs1, fr1, ?_, h1, h2, h3, h4, h5, h6⟩
    rw [gX9_releasePieces_7, h7 rfl]
    by_cases c : (256 : Int32).toInt ≤ (nI i).toInt
    · rw [if_pos c]
    · rw [if_neg c, if_pos rfl]
  | succ m ih =>
    intro i fu s1 zs1 fr1 p hmn him hf h1 h2 h3 h4 h5 h6 _ h8
    obtain ⟨fu, rfl⟩ : ∃ k, fu = k + 1 := ⟨fu - 1, by omega⟩
    have hu1 : (zs1.map Prod.fst).Pairwise (fun p q => ¬ (p.2.2.1 = q.2.2.1 ∧ p.2.2.2 = q.2.2.2)) := by rw [h2]; exact hu.sublist List.filter_sublist
    have ho1 : vo lim (zs1.map Prod.fst) := by rw [h2]; exact vo_sub ho List.filter_sublist
    obtain ⟨q, q1, q2, q3⟩ := hit.1 m (by omega)
    obtain ⟨z0, z0m, z0q⟩ : ∃ z ∈ zs, z.1 = q := by rw [← hm] at q1; obtain ⟨z, hz, e⟩ := List.mem_map.mp q1; exact ⟨z, hz, e⟩
    have z0t : z0.1.2.2.1 = t := by rw [z0q]; exact q2
    have z0n : z0.1.2.2.2 = m := by rw [z0q]; exact q3
    have z0m1 : z0 ∈ zs1 := (h3 z0).mpr ⟨z0m, by unfold vPe5; rw [decide_eq_true_eq]; omega⟩
    obtain ⟨x, z, x1, x2, x3, x4, -, -, x5, x6⟩ := zfind (t := t) (n := m) (rfl : zs1.map Prod.fst = _) hu1 ⟨z0.1, List.mem_map.mpr ⟨z0, z0m1, rfl⟩, z0t, z0n⟩
    have hzz : z = z0 := zuniq (rfl : zs1.map Prod.fst = _) hu1 x2 z0m1 (x3.trans z0t.symm) (x4.trans z0n.symm)
    subst hzz
    have hid := (h1.mem x2).1
    have hp := h8 z z0m x3 (by omega)
    obtain ⟨s2, g1, g2, g3, g4, g5, g6⟩ := c_give h1 ho1 hx.2.2 x1
    have hc := hch.2.2 z z0m x3
    have hfil : (zs1.eraseIdx x).map Prod.fst = ps.filter (vPe5 t m) := by
      rw [x5, h2, List.filter_filter]
      refine List.filter_congr (fun q _ => ?_)
      unfold vPe5 vkey
      rw [Bool.eq_iff_iff, Bool.and_eq_true, Bool.not_eq_true', decide_eq_false_iff_not, decide_eq_true_eq, decide_eq_true_eq]
      omega
    have hmem : ∀ y, y ∈ zs1.eraseIdx x ↔ y ∈ zs ∧ vPe5 t m y.1 = true := fun y => by
      rw [x6, h3]
      unfold vPe5
      rw [decide_eq_true_eq, decide_eq_true_eq]
      constructor
      · rintro ⟨⟨a1, a2⟩, a3⟩; exact ⟨a1, by omega⟩
      · rintro ⟨a1, a2⟩; exact ⟨⟨a1, by omega⟩, by omega⟩
    have e6 : s2 (b + 6) = s (b + 6) := by rw [g4, h6]
    rw [gX9_releasePieces_7, hp, if_neg (c_hi (by omega)), if_neg (nI_m1 (by omega)), g1, cl_some, c_belowOf hid, cl_some, e6, show nI i + 1 = nI (i + 1) from nI_add i 1]
    refine ih (i + 1) fu s2 (zs1.eraseIdx x) (z.2 :: fr1) (s (b + 6) z.2) (by omega) (by omega) (by omega) g2 hfil hmem (h4.trans g6) (by rw [g3, h5]) e6 (fun e => hc.1 (by omega)) (fun y hy hyt hyn => hc.2 y hy hyt (by omega))
theorem c_rel5 {ps : List vP} (hx : CX b lim) (ht : t < 6) (hP : PC b lim s zs fr) (hm : zs.map Prod.fst = ps) (ho : vo lim ps) (hu : ps.Pairwise (fun p q => ¬ (p.2.2.1 = q.2.2.1 ∧ p.2.2.2 = q.2.2.2))) (hit : (∀ k, k < np → ∃ q ∈ ps, q.2.2.1 = t ∧ q.2.2.2 = k) ∧ ∀ q ∈ ps, q.2.2.1 = t → q.2.2.2 < np ∨ q.2.2.2 = 1000 ∨ q.2.2.2 = 5000) (hnp : np ≤ 256) (hch : Ch b s zs t np) : ∃ s' zs' fr', gX9_releasePieces b (b + 17 + 2 * t) s = some ((), s') ∧ PC b lim s' zs' fr' ∧ zs'.map Prod.fst = ps.filter (fun q => decide (q.2.2.1 ≠ t ∨ q.2.2.2 = 5000)) ∧ (∀ y, y ∈ zs' ↔ y ∈ zs ∧ (y.1.2.2.1 ≠ t ∨ y.1.2.2.2 = 5000)) ∧ s' (b + 5) = s (b + 5) ∧ s' (b + 6) = s (b + 6) ∧ (∀ c, ¬ (b + 2 ≤ c ∧ c ≤ b + 9) → c ≠ b + 17 + 2 * t → s' c = s c) ∧ s' (b + 17 + 2 * t) = mj_upd (s (b + 17 + 2 * t)) 13 (-1) := by
  have hb := hx.b
  have hall : ∀ y ∈ zs, vPe5 t np y.1 = true := fun y hy => by
    unfold vPe5
    rw [decide_eq_true_eq]
    intro c
    have := hit.2 y.1 (by rw [← hm]; exact List.mem_map.mpr ⟨y, hy, rfl⟩) c.1
    omega
  have hfil : zs.map Prod.fst = ps.filter (vPe5 t np) := by
    rw [← hm, List.filter_eq_self.mpr (fun q hq => ?_)]
    obtain ⟨y, hy, rfl⟩ := List.mem_map.mp hq
    exact hall y hy
  obtain ⟨s2, zs2, fr2, a1, a2, a3, a4, a5, a6, a7⟩ := c_rel5_loop hx hm ho hu hit hnp hch np 0 wt_N s zs fr (s (b + 17 + 2 * t) 12) (Nat.le_refl _) (by omega) (by unfold wt_N; omega) hP hfil (fun y => ⟨fun q => ⟨q, hall y q⟩, fun q => q.1⟩) PF.refl rfl rfl hch.1.1 hch.1.2
  unfold gX9_releasePieces
  rw [show (0 : Int32) = nI 0 from rfl, a1]
  unfold gX9_releasePieces_42
  have hT2 : s2 (b + 17 + 2 * t) = s (b + 17 + 2 * t) := a5 _ (by omega)
  rw [hT2]
  have ho2 : vo lim (zs2.map Prod.fst) := by rw [a3]; exact vo_sub ho List.filter_sublist
  by_cases c : ∃ z ∈ zs, z.1.2.2.1 = t ∧ z.1.2.2.2 = 1000
  · obtain ⟨z0, z0m, z0t, z0n⟩ := c
    have hu2 : (zs2.map Prod.fst).Pairwise (fun p q => ¬ (p.2.2.1 = q.2.2.1 ∧ p.2.2.2 = q.2.2.2)) := by rw [a3]; exact hu.sublist List.filter_sublist
    have z02 : z0 ∈ zs2 := (a4 z0).mpr ⟨z0m, by unfold vPe5; rw [decide_eq_true_eq]; omega⟩
    obtain ⟨x, z, x1, x2, x3, x4, -, -, x5, x6⟩ := zfind (t := t) (n := 1000) (rfl : zs2.map Prod.fst = _) hu2 ⟨z0.1, List.mem_map.mpr ⟨z0, z02, rfl⟩, z0t, z0n⟩
    have hzz : z = z0 := zuniq (rfl : zs2.map Prod.fst = _) hu2 x2 z02 (x3.trans z0t.symm) (x4.trans z0n.symm)
    subst hzz
    obtain ⟨s3, g1, g2, g3, g4, g5, g6⟩ := c_give a2 ho2 hx.2.2 x1
    rw [hch.2.1.1 z z0m x3 x4, g1, cl_some, wr_eq]
    refine ⟨_, zs2.eraseIdx x, z.2 :: fr2, rfl, g2.eq (fun c hc => wt_u_ne (by omega)), ?_, fun y => ?_, by rw [wt_u_ne (by omega), g3, a6], by rw [wt_u_ne (by omega), g4, a7], fun c h1 h2 => by rw [wt_u_ne h2, g6 c h1, a5 c h1], by rw [wt_u_at, g6 _ (by omega), hT2]⟩
    · rw [x5, a3, List.filter_filter]
      refine List.filter_congr (fun q hq => ?_)
      unfold vPe5 vkey
      rw [Bool.eq_iff_iff, Bool.and_eq_true, Bool.not_eq_true', decide_eq_false_iff_not, decide_eq_true_eq, decide_eq_true_eq]
      omega
    · rw [x6, a4]
      unfold vPe5
      rw [decide_eq_true_eq]
      constructor
      · rintro ⟨⟨b1, b2⟩, b3⟩; exact ⟨b1, by omega⟩
      · rintro ⟨b1, b2⟩; exact ⟨⟨b1, by omega⟩, by omega⟩
  · have hno : ∀ z ∈ zs, ¬ (z.1.2.2.1 = t ∧ z.1.2.2.2 = 1000) := fun z hz hq => c ⟨z, hz, hq⟩
    rw [hch.2.1.2 hno, c_give_m a2 ho2 hx.2.2, cl_some, wr_eq]
    refine ⟨_, zs2, fr2, rfl, a2.eq (fun c hc => wt_u_ne (by omega)), ?_, fun y => ?_, by rw [wt_u_ne (by omega), a6], by rw [wt_u_ne (by omega), a7], fun c h1 h2 => by rw [wt_u_ne h2, a5 c h1], by rw [wt_u_at, hT2]⟩
    · rw [a3]
      refine List.filter_congr (fun q hq => ?_)
      rw [← hm] at hq
      obtain ⟨y, hy, rfl⟩ := List.mem_map.mp hq
      have := hno y hy
      unfold vPe5
      rw [Bool.eq_iff_iff, decide_eq_true_eq, decide_eq_true_eq]
      omega
    · rw [a4]
      unfold vPe5
      rw [decide_eq_true_eq]
      constructor
      · rintro ⟨b1, b2⟩
        have := hno y b1
        exact ⟨b1, by omega⟩
      · rintro ⟨b1, b2⟩; exact ⟨b1, by omega⟩

/-- where they are to come -/
theorem c_aim_loop {ps : List vP} {U : Nat → Nat} {l2 : Int32} (hP : PC b lim s zs fr) (hm : zs.map Prod.fst = ps) (hu : ps.Pairwise (fun p q => ¬ (p.2.2.1 = q.2.2.1 ∧ p.2.2.2 = q.2.2.2))) (hit : ∀ k, k < np → ∃ q ∈ ps, q.2.2.1 = t ∧ q.2.2.2 = k) (hnp : np ≤ 256) (hch : Ch b s zs t np) (hU : ∀ y ∈ zs, y.1.2.2.1 = t → y.1.2.2.2 < np → s (b + 5) y.2 = nI (U y.1.2.2.2)) : ∀ (m i fu : Nat) (s1 : wt_S) (p : Int32), m ≤ np → i + m ≤ 256 → m < fu → (∀ c, c ≠ b + 9 → s1 c = s c) → (∀ y ∈ zs, y.1.2.2.1 = t → m ≤ y.1.2.2.2 → y.1.2.2.2 < np → s1 (b + 9) y.2 = nI (g + vsum U y.1.2.2.2) - nI y.1.1) → (m = 0 → p = -1) → (∀ y ∈ zs, y.1.2.2.1 = t → y.1.2.2.2 + 1 = m → p = nI y.2) →
    ∃ s2, gX4_joinPieces_60 b (b + 17 + 2 * t) fu s1 l2 (nI (g + vsum U m)) p (nI i) = gX4_joinPieces_113 b (b + 17 + 2 * t) s2 l2 ∧ (∀ c, c ≠ b + 9 → s2 c = s c) ∧ ∀ y ∈ zs, y.1.2.2.1 = t → y.1.2.2.2 < np → s2 (b + 9) y.2 = nI (g + vsum U y.1.2.2.2) - nI y.1.1 := by
  intro m
  induction m with
  | zero =>
    intro i fu s1 p _ him hf h1 h2 h7 _
    obtain ⟨fu, rfl⟩ : ∃ k, fu = k + 1 := ⟨fu - 1, by omega⟩
    refine ⟨s1, ?_, h1, fun y hy hyt hyn => h2 y hy hyt (Nat.zero_le _) hyn⟩
    rw [gX4_joinPieces_60, h7 rfl]
    by_cases c : (256 : Int32).toInt ≤ (nI i).toInt
    · rw [if_pos c]
    · rw [if_neg c, if_pos rfl]
  | succ m ih =>
    intro i fu s1 p hmn him hf h1 h2 _ h8
    obtain ⟨fu, rfl⟩ : ∃ k, fu = k + 1 := ⟨fu - 1, by omega⟩
    obtain ⟨-, y, -, y2, y3, y4, -⟩ := zfind (t := t) (n := m) hm hu (hit m (by omega))
    have hid := (hP.mem y2).1
    have hpl := (hP.mem y2).2.1
    have hp := h8 y y2 y3 (by omega)
    have hc := hch.2.2 y y2 y3
    have e5 : s1 (b + 5) y.2 = nI (U m) := by rw [h1 _ (by omega), hU y y2 y3 (by omega), y4]
    have e3 : s1 (b + 3) y.2 = nI y.1.1 := by rw [h1 _ (by omega)]; exact hpl
    have hsub : nI (g + vsum U (m + 1)) - nI (U m) = nI (g + vsum U m) := by
      rw [nI_sub (by rw [vsum]; omega), show g + vsum U (m + 1) - U m = g + vsum U m by rw [vsum]; omega]
    rw [gX4_joinPieces_60, hp, if_neg (c_hi (by omega)), if_neg (nI_m1 (by omega)), c_usedOf hid, cl_some, e5, hsub, c_aimAt hid, cl_some, e3, c_belowOf hid, cl_some, wt_u_ne (show b + 6 ≠ b + 9 by omega), h1 (b + 6) (by omega), show nI i + 1 = nI (i + 1) from nI_add i 1]
    refine ih (i + 1) fu (wt_u s1 (b + 9) y.2 (nI (g + vsum U m) - nI y.1.1)) (s (b + 6) y.2) (by omega) (by omega) (by omega) (fun c hc => by rw [wt_u_ne hc]; exact h1 c hc) (fun x hx hxt hxm hxn => ?_) (fun e => hc.1 (by omega)) (fun x hx hxt hxn => hc.2 x hx hxt (by omega))
    by_cases e : x.1.2.2.2 = m
    · have hxy : x = y := zuniq hm hu hx y2 (hxt.trans y3.symm) (e.trans y4.symm)
      subst hxy
      rw [wt_u_self, e]
    · rw [wt_u_nk (fun q => e (by rw [hP.inj hx y2 q]; exact y4))]
      exact h2 x hx hxt (by omega) hxn
/-- they come over, one by one -/
theorem c_over_loop {ps : List vP} {U : Nat → Nat} {l2 : Int32} (hx : CX b lim) (hP : PC b lim s zs fr) (hm : zs.map Prod.fst = ps) (hu : ps.Pairwise (fun p q => ¬ (p.2.2.1 = q.2.2.1 ∧ p.2.2.2 = q.2.2.2))) (hit : ∀ k, k < np → ∃ q ∈ ps, q.2.2.1 = t ∧ q.2.2.2 = k) (hnp : np ≤ 256) (hch : Ch b s zs t np) (hU : ∀ y ∈ zs, y.1.2.2.1 = t → y.1.2.2.2 < np → s (b + 5) y.2 = nI (U y.1.2.2.2)) (hS : ∀ y ∈ zs, y.1.2.2.1 = t → y.1.2.2.2 < np → s (b + 9) y.2 = nI (g + vsum U y.1.2.2.2) - nI y.1.1)
    (hd : ∀ y ∈ zs, y.1.2.2.1 = t → y.1.2.2.2 < np → y.1.1 + U y.1.2.2.2 ≤ lim ∧ (g + vsum U np ≤ y.1.1 ∨ y.1.1 + U y.1.2.2.2 ≤ g)) (hg : g + vsum U np ≤ lim) : ∀ (m i fu : Nat) (s1 : wt_S) (p : Int32), m ≤ np → i + m ≤ 256 → m < fu → (∀ c, c ≠ b + 15 → s1 c = s c) → (∀ x, x < g ∨ g + vsum U np ≤ x → s1 (b + 15) x = s (b + 15) x) → (∀ y ∈ zs, y.1.2.2.1 = t → m ≤ y.1.2.2.2 → y.1.2.2.2 < np → ∀ j, j < U y.1.2.2.2 → s1 (b + 15) (g + vsum U y.1.2.2.2 + j) = s (b + 15) (y.1.1 + j)) → (m = 0 → p = -1) → (∀ y ∈ zs, y.1.2.2.1 = t → y.1.2.2.2 + 1 = m → p = nI y.2) →
    ∃ s2, gX4_joinPieces_127 b (b + 17 + 2 * t) fu s1 l2 p (nI i) = gX4_joinPieces_164 b (b + 17 + 2 * t) s2 l2 ∧ (∀ c, c ≠ b + 15 → s2 c = s c) ∧ (∀ x, x < g ∨ g + vsum U np ≤ x → s2 (b + 15) x = s (b + 15) x) ∧ ∀ y ∈ zs, y.1.2.2.1 = t → y.1.2.2.2 < np → ∀ j, j < U y.1.2.2.2 → s2 (b + 15) (g + vsum U y.1.2.2.2 + j) = s (b + 15) (y.1.1 + j) := by
  have hxm := hx.m
  intro m
  induction m with
  | zero =>
    intro i fu s1 p _ him hf h1 h2 h3 h7 _
    obtain ⟨fu, rfl⟩ : ∃ k, fu = k + 1 := ⟨fu - 1, by omega⟩
    refine ⟨s1, ?_, h1, h2, fun y hy hyt hyn => h3 y hy hyt (Nat.zero_le _) hyn⟩
    rw [gX4_joinPieces_127, h7 rfl]
    by_cases c : (256 : Int32).toInt ≤ (nI i).toInt
    · rw [if_pos c]
    · rw [if_neg c, if_pos rfl]
  | succ m ih =>
    intro i fu s1 p hmn him hf h1 h2 h3 _ h8
    obtain ⟨fu, rfl⟩ : ∃ k, fu = k + 1 := ⟨fu - 1, by omega⟩
    obtain ⟨-, y, -, y2, y3, y4, -⟩ := zfind (t := t) (n := m) hm hu (hit m (by omega))
    have hid := (hP.mem y2).1
    have hpl := (hP.mem y2).2.1
    have hp := h8 y y2 y3 (by omega)
    have hc := hch.2.2 y y2 y3
    have e5 : s1 (b + 5) y.2 = nI (U m) := by rw [h1 _ (by omega), hU y y2 y3 (by omega), y4]
    have e3 : s1 (b + 3) y.2 = nI y.1.1 := by rw [h1 _ (by omega)]; exact hpl
    have e9 : s1 (b + 9) y.2 = nI (g + vsum U m) - nI y.1.1 := by rw [h1 _ (by omega), hS y y2 y3 (by omega), y4]
    obtain ⟨d1, d2⟩ := hd y y2 y3 (by omega)
    rw [y4] at d1 d2
    have hmo : vsum U (m + 1) ≤ vsum U np := vsum_mono (by omega)
    have hv1 : vsum U (m + 1) = vsum U m + U m := rfl
    obtain ⟨s4, b1, b2, b3, b4⟩ := c_bring (s := s1) (b := b) (from' := y.1.1) (to := g + vsum U m) (u := U m) hx (by omega) (by omega)
    have hbr : gX4_bringOver b s1 (nI y.2) = some ((), s4) := by
      unfold gX4_bringOver
      rw [c_placeOf hid, cl_some, c_shiftOf hid, cl_some, c_usedOf hid, cl_some, e3, e9, e5, nI_turn (Nat.le_refl _), Nat.sub_self, Nat.add_zero, b1, cl_some]
    rw [gX4_joinPieces_127, hp, if_neg (c_hi (by omega)), if_neg (nI_m1 (by omega)), hbr, cl_some, c_belowOf hid, cl_some, b2 _ (by omega), h1 (b + 6) (by omega), show nI i + 1 = nI (i + 1) from nI_add i 1]
    refine ih (i + 1) fu s4 (s (b + 6) y.2) (by omega) (by omega) (by omega) (fun c hc => by rw [b2 c hc]; exact h1 c hc) (fun x hx => by rw [b4 x (by omega)]; exact h2 x hx) (fun x hx hxt hxm hxn j hj => ?_) (fun e => hc.1 (by omega)) (fun x hx hxt hxn => hc.2 x hx hxt (by omega))
    by_cases e : x.1.2.2.2 = m
    · have hxy : x = y := zuniq hm hu hx y2 (hxt.trans y3.symm) (e.trans y4.symm)
      subst hxy
      rw [e] at hj ⊢
      rw [b3 j hj, h2 _ (by omega)]
    · have hmo2 : vsum U (m + 1) ≤ vsum U x.1.2.2.2 := vsum_mono (by omega)
      rw [b4 _ (by omega)]
      exact h3 x hx hxt (by omega) hxn j hj
end
end
section
/-! ===== the class: JOINED ===== -/
section
variable {b lim B : Nat} {s s' : wt_S} {V V' : vV} {zs zs' : List (vP × Nat)} {fr fr' : List Nat} {t np z g words : Nat}
theorem Ch.eq (h : Ch b s zs t np) (h12 : s' (b + 17 + 2 * t) 12 = s (b + 17 + 2 * t) 12) (h13 : s' (b + 17 + 2 * t) 13 = s (b + 17 + 2 * t) 13) (h6 : s' (b + 6) = s (b + 6)) : Ch b s' zs t np := by
  unfold Ch at h ⊢
  rw [h12, h13, h6]
  exact h
/-- the picture behind it, before anything is counted, holds -/
theorem c_join2 (h : RC b 2048 s V zs fr) (hx : CX b 2048) (hI : VI 2048 B V) (ht : t < 6) (hc : Ico V t np) (h0 : 0 < V.2.2.1 t) {id : Nat} {s6 : wt_S} (hid : id < 256) (hgg : g + words ≤ 2048 ∧ ∀ q ∈ V.2.1, g + words ≤ q.1 ∨ q.1 + q.2.1 ≤ g) (hu : vus V.1 (V.2.2.2 t) (V.2.2.1 t) ≤ words)
    (hmap : zs'.map Prod.fst = vins (g, words, t, 0) (V.2.1.filter (fun q => decide (q.2.2.1 ≠ t)))) (hcase : ∀ y, y ∈ zs' ↔ y = ((g, words, t, 0), id) ∨ (y ∈ zs ∧ y.1.2.2.1 ≠ t)) (hP6 : PC b 2048 s6 zs' fr') (hne : ∀ y ∈ zs, y.2 ≠ id)
    (hO : ∀ c, ¬ (b + 2 ≤ c ∧ c ≤ b + 9) → c ≠ b + 15 → c ≠ b + 16 → c ≠ b + 17 + 2 * t → s6 c = s c) (h5 : ∀ i, i ≠ id → s6 (b + 5) i = s (b + 5) i) (h5i : s6 (b + 5) id = nI (vus V.1 (V.2.2.2 t) (V.2.2.1 t))) (h6 : ∀ i, i ≠ id → s6 (b + 6) i = s (b + 6) i) (h6i : s6 (b + 6) id = -1)
    (hT : ∀ j, j ≠ 2 → j ≠ 11 → j ≠ 12 → j ≠ 13 → s6 (b + 17 + 2 * t) j = s (b + 17 + 2 * t) j) (hT2 : s6 (b + 17 + 2 * t) 2 = 0) (hT11 : s6 (b + 17 + 2 * t) 11 = nI (g + vus V.1 (V.2.2.2 t) (V.2.2.1 t - 1))) (hT12 : s6 (b + 17 + 2 * t) 12 = nI id) (hT13 : s6 (b + 17 + 2 * t) 13 = -1)
    (hmo : ∀ x, x < g ∨ g + words ≤ x → (∀ j, j < V.2.2.1 t → x < vpl V t j ∨ vpl V t j + vwd V.1 (V.2.2.2 t j).1 ≤ x) → s6 (b + 15) x = s (b + 15) x) (hmq : ∀ i, i < V.2.2.1 t → s6 (b + 15) (g + vus V.1 (V.2.2.2 t) i) = (if i = 0 then -1 else nI (g + vus V.1 (V.2.2.2 t) (i - 1))) ∧ s6 (b + 15) (g + vus V.1 (V.2.2.2 t) i + 1) = nI (V.2.2.2 t i).2.2.2.1 ∧ ∀ k, k < vsz V.1 (V.2.2.2 t i).1 → s6 (b + 15) (g + vus V.1 (V.2.2.2 t) i + 2 + k) = vsw V.1 (fun i => g + vus V.1 (V.2.2.2 t) i) (V.2.2.2 t i) k) :
    RC b 2048 s6 (vj2 (vj1 V t g words) t) zs' fr' ∧ TO b t s s6 := by
  have hb := hx.b
  have hj := hI.J
  obtain ⟨k1, k2, k3, k4, k5, k6⟩ := h.2.2.2.1 t ht
  have hv : ∀ i, i ≠ 3982 + t → i ≠ 4066 + t → i ≠ 3933 + t → (vj2 (vj1 V t g words) t).1 i = V.1 i := fun i i1 i2 i3 => (vj2_ne i2 i3).trans (mj_upd_ne i1)
  have h66 : (vj2 (vj1 V t g words) t).1 (4066 + t) = 1 := (vs_ne (by omega)).trans vs_at
  have h33 : (vj2 (vj1 V t g words) t).1 (3933 + t) = 0 := vs_at
  have hot : OT t V (vj2 (vj1 V t g words) t) := (OT.j1 ht hj.2.1).trans (OT.trans (OT.vs ht (vown_t (c := 4066) (by omega))) (OT.vs ht (vown_t (c := 3933) (by omega))))
  have hn : (vj2 (vj1 V t g words) t).2.2.1 = V.2.2.1 := rfl
  have hfr : (vj2 (vj1 V t g words) t).2.2.2 t = vjf V.1 (V.2.2.2 t) := if_pos rfl
  have hpl : vpl (vj2 (vj1 V t g words) t) t = fun i => g + vus V.1 (V.2.2.2 t) i := vj1_pl (t := t) (g := g) (words := words) hj.2.1
  have hto : TO b t s s6 := ⟨fun k hk hne => ⟨hO _ (by omega) (by omega) (by omega) (by omega), hO _ (by omega) (by omega) (by omega) (by omega)⟩, fun c hc => hO c (by omega) (by omega) (by omega) (by omega)⟩
  have hnew : ∀ y ∈ zs', y.1.2.2.1 = t → y = ((g, words, t, 0), id) := fun y hy hyt => by
    rcases (hcase y).mp hy with e | e
    · exact e
    · exact absurd hyt e.2
  refine ⟨h.op hx hj.1 hot ht hto hj.vfr (fun y hy => ?_) (fun y hy hyt => ⟨h5 _ (hne y hy), h6 _ (hne y hy)⟩) hmap hP6 (h.2.2.1.keep (hO _ (by omega) (by omega) (by omega) (by omega)) (hO _ (by omega) (by omega) (by omega) (by omega)) (fun i i1 i2 => hv i (by omega) (by omega) (by omega))) ⟨⟨?_, fun e he => ?_, fun e he => ?_⟩, ⟨fun e => ?_, fun _ => ⟨?_, ?_⟩⟩, ⟨fun e => ?_, fun y hy hyt hyn => ?_⟩, ⟨fun y hy e1 e2 => ?_, fun _ => hT13⟩, fun e => ?_, fun y hy hyt => ?_⟩ ?_, hto⟩
  · rw [hcase]
    constructor
    · rintro (rfl | m)
      · exact absurd rfl hy
      · exact m.1
    · exact fun m => Or.inr ⟨m, hy⟩
  · rw [hT _ (by omega) (by omega) (by omega) (by omega)]; exact k1.1
  · have en := tf_n e he
    have ep := tf_p e he
    by_cases c : e.1 = 2
    · have c2 : e.2 = 3933 := (tf_i e he (2, 3933) (by decide)).mp c
      rw [c, c2, hT2, h33]
    · have c2 : e.2 ≠ 3933 := fun q => c ((tf_i e he (2, 3933) (by decide)).mpr q)
      rw [hT _ c (by omega) (by omega) (by omega), hv _ (by omega) (by omega) (by omega)]; exact k1.2.1 e he
  · have en := ts_n e he
    have ep := ts_p e he
    have : e.2 ≠ 3933 := fun q => ft_i (2, 3933) (by decide) e he q.symm
    rw [hO _ (by omega) (by omega) (by omega) (by omega), hv _ (by omega) (by omega) (by omega)]; exact k1.2.2 e he
  · have e : V.2.2.1 t = 0 := e
    omega
  · rw [hT _ (by omega) (by omega) (by omega) (by omega), hv _ (by omega) (by omega) (by omega)]
    exact (k2.2 h0).1
  · rw [hT11, hpl]
    rfl
  · rw [h66] at e; exact absurd e (by decide)
  · have := hnew y hy hyt
    rw [hT12, this]
  · have := hnew y hy e1
    rw [this] at e2
    have e2 : (0 : Nat) = 1000 := e2
    omega
  · have e : (vj2 (vj1 V t g words) t).1 (3926 + t) ≠ 0 := e
    rw [hv _ (by omega) (by omega) (by omega)] at e
    rw [hT _ (by omega) (by omega) (by omega) (by omega), hv _ (by omega) (by omega) (by omega)]
    exact k5 e
  · have := hnew y hy hyt
    subst this
    refine ⟨?_, fun _ => h6i, fun y' _ _ e => ?_⟩
    · show s6 (b + 5) id = nI (vud (vj2 (vj1 V t g words) t).1 ((vj2 (vj1 V t g words) t).2.2.2 t) 0 (V.2.2.1 t))
      have hw : vpe V.1 (vj2 (vj1 V t g words) t).1 := hot.1
      rw [h5i, hfr, vud_us (fun i _ => rfl), (hw.us (k := 0) (fr := vjf V.1 (V.2.2.2 t)) (fun i hi => hj.vfr t ht i hi)).1, vus_jf]
    · have e : (0 : Nat) = y'.1.2.2.2 + 1 := e
      omega
  · intro k hk
    by_cases e : k = t
    · subst e
      rw [hpl, hfr]
      intro i hi
      have hi : i < V.2.2.1 k := hi
      obtain ⟨q1, q2, q3⟩ := hmq i hi
      have hf10 := hj.vfr k hk i hi
      have hsz := hot.1.sz hf10
      refine ⟨hf10, q1, q2, fun j hj2 => ?_⟩
      have hj2 : j < vsz (vj2 (vj1 V k g words) k).1 (V.2.2.2 k i).1 := hj2
      rw [hsz.1] at hj2
      have q3 := q3 j hj2
      show s6 (b + 15) (g + vus V.1 (V.2.2.2 k) i + 2 + j) = _
      rw [q3]
      unfold vsw
      show (if bt (V.1 (2238 + (V.2.2.2 k i).1)) j then _ else _) = (if bt ((vj2 (vj1 V k g words) k).1 (2238 + (V.2.2.2 k i).1)) j then _ else _)
      rw [hsz.2.2.2]
      rfl
    · have hMR : MR (s (b + 15)) (vj2 (vj1 V t g words) t).1 (V.2.2.1 k) (V.2.2.2 k) (vpl V k) := MR_w (fun i i1 i2 => hv i (by omega) (by omega) (by omega)) (h.2.2.2.2.1 k hk)
      have hpk : ∀ i, vpl (vj2 (vj1 V t g words) t) k i = vpl V k i := fun i => ot_vpl hot hk e
      rw [show vpl (vj2 (vj1 V t g words) t) k = vpl V k from funext hpk, show (vj2 (vj1 V t g words) t).2.2.2 k = V.2.2.2 k from if_neg e]
      show MR (s6 (b + 15)) (vj2 (vj1 V t g words) t).1 (V.2.2.1 k) (V.2.2.2 k) (vpl V k)
      refine hMR.mem (fun i hi j hj2 => ?_)
      rw [(hot.1.sz (hj.vfr k hk i hi)).2.1] at hj2
      obtain ⟨npk, g1, g2, -⟩ := hj.geo hk (by omega)
      obtain ⟨qq, gq1, gq2, gq3, gq4, gq5⟩ := g2.pc g1 hi
      have hgap := hgg.2 qq gq1
      have hpe : vpl V k i = qq.1 + (V.2.2.2 k i).2.2.1 := by unfold vpl; rw [gq4]
      refine hmo _ (by omega) (fun j' hj' => ?_)
      have := hj.dj hk ht hi hj' (fun c => e c.1)
      omega
theorem c_join (h : RC b 2048 s V zs fr) (hx : CX b 2048) (hI : VI 2048 B V) (ht : t < 6) (hb : vbz V.1 t) : ∃ s' zs' fr', gX4_joinPieces b (b + 17 + 2 * t) s = some (rb ((vjo 2048 V t).1 = true), s') ∧ RC b 2048 s' (vjo 2048 V t).2 zs' fr' ∧ TO b t s s' := by
  have hb' := hx.b
  have hxm := hx.m
  obtain ⟨np, z, z2, z3, k, l, hP, h0, -, ⟨r1, r2, r3⟩, -, -, -, -, -, -⟩ := hI.opn ht hb (by omega)
  obtain ⟨hj, hc, -, hz, h8, hzl, -, hl2, hq⟩ := hP
  obtain ⟨n1, n2, n3⟩ := hc.mn
  have hzz : (V.1 2048).toInt.toNat = z := by rw [hz, nI_int (by omega)]; rfl
  obtain ⟨d1, d2, d3, d4, d5⟩ := hc.2.2.2.2.2.2.1 h0
  have hN := hc.n hj (by omega)
  have huse : vuse V t = vus V.1 (V.2.2.2 t) (V.2.2.1 t) := by unfold vuse; rw [hc.2.2.2.2.2.1, nI_int (by omega)]; rfl
  have hku : vus V.1 (V.2.2.2 t) (V.2.2.1 t) ≤ vkp V t := by unfold vkp; rw [huse]; omega
  obtain ⟨kk1, kk2⟩ := c_kept h hx hj hc ht r1 r3
  obtain ⟨w1, w2, w3⟩ := vdbl_gj (e := vkp V t) (k := 16) (n := z) (by omega) (by omega)
  have hdb : gX4_doubled s (nI z) (nI (vkp V t)) = some (nI (vdbl (vkp V t) 16 z), s) := by
    unfold gX4_doubled
    exact c_doubled (e := vkp V t) (by omega) 16 z wt_N (by omega) (by omega) (by unfold wt_N; omega)
  generalize hW : vdbl (vkp V t) 16 z = words at *
  have hWz : vdbl (vkp V t) 16 (V.1 2048).toInt.toNat = words := by rw [hzz]; exact hW
  have e0 : s (b + 1) 0 = nI z := (h.2.2.1.1 0 (by omega)).trans hz
  obtain ⟨k1, k2, k3, k4, k5, k6⟩ := h.2.2.2.1 t ht
  unfold gX4_joinPieces
  rw [kk1, cl_some, e0, hdb, cl_some, k1.1]
  cases e : vgap 2048 0 V.2.1 words with
  | none =>
    rw [vjo_0 hWz e, (c_take h.2.1 (by rw [h.1]; exact hj.2.1) ⟨by omega, by omega⟩ hx.2.2).1 (by rw [h.1]; exact e), cl_some, if_neg (by simp), rb_neg (by simp)]
    exact ⟨s, zs, fr, rfl, h, TO.refl⟩
  | some g =>
    have hgg := vgap0 hj.2.1 e
    have hlen : zs.length < 256 := by
      have := Vlen hj.2.1 hq h8 hl2 (show z ≤ words by omega) e
      rw [← h.1, List.length_map] at this
      exact this
    have hnum : ∀ q ∈ V.2.1, q.2.2.1 = t → q.2.2.2 < np ∨ q.2.2.2 = 1000 := hc.2.2.2.1.2
    obtain ⟨id, fr1, y, s1, -, i1, i2, i3, i4, i5, i6, i7, i8, i9⟩ := (c_take (un := -1) (t := t) h.2.1 (by rw [h.1]; exact hj.2.1) ⟨show 1 ≤ words by omega, by omega⟩ hx.2.2).2 g hlen (by rw [h.1]; exact e)
    obtain ⟨j1, j2⟩ := i9 5000
    rw [h.1] at j2
    have hmem : ∀ y', y' ∈ zs.insertIdx y ((g, words, t, 5000), id) ↔ y' = ((g, words, t, 5000), id) ∨ y' ∈ zs := fun y' => List.mem_insertIdx i4
    generalize hz5 : zs.insertIdx y ((g, words, t, 5000), id) = zs5 at *
    have ho5 : vo 2048 (zs5.map Prod.fst) := by
      rw [j2]
      exact vo_ins hj.2.1 ⟨by show 1 ≤ words; omega, hgg.1, ht, by show (5000 : Nat) < 4294967296; omega⟩ hgg.2
    have hu5 : (zs5.map Prod.fst).Pairwise (fun p q => ¬ (p.2.2.1 = q.2.2.1 ∧ p.2.2.2 = q.2.2.2)) := by
      rw [j2]
      refine vkeys_pw (fun p q hpq e => hpq ⟨e.1.symm, e.2.symm⟩) hj.2.2.1 (fun p hp e => ?_)
      have e1 : t = p.2.2.1 := e.1
      have e2 : (5000 : Nat) = p.2.2.2 := e.2
      have := hnum p hp e1.symm
      omega
    have hn5 : ((g, words, t, 5000), id) ∈ zs5 := (hmem _).mpr (Or.inl rfl)
    have p3 : s1 (b + 3) id = nI g := (j1.mem hn5).2.1
    have hT1 : s1 (b + 17 + 2 * t) = s (b + 17 + 2 * t) := i8 _ (by omega)
    have hold : ∀ y ∈ zs5, y.1.2.2.1 = t → y.1.2.2.2 < np ∨ y.1.2.2.2 = 1000 → y ∈ zs := fun y hy hyt hyn => by
      rcases (hmem y).mp hy with rfl | m
      · have hyn : (5000 : Nat) < np ∨ (5000 : Nat) = 1000 := hyn
        omega
      · exact m
    have hnz : ∀ y ∈ zs, y.1.2.2.1 = t → y.1.2.2.2 < np ∨ y.1.2.2.2 = 1000 := fun y hy hyt => hnum _ (h.mem hy) hyt
    have hch := h.ch ht (np := np) n1
    have hch1 : Ch b s1 zs5 t np := by
      refine ⟨⟨fun e => by omega, fun y hy hyt hyn => ?_⟩, ⟨fun y hy hyt hyn => ?_, fun hno => ?_⟩, fun y hy hyt => ⟨fun hyn => ?_, fun y' hy' hyt' hyn => ?_⟩⟩
      · rw [hT1]
        exact hch.1.2 y (hold y hy hyt (by omega)) hyt hyn
      · rw [hT1]
        exact hch.2.1.1 y (hold y hy hyt (by omega)) hyt hyn
      · rw [hT1]
        exact hch.2.1.2 (fun y hy => hno y ((hmem y).mpr (Or.inr hy)))
      · have hyz := hold y hy hyt (by omega)
        rw [i6, mj_upd_ne (i2 y hyz)]
        exact (hch.2.2 y hyz hyt).1 hyn
      · have hyz : y ∈ zs := by
          rcases (hmem y).mp hy with rfl | m
          · exfalso
            have hyn : (5000 : Nat) = y'.1.2.2.2 + 1 := hyn
            rcases (hmem y').mp hy' with rfl | m'
            · have hyn : (5000 : Nat) = 5000 + 1 := hyn
              omega
            · have := hnz y' m' hyt'
              omega
          · exact m
        have hyz' : y' ∈ zs := by
          rcases (hmem y').mp hy' with rfl | m
          · exfalso
            have hyn : y.1.2.2.2 = 5000 + 1 := hyn
            have := hnz y hyz hyt
            omega
          · exact m
        rw [i6, mj_upd_ne (i2 y hyz)]
        exact (hch.2.2 y hyz hyt).2 y' hyz' hyt' hyn
    have hit5 : ∀ k, k < np → ∃ q ∈ zs5.map Prod.fst, q.2.2.1 = t ∧ q.2.2.2 = k := fun k hk => by
      obtain ⟨q, q1, q2⟩ := hc.2.2.2.1.1 k hk
      rw [j2]
      exact ⟨q, vins_mem.mpr (Or.inr q1), q2⟩
    have hU1 : ∀ y ∈ zs5, y.1.2.2.1 = t → y.1.2.2.2 < np → s1 (b + 5) y.2 = nI ((fun k => vud V.1 (V.2.2.2 t) k (V.2.2.1 t)) y.1.2.2.2) := fun y hy hyt hyn => by
      have hyz := hold y hy hyt (Or.inl hyn)
      rw [i5, mj_upd_ne (i2 y hyz)]
      exact (k6 y hyz hyt).1
    have hsum : vsum (fun k => vud V.1 (V.2.2.2 t) k (V.2.2.1 t)) np = vus V.1 (V.2.2.2 t) (V.2.2.1 t) := by
      obtain ⟨n, hn⟩ : ∃ n, V.2.2.1 t = n + 1 := ⟨V.2.2.1 t - 1, by omega⟩
      rw [hn] at d1 d2 ⊢
      rw [Nat.add_sub_cancel] at d2
      exact d1.sumn (by omega)
    have hsums := d1.sum
    have hudi := fun i (hi : i < V.2.2.1 t) => d1.udi hi
    have hudl := fun k => d1.udl (k := k)
    have hus : V.1 (3961 + t) = nI (vus V.1 (V.2.2.2 t) (V.2.2.1 t)) := hc.2.2.2.2.2.1
    have e5 : s1 (b + 17 + 2 * t) 5 = nI (vus V.1 (V.2.2.2 t) (V.2.2.1 t)) := by rw [hT1, k1.2.1 (5, 3961) (by decide)]; exact hus
    have hvs : vus V.1 (V.2.2.2 t) (V.2.2.1 t) ≤ words := by omega
    obtain ⟨s2, m1, m2, m3⟩ := c_aim_loop (U := fun k => vud V.1 (V.2.2.2 t) k (V.2.2.1 t)) (g := g) (l2 := nI id) j1 rfl hu5 hit5 (by omega) hch1 hU1 np 0 wt_N s1 (s1 (b + 17 + 2 * t) 12) (Nat.le_refl _) (by omega) (by unfold wt_N; omega) (fun _ _ => rfl) (fun y _ _ q1 q2 => by omega) hch1.1.1 hch1.1.2
    rw [hsum] at m1
    rw [i3, cl_some, if_pos (nI_m1 (by omega)), c_placeOf i1, cl_some, p3, e5, nI_add, show (0 : Int32) = nI 0 from rfl, m1]
    unfold gX4_joinPieces_113
    -- turned
    have hT2 : s2 (b + 17 + 2 * t) = s (b + 17 + 2 * t) := by rw [m2 _ (by omega), hT1]
    have hM2 : s2 (b + 15) = s (b + 15) := by rw [m2 _ (by omega), i8 _ (by omega)]
    have e4 : s2 (b + 17 + 2 * t) 4 = nI (V.2.2.1 t) := by rw [hT2, k1.2.1 (4, 3954) (by decide)]; exact hc.1
    have e11 : s2 (b + 17 + 2 * t) 11 = if V.2.2.1 t = 0 then -1 else nI (vpl V t (V.2.2.1 t - 1)) := by
      rw [hT2, if_neg (by omega)]; exact (k2.2 h0).2
    have e9 : 0 < V.2.2.1 t → s2 (b + 17 + 2 * t) 9 = nI (V.2.2.2 t (V.2.2.1 t - 1)).1 := fun _ => by
      rw [hT2, k1.2.1 (9, 3975) (by decide)]
      exact d5
    have hpc : ∀ i, i < V.2.2.1 t → ∃ y ∈ zs5, y ∈ zs ∧ y.1.2.2.1 = t ∧ y.1.2.2.2 = (V.2.2.2 t i).2.1 ∧ (V.2.2.2 t i).2.1 < np ∧ vpl V t i = y.1.1 + (V.2.2.2 t i).2.2.1 ∧ (V.2.2.2 t i).2.2.1 + vwd V.1 (V.2.2.2 t i).1 ≤ y.1.2.1 ∧ y.1.1 + y.1.2.1 ≤ 2048 := fun i hi => by
      have hnpi := (d1.1 i hi).1
      have hfit := (d1.1 i hi).2
      obtain ⟨-, y, -, y2, y3, y4, y5, y6, -⟩ := zfind (t := t) (n := (V.2.2.2 t i).2.1) h.1 hj.2.2.1 (hc.2.2.2.1.1 _ hnpi)
      refine ⟨y, (hmem y).mpr (Or.inr y2), y2, y3, y4, hnpi, ?_, ?_, (hj.2.1.2 y.1 (h.mem y2)).2.1⟩
      · unfold vpl; rw [y5]
      · rw [y6] at hfit; exact hfit
    have hGC : GC b s2 V.1 (V.2.2.1 t) (V.2.2.2 t) (vpl V t) (fun i => g + vus V.1 (V.2.2.2 t) i) := by
      intro s' hs' i hi j hj2
      have hP' : PC b 2048 s' zs5 fr1 := j1.eq (fun c hc => by rw [hs' c (by omega) (by omega), m2 c (by omega)])
      obtain ⟨y, ya, yb, y3, y4, y5, y6, y7, y8⟩ := hpc i hi
      have hsi := hsums i hi
      rw [c_turned hP' ho5 hx.2.2 ya ⟨by omega, by omega⟩, hs' _ (by omega) (by omega), m3 y ya y3 (by omega), nI_turn (by omega), y6, y4]
      have hsi : vus V.1 (V.2.2.2 t) i = vsum (fun k => vud V.1 (V.2.2.2 t) k (V.2.2.1 t)) (V.2.2.2 t i).2.1 + (V.2.2.2 t i).2.2.1 := hsi
      have e : g + vsum (fun k => vud V.1 (V.2.2.2 t) k (V.2.2.1 t)) (V.2.2.2 t i).2.1 + (y.1.1 + (V.2.2.2 t i).2.2.1 + j - y.1.1) = g + vus V.1 (V.2.2.2 t) i + j := by omega
      show some (nI _, s') = some (nI (g + vus V.1 (V.2.2.2 t) i + j), s')
      rw [← e]
    have hRP2 : RP 5 s2 V.1 := h.2.2.2.2.2.eq hj.1 vpe.refl (fun c c1 c2 => by rw [m2 _ (by omega), i8 _ (by omega)])
    obtain ⟨s3, t1, t2, t3, t4, t5⟩ := c_turns (s := s2) hx (T := b + 17 + 2 * t) (by omega) (by omega) e4 e11 e9 (fun h0 => TH.of hj ht h0) hGC hRP2 (by rw [hM2]; exact h.2.2.2.2.1.q ht)
    rw [if_neg (by omega), hT2] at t3
    rw [t1, cl_some]
    -- brought over
    have f3 : ∀ c, b + 2 ≤ c → c ≤ b + 9 → s3 c = s2 c := fun c h1 h2 => t2 c (by omega) (by omega) (by omega)
    have hP3 : PC b 2048 s3 zs5 fr1 := j1.eq (fun c hc => by rw [f3 c (by omega) (by omega), m2 c (by omega)])
    have hch3 : Ch b s3 zs5 t np := hch1.eq (by rw [t3, mj_upd_ne (by omega), hT1]) (by rw [t3, mj_upd_ne (by omega), hT1]) (by rw [f3 _ (by omega) (by omega), m2 _ (by omega)])
    have hdd : ∀ y ∈ zs5, y.1.2.2.1 = t → y.1.2.2.2 < np → y.1.1 + vud V.1 (V.2.2.2 t) y.1.2.2.2 (V.2.2.1 t) ≤ 2048 ∧ (g + vsum (fun k => vud V.1 (V.2.2.2 t) k (V.2.2.1 t)) np ≤ y.1.1 ∨ y.1.1 + vud V.1 (V.2.2.2 t) y.1.2.2.2 (V.2.2.1 t) ≤ g) := fun y hy hyt hyn => by
      have hyz := hold y hy hyt (Or.inl hyn)
      have hin := h.mem hyz
      have h1 := (hj.2.1.2 y.1 hin).2.1
      have h2 := hgg.2 y.1 hin
      have h3 := hudl y.1.2.2.2
      obtain ⟨-, y', -, y2, y3, y4, y5, y6, -⟩ := zfind (t := t) (n := y.1.2.2.2) h.1 hj.2.2.1 ⟨y.1, hin, hyt, rfl⟩
      have hyy : y' = y := zuniq h.1 hj.2.2.1 y2 hyz (y3.trans hyt.symm) y4
      rw [y6, hyy] at h3
      rw [hsum]
      omega
    obtain ⟨s4, o1, o2, o3, o4⟩ := c_over_loop (U := fun k => vud V.1 (V.2.2.2 t) k (V.2.2.1 t)) (g := g) (l2 := nI id) hx hP3 rfl hu5 hit5 (by omega) hch3 (fun y hy hyt hyn => by rw [f3 _ (by omega) (by omega), m2 _ (by omega)]; exact hU1 y hy hyt hyn) (fun y hy hyt hyn => by rw [f3 _ (by omega) (by omega)]; exact m3 y hy hyt hyn) hdd (by rw [hsum]; omega) np 0 wt_N s3 (s3 (b + 17 + 2 * t) 12) (Nat.le_refl _) (by omega) (by unfold wt_N; omega) (fun _ _ => rfl) (fun _ _ => rfl) (fun y _ _ q1 q2 => by omega) hch3.1.1 hch3.1.2
    rw [hsum] at o3
    rw [show (0 : Int32) = nI 0 from rfl, o1]
    unfold gX4_joinPieces_164
    -- the old ones go
    have hP4 : PC b 2048 s4 zs5 fr1 := hP3.eq (fun c hc => o2 c (by omega))
    have hch4 : Ch b s4 zs5 t np := hch3.eq (by rw [o2 _ (by omega)]) (by rw [o2 _ (by omega)]) (by rw [o2 _ (by omega)])
    have hit6 : ∀ q ∈ zs5.map Prod.fst, q.2.2.1 = t → q.2.2.2 < np ∨ q.2.2.2 = 1000 ∨ q.2.2.2 = 5000 := fun q hq hqt => by
      rw [j2] at hq
      rcases vins_mem.mp hq with rfl | hq
      · exact Or.inr (Or.inr rfl)
      · have := hnum q hq hqt
        omega
    obtain ⟨s5, zs6, fr6, x1, x2, x3, x4, x5, x6, x7, x8⟩ := c_rel5 hx ht hP4 rfl ho5 hu5 ⟨hit5, hit6⟩ (by omega) hch4
    have hT5 : s5 (b + 17 + 2 * t) = mj_upd (mj_upd (s (b + 17 + 2 * t)) 11 (nI (g + vus V.1 (V.2.2.2 t) (V.2.2.1 t - 1)))) 13 (-1) := by
      rw [x8, o2 _ (by omega), t3]
    have e55 : s5 (b + 17 + 2 * t) 5 = nI (vus V.1 (V.2.2.2 t) (V.2.2.1 t)) := by
      rw [hT5, mj_upd_ne (by omega), mj_upd_ne (by omega), k1.2.1 (5, 3961) (by decide)]; exact hus
    have e5i : s5 (b + 5) id = 0 := by rw [x5, o2 _ (by omega), f3 _ (by omega) (by omega), m2 _ (by omega), i5, mj_upd_self]
    rw [x1, cl_some, c_use i1, cl_some, wr_eq, wr_eq, e55, e5i, Int32.zero_add]
    generalize hS6 : wt_u (wt_u (wt_u s5 (b + 5) id (nI (vus V.1 (V.2.2.2 t) (V.2.2.1 t)))) (b + 17 + 2 * t) 12 (nI id)) (b + 17 + 2 * t) 2 0 = s6
    have f6 : ∀ c, c ≠ b + 5 → c ≠ b + 17 + 2 * t → s6 c = s5 c := fun c h1 h2 => by rw [← hS6, wt_u_ne h2, wt_u_ne h2, wt_u_ne h1]
    have f6T : s6 (b + 17 + 2 * t) = mj_upd (mj_upd (s5 (b + 17 + 2 * t)) 12 (nI id)) 2 0 := by rw [← hS6, wt_u_at, wt_u_at, wt_u_ne (by omega)]
    have f65 : s6 (b + 5) = mj_upd (s5 (b + 5)) id (nI (vus V.1 (V.2.2.2 t) (V.2.2.1 t))) := by rw [← hS6, wt_u_ne (by omega), wt_u_ne (by omega), wt_u_at]
    have hre : ∀ y ∈ zs6, (vre0 t y.1, y.2) = if y.1.2.2.1 = t then ((g, words, t, 0), id) else y := fun y hy => by
      obtain ⟨q1, q2⟩ := (x4 y).mp hy
      rcases (hmem y).mp q1 with rfl | m
      · rw [if_pos rfl]
        show (vre0 t (g, words, t, 5000), id) = _
        unfold vre0
        rw [if_pos ⟨rfl, rfl⟩]
      · by_cases c : y.1.2.2.1 = t
        · exfalso
          have := hnz y m c
          omega
        · rw [if_neg c, vre0_n (fun e => absurd e c)]
    have hP6 : PC b 2048 s6 (zs6.map (fun y => (vre0 t y.1, y.2))) fr6 := (x2.eq (fun c hc => f6 c (by omega) (by omega))).map (fun y _ => ⟨rfl, vre0_p⟩)
    have hcase : ∀ y', y' ∈ zs6.map (fun y => (vre0 t y.1, y.2)) ↔ y' = ((g, words, t, 0), id) ∨ (y' ∈ zs ∧ y'.1.2.2.1 ≠ t) := fun y' => by
      rw [List.mem_map]
      constructor
      · rintro ⟨y0, hy0, rfl⟩
        rw [hre y0 hy0]
        obtain ⟨q1, q2⟩ := (x4 y0).mp hy0
        by_cases c : y0.1.2.2.1 = t
        · rw [if_pos c]; exact Or.inl rfl
        · rw [if_neg c]
          rcases (hmem y0).mp q1 with rfl | m
          · exact absurd rfl c
          · exact Or.inr ⟨m, c⟩
      · rintro (rfl | ⟨q1, q2⟩)
        · have hin : ((g, words, t, 5000), id) ∈ zs6 := (x4 _).mpr ⟨hn5, Or.inr rfl⟩
          exact ⟨_, hin, (hre _ hin).trans (if_pos rfl)⟩
        · have hin : y' ∈ zs6 := (x4 _).mpr ⟨(hmem _).mpr (Or.inr q1), Or.inl q2⟩
          exact ⟨_, hin, (hre _ hin).trans (if_neg q2)⟩
    have hmap : (zs6.map (fun y => (vre0 t y.1, y.2))).map Prod.fst = vins (g, words, t, 0) (V.2.1.filter (fun q => decide (q.2.2.1 ≠ t))) := by
      have hfl : V.2.1.filter (fun q => decide (q.2.2.1 ≠ t ∨ q.2.2.2 = 5000)) = V.2.1.filter (fun q => decide (q.2.2.1 ≠ t)) := by
        refine List.filter_congr (fun q hq => ?_)
        rw [Bool.eq_iff_iff, decide_eq_true_eq, decide_eq_true_eq]
        constructor
        · rintro (e | e)
          · exact e
          · intro e2
            have := hnum q hq e2
            omega
        · exact Or.inl
      rw [List.map_map, show (Prod.fst ∘ fun y : vP × Nat => (vre0 t y.1, y.2)) = (vre0 t) ∘ Prod.fst from rfl, ← List.map_map, x3, j2, vins_flt (lim := 2048) (by simp) hj.2.1, hfl, vins_map (fun p => vre0_p.1)]
      have e1 : vre0 t (g, words, t, 5000) = (g, words, t, 0) := by
        unfold vre0
        rw [if_pos ⟨rfl, rfl⟩]
      have e2 : (V.2.1.filter (fun q => decide (q.2.2.1 ≠ t))).map (vre0 t) = V.2.1.filter (fun q => decide (q.2.2.1 ≠ t)) := by
        conv => rhs; rw [← List.map_id (V.2.1.filter (fun q => decide (q.2.2.1 ≠ t)))]
        refine List.map_congr_left (fun p hp => vre0_n (fun e => ?_))
        have := (List.mem_filter.mp hp).2
        exact absurd e (by simpa using this)
      rw [e1, e2]
    generalize zs6.map (fun y => (vre0 t y.1, y.2)) = zs7 at *
    have hcp : ∀ i, i < V.2.2.1 t → ∀ j, j < vwd V.1 (V.2.2.2 t i).1 → s6 (b + 15) (g + vus V.1 (V.2.2.2 t) i + j) = s3 (b + 15) (vpl V t i + j) := fun i hi j hj2 => by
      obtain ⟨y, ya, yb, y3, y4, y5, y6, y7, y8⟩ := hpc i hi
      have hsi : vus V.1 (V.2.2.2 t) i = vsum (fun k => vud V.1 (V.2.2.2 t) k (V.2.2.1 t)) (V.2.2.2 t i).2.1 + (V.2.2.2 t i).2.2.1 := hsums i hi
      have hdi := hudi i hi
      have := o4 y ya y3 (by omega) ((V.2.2.2 t i).2.2.1 + j) (by rw [y4]; show _ < vud V.1 (V.2.2.2 t) (V.2.2.2 t i).2.1 (V.2.2.1 t); omega)
      rw [y4] at this
      rw [f6 _ (by omega) (by omega), x7 _ (by omega) (by omega), hsi, y6, Nat.add_assoc y.1.1, ← this]
      congr 1
      omega
    obtain ⟨R6, T6⟩ := c_join2 (s6 := s6) h hx hI ht hc h0 i1 hgg hvs hmap hcase hP6 i2 (fun c h1 h2 h3 h4 => by rw [f6 c (by omega) h4, x7 c h1 h4, o2 c h2, t2 c h2 h3 h4, m2 c (by omega), i8 c h1]) (fun i hi => by rw [f65, mj_upd_ne hi, x5, o2 _ (by omega), f3 _ (by omega) (by omega), m2 _ (by omega), i5, mj_upd_ne hi]) (by rw [f65, mj_upd_self]) (fun i hi => by rw [f6 _ (by omega) (by omega), x6, o2 _ (by omega), f3 _ (by omega) (by omega), m2 _ (by omega), i6, mj_upd_ne hi]) (by rw [f6 _ (by omega) (by omega), x6, o2 _ (by omega), f3 _ (by omega) (by omega), m2 _ (by omega), i6, mj_upd_self])
      (fun j h1 h2 h3 h4 => by rw [f6T, mj_upd_ne h1, mj_upd_ne h3, hT5, mj_upd_ne h4, mj_upd_ne h2]) (by rw [f6T, mj_upd_self]) (by rw [f6T, mj_upd_ne (by omega), mj_upd_ne (by omega), hT5, mj_upd_ne (by omega), mj_upd_self]) (by rw [f6T, mj_upd_ne (by omega), mj_upd_self]) (by rw [f6T, mj_upd_ne (by omega), mj_upd_ne (by omega), hT5, mj_upd_self])
      (fun x hxg hxo => by rw [f6 _ (by omega) (by omega), x7 _ (by omega) (by omega), o3 x (by omega), t5 x hxo, hM2]) (fun i hi => by
        obtain ⟨v1, v2, v3⟩ := t4 i hi
        refine ⟨?_, ?_, fun j hj2 => ?_⟩
        · have this : s6 (b + 15) (g + vus V.1 (V.2.2.2 t) i) = s3 (b + 15) (vpl V t i) := hcp i hi 0 (by unfold vwd; omega)
          rw [this, v1]
        · rw [hcp i hi 1 (by unfold vwd; omega), v2]
        · rw [Nat.add_assoc, hcp i hi (2 + j) (by unfold vwd; omega), ← Nat.add_assoc, v3 j hj2])
    have hot2 : OT t V (vj2 (vj1 V t g words) t) := (OT.j1 ht hj.2.1).trans (OT.trans (OT.vs ht (vown_t (c := 4066) (by omega))) (OT.vs ht (vown_t (c := 3933) (by omega))))
    have hp2 : Ipr (vj2 (vj1 V t g words) t).1 := hj.1.ww hot2.1
    have hf2 : VFR (vj2 (vj1 V t g words) t) := fun k hk i hi => by
      have hi : i < V.2.2.1 k := hi
      by_cases e : k = t
      · subst e
        rw [show (vj2 (vj1 V k g words) k).2.2.2 k = vjf V.1 (V.2.2.2 k) from if_pos rfl]
        exact hj.vfr k hk i hi
      · rw [show (vj2 (vj1 V t g words) t).2.2.2 k = V.2.2.2 k from if_neg e]
        exact hj.vfr k hk i hi
    have e65 : s6 (b + 17 + 2 * t) 5 = (vj2 (vj1 V t g words) t).1 (3961 + t) := R6.at ht (e := (5, 3961)) (by decide)
    obtain ⟨s8, c1, c2, c3, -⟩ := c_adds R6 hx hp2 hf2 ht (e := (5, 4017)) (by decide) (v := s6 (b + 17 + 2 * t) 5)
    have c1 : gX9_add b (b + 17 + 2 * t) s6 5 (s6 (b + 17 + 2 * t) 5) = some ((), s8) := c1
    have hp3 : Ipr (vcn (vs (vj2 (vj1 V t g words) t) (4017 + t) ((vj2 (vj1 V t g words) t).1 (4017 + t) + s6 (b + 17 + 2 * t) 5)) 5 (s6 (b + 17 + 2 * t) 5)).1 := Ipr.vs1 (Ipr.vs1 hp2 (by omega)) (by omega)
    obtain ⟨s9, q1, q2, q3⟩ := c_logs c2 hx hp3 hf2 (i1 := 6) i1
    rw [c1, cl_some, q1, cl_some, vjo_1 hWz e, rb_pos rfl]
    refine ⟨s9, zs7, fr6, rfl, ?_, (T6.trans c3).trans (TO.lf q3)⟩
    rw [e65] at q2
    exact q2
end
end
