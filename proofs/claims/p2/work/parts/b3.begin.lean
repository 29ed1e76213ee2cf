/-! ===== the class: a task begins ===== -/
section
variable {b lim B : Nat} {s s' : wt_S} {V V' : vV} {zs zs' : List (vP × Nat)} {fr fr' : List Nat} {t np k l f z : Nat} {v a mode : Int32}
theorem OT.symm (h : OT t V V') : OT t V' V := by
  obtain ⟨h1, h2, h3, h4, h5, h6⟩ := h
  exact ⟨h1.symm, fun i i1 i2 => (h2 i i1 i2).symm, fun t' ht' hne => ⟨fun j hj => ((h3 t' ht' hne).1 j hj).symm, (h3 t' ht' hne).2.1.symm, (h3 t' ht' hne).2.2.symm⟩, fun q hq => (h4 q hq).symm, fun t' n hne => (h5 t' n hne).symm, fun k hk t' ht' hne => (h6 k hk t' ht' hne).symm⟩
theorem c_fill_loop {r n : Nat} (hn : n ≤ 100000) : ∀ (m i fu : Nat) (s : wt_S), i + m = n → m < fu → ∃ s', gJ7_fill_53178_5 r n fu s v (nI i) (nI n) = some ((), s') ∧ (∀ c, c ≠ r → s' c = s c) ∧ (∀ j, i ≤ j → j < n → s' r j = v) ∧ ∀ j, j < i ∨ n ≤ j → s' r j = s r j := by
  intro m
  induction m with
  | zero =>
    intro i fu s hi hfu
    obtain ⟨fu, rfl⟩ : ∃ k, fu = k + 1 := ⟨fu - 1, by omega⟩
    obtain rfl : i = n := by omega
    refine ⟨s, ?_, fun _ _ => rfl, fun j h1 h2 => by omega, fun _ _ => rfl⟩
    rw [gJ7_fill_53178_5, if_pos (Int.le_refl _)]
  | succ m ih =>
    intro i fu s hi hfu
    obtain ⟨fu, rfl⟩ : ∃ k, fu = k + 1 := ⟨fu - 1, by omega⟩
    obtain ⟨s', a1, a2, a3, a4⟩ := ih (i + 1) fu (wt_u s r i v) (by omega) (by omega)
    refine ⟨s', ?_, fun c hc => by rw [a2 c hc, wt_u_ne hc], fun j h1 h2 => ?_, fun j hj => ?_⟩
    · rw [gJ7_fill_53178_5, if_neg (by rw [nI_int (by omega), nI_int (by omega)]; omega), ix_nI (by omega) (by omega), wr_eq, show nI i + 1 = nI (i + 1) from nI_add i 1]
      exact a1
    · by_cases c : j = i
      · subst c
        rw [a4 _ (by omega), wt_u_self]
      · exact a3 j (by omega) h2
    · rw [a4 j (by omega), wt_u_nk (by omega)]
theorem c_fill {r n : Nat} (hn : n ≤ 100000) : ∃ s', gJ7_fill_53178 r n s v = some ((), s') ∧ (∀ c, c ≠ r → s' c = s c) ∧ (∀ j, j < n → s' r j = v) ∧ ∀ j, n ≤ j → s' r j = s r j := by
  obtain ⟨s', a1, a2, a3, a4⟩ := c_fill_loop (r := r) (v := v) hn n 0 wt_N s (by omega) (by unfold wt_N; omega)
  exact ⟨s', a1, a2, fun j hj => a3 j (by omega) hj, fun j hj => a4 j (Or.inr hj)⟩
/-- a task that is none -/
def clr (f : Nat → Int32) : Nat → Int32 := fun j => if j = 0 ∨ 17 ≤ j then f j else if j = 7 ∨ (9 ≤ j ∧ j ≤ 13) ∨ j = 15 then -1 else 0
theorem c_clear {T : Nat} : ∃ s', gX7_clear T s = some ((), s') ∧ (∀ c, c ≠ T → c ≠ T + 1 → s' c = s c) ∧ s' T = clr (s T) ∧ ∀ j, j < 12 → s' (T + 1) j = 0 := by
  obtain ⟨s8, f1, f2, f3, -⟩ := c_fill (r := T + 1) (n := 12) (v := 0) (s := wt_u (wt_u (wt_u (wt_u (wt_u (wt_u (wt_u s T 1 0) T 2 0) T 3 0) T 6 0) T 14 0) T 15 (-1)) T 16 0) (by omega)
  obtain ⟨s9, d1, d2, d3⟩ := c_drop (s := s8) (T := T)
  refine ⟨s9, ?_, fun c h1 h2 => ?_, ?_, fun j hj => ?_⟩
  · unfold gX7_clear
    rw [wr_eq, wr_eq, wr_eq, wr_eq, wr_eq, wr_eq, wr_eq, f1, cl_some, d1, cl_some]
  · rw [d2 c h1, f2 c h2, wt_u_ne h1, wt_u_ne h1, wt_u_ne h1, wt_u_ne h1, wt_u_ne h1, wt_u_ne h1, wt_u_ne h1]
  · rw [d3, f2 T (by omega), wt_u_at, wt_u_at, wt_u_at, wt_u_at, wt_u_at, wt_u_at, wt_u_at]
    funext j
    unfold dst clr
    by_cases c1 : j = 4 ∨ j = 5 ∨ j = 8
    · rw [if_pos c1, if_neg (by omega), if_neg (by omega)]
    rw [if_neg c1]
    by_cases c2 : j = 7 ∨ (9 ≤ j ∧ j ≤ 13)
    · rw [if_pos c2, if_neg (by omega), if_pos (by omega)]
    rw [if_neg c2]
    by_cases e : j = 16
    · subst e; rw [mj_upd_self, if_neg (by omega), if_neg (by omega)]
    rw [mj_upd_ne e]
    by_cases e : j = 15
    · subst e; rw [mj_upd_self, if_neg (by omega), if_pos (by omega)]
    rw [mj_upd_ne e]
    by_cases e : j = 14
    · subst e; rw [mj_upd_self, if_neg (by omega), if_neg (by omega)]
    rw [mj_upd_ne e]
    by_cases e : j = 6
    · subst e; rw [mj_upd_self, if_neg (by omega), if_neg (by omega)]
    rw [mj_upd_ne e]
    by_cases e : j = 3
    · subst e; rw [mj_upd_self, if_neg (by omega), if_neg (by omega)]
    rw [mj_upd_ne e]
    by_cases e : j = 2
    · subst e; rw [mj_upd_self, if_neg (by omega), if_neg (by omega)]
    rw [mj_upd_ne e]
    by_cases e : j = 1
    · subst e; rw [mj_upd_self, if_neg (by omega), if_neg (by omega)]
    rw [mj_upd_ne e, if_pos (by omega)]
  · rw [d2 _ (by omega)]
    exact f3 j hj
theorem b5_tf {x : Int32} (ht : t < 6) : ∀ e ∈ tf, (vb5 V t z k x a mode).1 (e.2 + t) = if e.1 = 1 then 1 else if e.1 = 2 then mode else if e.1 = 16 then a else if e.1 = 7 ∨ e.1 = 9 then -1 else 0 := by
  intro e he
  obtain ⟨b1, b2, b3, b4, b5⟩ := vb5_at (V := V) (t := t) (g := z) (z := k) (x := x) (a := a) (mode := mode)
  simp only [tf, List.mem_cons, List.not_mem_nil, or_false] at he
  rcases he with rfl | rfl | rfl | rfl | rfl | rfl | rfl | rfl | rfl | rfl
  · exact b1
  · exact b2
  · rw [vb5_0 (c := 3940) (by omega), vcr_0 ht (by omega) (by omega)]; rfl
  · rw [vb5_0 (c := 3954) (by omega), vcr_0 ht (by omega) (by omega)]; rfl
  · rw [vb5_0 (c := 3961) (by omega), vcr_0 ht (by omega) (by omega)]; rfl
  · rw [vb5_0 (c := 4045) (by omega), vcr_0 ht (by omega) (by omega)]; rfl
  · rw [vb5_0 (c := 3989) (by omega), vcr_f.2]; rfl
  · rw [vb5_0 (c := 3996) (by omega), vcr_0 ht (by omega) (by omega)]; rfl
  · rw [vb5_0 (c := 3975) (by omega), vcr_f.1]; rfl
  · exact b5
theorem b5_ts {x : Int32} (ht : t < 6) : ∀ e ∈ ts, (vb5 V t z k x a mode).1 (e.2 + t) = 0 := by
  intro e he
  have ep := ts_p e he
  have : ∀ e ∈ ts, e.2 ≠ 3975 ∧ e.2 ≠ 3989 ∧ e.2 ≠ 3926 ∧ e.2 ≠ 3933 ∧ e.2 ≠ 4066 ∧ e.2 ≠ 4052 ∧ e.2 ≠ 4059 := by decide
  have := this e he
  rw [vb5_0 (by omega), vcr_0 ht (by omega) (by omega)]
theorem c_b5 (h : RC b lim s V zs fr) (hx : CX b lim) (hI : VI lim B V) (ht : t < 6) (hid : Iid V t) {g id : Nat} {S S8 : wt_S} {x : Int32} (hR : RC b lim (wt_u S (b + 17 + 2 * t) 12 (nI id)) (vs (vps V (vins (g, z, t, 0) V.2.1)) (4066 + t) (nI (0 + 1))) zs' fr') (hc : ∀ c, c ≠ b + 17 + 2 * t → c ≠ b + 17 + 2 * t + 1 → S8 c = S c) (h0 : S8 (b + 17 + 2 * t) 0 = S (b + 17 + 2 * t) 0)
    (hT : ∀ j, 1 ≤ j → j ≤ 16 → j ≠ 14 → S8 (b + 17 + 2 * t) j = if j = 1 then 1 else if j = 2 then mode else if j = 15 then x else if j = 16 then a else if j = 12 then nI id else if j = 7 ∨ (9 ≤ j ∧ j ≤ 13) then -1 else 0) (hs : ∀ j, j < 12 → S8 (b + 17 + 2 * t + 1) j = 0) : RC b lim S8 (vb5 V t g z x a mode) zs' fr' := by
  have hb := hx.b
  have hj := hI.J
  have hmem := hid.2.2.2.2.2.2.2.2
  obtain ⟨b1, b2, b3, b4, b5⟩ := vb5_at (V := V) (t := t) (g := g) (z := z) (x := x) (a := a) (mode := mode)
  have hO0 : OT t V (vb5 V t g z x a mode) := OT.b5 ht
  have hOY : OT t V (vs (vps V (vins (g, z, t, 0) V.2.1)) (4066 + t) (nI (0 + 1))) := (OT.ins rfl).trans (OT.vs ht (vown_t (by omega)))
  have hO := hOY.symm.trans hO0
  have hY : ∀ i, i ≠ 4066 + t → (vs (vps V (vins (g, z, t, 0) V.2.1)) (4066 + t) (nI (0 + 1))).1 i = V.1 i := fun i hi => vs_ne hi
  have hpY := hj.1.ww hOY.1
  have hn0 : (vb5 V t g z x a mode).2.2.1 t = 0 := hid.1
  have e5 : S8 (b + 5) = (wt_u S (b + 17 + 2 * t) 12 (nI id)) (b + 5) := by rw [hc _ (by omega) (by omega), wt_u_ne (by omega)]
  have e6 : S8 (b + 6) = (wt_u S (b + 17 + 2 * t) 12 (nI id)) (b + 6) := by rw [hc _ (by omega) (by omega), wt_u_ne (by omega)]
  have hto : TO b t (wt_u S (b + 17 + 2 * t) 12 (nI id)) S8 := ⟨fun k hk hne => ⟨by rw [hc _ (by omega) (by omega), wt_u_ne (by omega)], by rw [hc _ (by omega) (by omega), wt_u_ne (by omega)]⟩, fun c hc' => by rw [hc _ (by omega) (by omega), wt_u_ne (by omega)]⟩
  have hVX : ∀ q ∈ (vb5 V t g z x a mode).2.1, q.2.2.1 = t → q.2.2.2 = 0 := fun q hq e => by
    rw [vb5_2] at hq
    rcases vins_mem.mp hq with rfl | hq
    · rfl
    · exact absurd e (hmem q hq)
  have hzz : ∀ y ∈ zs', y.1.2.2.1 = t → y.1.2.2.2 = 0 := fun y hy e => by
    have hin : y.1 ∈ zs'.map Prod.fst := List.mem_map.mpr ⟨y, hy, rfl⟩
    rw [hR.1] at hin
    exact hVX y.1 hin e
  refine hR.op hx hpY hO ht hto hj.vfr (fun _ _ => Iff.rfl) (fun y _ _ => by rw [e5, e6]; exact ⟨rfl, rfl⟩) hR.1 (hR.2.1.eq (fun c hc' => by rw [hc _ (by omega) (by omega), wt_u_ne (by omega)])) ⟨fun j hj => ?_, fun j hj => ?_⟩ ⟨⟨?_, fun e he => ?_, fun e he => ?_⟩, ⟨fun _ => ⟨?_, ?_⟩, fun h1 => by rw [hn0] at h1; omega⟩, ⟨fun e => ?_, fun y hy hyt hyn => ?_⟩, ⟨fun y hy h1 h2 => ?_, fun _ => ?_⟩, fun _ => ?_, fun y hy hyt => ?_⟩ ?_
  · have := hR.2.2.1.1 j hj
    rw [wt_u_ne (by omega), hY _ (by omega)] at this
    rw [hc _ (by omega) (by omega), vb5_ne ht (by omega)]; exact this
  · have := hR.2.2.1.2 j hj
    rw [wt_u_ne (by omega), hY _ (by omega)] at this
    rw [hc _ (by omega) (by omega), vb5_ne ht (by omega)]; exact this
  · have := (hR.2.2.2.1 t ht).1.1
    rw [wt_u_nk (by omega)] at this
    rw [h0]; exact this
  · have q : ∀ e ∈ tf, 1 ≤ e.1 ∧ e.1 ≤ 16 ∧ e.1 ≠ 14 ∧ e.1 ≠ 15 ∧ e.1 ≠ 12 ∧ ((e.1 = 7 ∨ (9 ≤ e.1 ∧ e.1 ≤ 13)) ↔ (e.1 = 7 ∨ e.1 = 9)) := by decide
    obtain ⟨q1, q2, q3, q4, q5, q6⟩ := q e he
    rw [hT _ q1 q2 q3, b5_tf ht e he]
    by_cases c1 : e.1 = 1
    · rw [if_pos c1, if_pos c1]
    rw [if_neg c1, if_neg c1]
    by_cases c2 : e.1 = 2
    · rw [if_pos c2, if_pos c2]
    rw [if_neg c2, if_neg c2, if_neg q4]
    by_cases c3 : e.1 = 16
    · rw [if_pos c3, if_pos c3]
    rw [if_neg c3, if_neg c3, if_neg q5]
    by_cases c4 : e.1 = 7 ∨ e.1 = 9
    · rw [if_pos c4, if_pos (q6.mpr c4)]
    · rw [if_neg c4, if_neg (fun r => c4 (q6.mp r))]
  · have q : ∀ e ∈ ts, e.1 < 12 := by decide
    rw [hs _ (q e he), b5_ts ht e he]
  · rw [hT _ (by omega) (by omega) (by omega), if_neg (by omega), if_neg (by omega), if_neg (by omega), if_neg (by omega), if_neg (by omega), if_pos (by omega)]
  · rw [hT _ (by omega) (by omega) (by omega), if_neg (by omega), if_neg (by omega), if_neg (by omega), if_neg (by omega), if_neg (by omega), if_pos (by omega)]
  · rw [b3] at e; exact absurd e (by decide)
  · rw [hT _ (by omega) (by omega) (by omega), if_neg (by omega), if_neg (by omega), if_neg (by omega), if_neg (by omega), if_pos (by omega)]
    have := (hR.2.2.2.1 t ht).2.2.1.2 y hy hyt (by rw [hzz y hy hyt, vs_at])
    rw [wt_u_self] at this
    exact this
  · have := hzz y hy h1
    omega
  · rw [hT _ (by omega) (by omega) (by omega), if_neg (by omega), if_neg (by omega), if_neg (by omega), if_neg (by omega), if_neg (by omega), if_pos (by omega)]
  · rw [hT _ (by omega) (by omega) (by omega), if_neg (by omega), if_neg (by omega), if_pos (by omega), b4]
  · obtain ⟨u1, u2, u3⟩ := (hR.2.2.2.1 t ht).2.2.2.2.2 y hy hyt
    rw [e5, e6]
    refine ⟨?_, u2, u3⟩
    rw [u1]
    show nI (vud _ (V.2.2.2 t) y.1.2.2.2 (V.2.2.1 t)) = nI (vud _ (V.2.2.2 t) y.1.2.2.2 (V.2.2.1 t))
    rw [hid.1]
    rfl
  · rw [hc _ (by omega) (by omega)]
    have hm := hR.2.2.2.2.1
    rw [wt_u_ne (by omega)] at hm
    exact fun t' ht' => MR_w (fun i i1 i2 => by rw [vb5_ne ht (by omega), hY _ (by omega)]) (hm t' ht')
theorem c_begin (h : RC b lim s V zs fr) (hx : CX b lim) (hI : VI lim B V) (ht : t < 6) (hid : Iid V t) (hf : f < 10) (hs1 : 1 ≤ vsz V.1 f) (hm : mode = 0 ∨ mode = 1) : ∃ s' zs' fr', gX2_begin b (b + 17 + 2 * t) s (nI f) a mode = some (rb ((vbg lim V t f a mode).1 = true), s') ∧ RC b lim s' (vbg lim V t f a mode).2 zs' fr' ∧ TO b t s s' := by
  have hb := hx.b
  have hxm := hx.m
  have hj := hI.J
  obtain ⟨z, hz, z2, z3, z4⟩ := hI.1.1
  have hzn : (V.1 2048).toInt.toNat = z := by rw [hz, nI_int (by omega)]; rfl
  have e0 : s (b + 1) 0 = nI z := (h.2.2.1.1 0 (by omega)).trans hz
  have et : s (b + 17 + 2 * t) 0 = nI t := (h.2.2.2.1 t ht).1.1
  have h12 : s (b + 17 + 2 * t) 12 = -1 := (h.2.2.2.1 t ht).2.2.1.1 hid.2.2.1
  have hmem := hid.2.2.2.2.2.2.2.2
  unfold gX2_begin vbg
  rw [hzn, e0, et]
  cases e : vgap lim 0 V.2.1 z with
  | none =>
    rw [(c_take h.2.1 (by rw [h.1]; exact hj.2.1) ⟨by omega, by omega⟩ hx.2.2).1 (by rw [h.1]; exact e), cl_some, if_neg (by simp)]
    exact ⟨s, zs, fr, by rw [rb_neg (by simp)], h, TO.refl⟩
  | some g =>
    dsimp only
    have hlen : zs.length < 256 := by
      have := Vlen hj.2.1 (fun q hq => by have := hI.2.2.1.2.2 q hq; omega) z2 z4 (Nat.le_refl z) e
      rw [← h.1, List.length_map] at this
      exact this
    obtain ⟨id, s1, zs1, fr1, a1, a2, a3, a4⟩ := c_new h hx hj ht (n := 0) (words := z) (g := g) hid.2.2.1 (by omega) (fun q hq e => absurd e (hmem q hq)) (fun i hi => by rw [hid.1] at hi; omega) ⟨by omega, by omega⟩ hlen e
    rw [h12] at a1
    obtain ⟨s3, c1, c2, c3, c4⟩ := c_clear (s := s1) (T := b + 17 + 2 * t)
    rw [a1, cl_some, if_pos (nI_m1 (by omega)), c1, cl_some, wr_eq, wr_eq, wr_eq, wr_eq, wr_eq]
    obtain ⟨hP, hsd⟩ := b5_pre (a := a) (x := nI f) hI hx.2.2 ht hid hz (by omega) e hm
    have hO0 : OT t V (vb5 V t g z (nI f) a mode) := OT.b5 ht
    generalize hS8 : wt_u (wt_u (wt_u (wt_u (wt_u s3 (b + 17 + 2 * t) 1 1) (b + 17 + 2 * t) 2 mode) (b + 17 + 2 * t) 15 (nI f)) (b + 17 + 2 * t) 16 a) (b + 17 + 2 * t) 12 (nI id) = S8
    have f8 : ∀ c, c ≠ b + 17 + 2 * t → S8 c = s3 c := fun c hc => by rw [← hS8, wt_u_ne hc, wt_u_ne hc, wt_u_ne hc, wt_u_ne hc, wt_u_ne hc]
    have f8T : S8 (b + 17 + 2 * t) = mj_upd (mj_upd (mj_upd (mj_upd (mj_upd (clr (s1 (b + 17 + 2 * t))) 1 1) 2 mode) 15 (nI f)) 16 a) 12 (nI id) := by rw [← hS8, wt_u_at, wt_u_at, wt_u_at, wt_u_at, wt_u_at, c3]
    have hR8 : RC b lim S8 (vb5 V t g z (nI f) a mode) zs1 fr1 := by
      refine c_b5 h hx hI ht hid a3 (fun c h1 h2 => by rw [f8 c h1, c2 c h1 h2]) ?_ (fun j j1 j2 j3 => ?_) (fun j hj => by rw [f8 _ (by omega)]; exact c4 j hj)
      · rw [f8T, mj_upd_ne (by omega), mj_upd_ne (by omega), mj_upd_ne (by omega), mj_upd_ne (by omega), mj_upd_ne (by omega)]
        unfold clr
        rw [if_pos (by omega)]
      · rw [f8T]
        by_cases d1 : j = 1
        · subst d1; rw [if_pos rfl, mj_upd_ne (by omega), mj_upd_ne (by omega), mj_upd_ne (by omega), mj_upd_ne (by omega), mj_upd_self]
        rw [if_neg d1]
        by_cases d2 : j = 2
        · subst d2; rw [if_pos rfl, mj_upd_ne (by omega), mj_upd_ne (by omega), mj_upd_ne (by omega), mj_upd_self]
        rw [if_neg d2]
        by_cases d3 : j = 15
        · subst d3; rw [if_pos rfl, mj_upd_ne (by omega), mj_upd_ne (by omega), mj_upd_self]
        rw [if_neg d3]
        by_cases d4 : j = 16
        · subst d4; rw [if_pos rfl, mj_upd_ne (by omega), mj_upd_self]
        rw [if_neg d4]
        by_cases d5 : j = 12
        · subst d5; rw [if_pos rfl, mj_upd_self]
        rw [if_neg d5, mj_upd_ne d5, mj_upd_ne d4, mj_upd_ne d3, mj_upd_ne d2, mj_upd_ne d1]
        unfold clr
        rw [if_neg (by omega)]
        by_cases d6 : j = 7 ∨ (9 ≤ j ∧ j ≤ 13)
        · rw [if_pos d6, if_pos (by omega)]
        · rw [if_neg d6, if_neg (by omega)]
    have hto8 : TO b t s S8 := (TO.pf a4).trans ⟨fun k hk hne => ⟨by rw [f8 _ (by omega), c2 _ (by omega) (by omega)], by rw [f8 _ (by omega), c2 _ (by omega) (by omega)]⟩, fun c hc => by rw [f8 _ (by omega), c2 _ (by omega) (by omega)]⟩
    obtain ⟨b1, b2, b3, b4, b5⟩ := vb5_at (V := V) (t := t) (g := g) (z := z) (x := nI f) (a := a) (mode := mode)
    obtain ⟨k, k1, k2⟩ := hI.2.2.2.2.1
    obtain ⟨z5, y1, y2, y3⟩ := hI.1.2.2.2.1
    have hbp : (vb5 V t g z (nI f) a mode).1 (2238 + f) = V.1 (2238 + f) := vb5_ne ht (by omega)
    have hn0 : (vb5 V t g z (nI f) a mode).2.2.1 t = 0 := hid.1
    have h89 : (vb5 V t g z (nI f) a mode).1 (3989 + t) = -1 := by rw [vb5_0 (c := 3989) (by omega)]; exact vcr_f.2
    have hs2 : 1 ≤ vsz (vb5 V t g z (nI f) a mode).1 f := by rw [(hO0.1.sz hf).1]; exact hs1
    have hk8 : (vb5 V t g z (nI f) a mode).1 2067 = nI k := (vb5_ne ht (by omega)).trans k2
    obtain ⟨s9, zs9, fr9, r1, r2, r3⟩ := c_room hR8 hx hP hf hs2 (by rw [vb5_ne ht (by omega)]; exact hI.1.2.2.1) ((vb5_ne ht (by omega)).trans y1) y3 hk8 (by rw [b1]; decide) (Or.inl h89)
    generalize vb5 V t g z (nI f) a mode = X at *
    have hvl : ¬ vlc X t = true := by unfold vlc; rw [hn0]; simp
    rw [if_neg hvl] at r1 r2
    have hnc : ∀ i, i < X.2.2.1 t → ¬ vcv (X.2.2.2 t i) := fun i hi => by rw [hn0] at hi; omega
    obtain ⟨v1, v2, -⟩ := vrm_inv hP hf hs2 hk8 hnc
    rw [r1, cl_some]
    unfold vcl
    rw [if_neg hvl]
    generalize hres : vrm lim X t f = res at *
    obtain ⟨bb, V1⟩ := res
    cases bb with
    | false =>
      exact ⟨s9, zs9, fr9, by rw [rb_pos rfl]; rfl, r2, hto8.trans r3⟩
    | true =>
      obtain ⟨q1, q2, q3, -, q5, np2, q6, q7⟩ := v1 rfl
      have r2 : RC b lim s9 V1 zs9 fr9 := r2
      have q1 : VJ lim V1 := q1
      have q6 : Icn V1 t np2 := q6
      have q7 : vud X.1 (X.2.2.2 t) (np2 - 1) (X.2.2.1 t) + vnd X.1 f ≤ vln V1.2.1 t (np2 - 1) := q7
      have hnd := vnd_ge (w := X.1) hP.1.1 hf
      have hw : vpe X.1 V1.1 := fun i hi => q5 i (fun q => by unfold vrs vgs at q; omega)
      have hud := (hw.us (fr := X.2.2.2 t) (n := X.2.2.1 t) (k := np2 - 1) (fun i hi => by rw [hn0] at hi; omega)).2
      have hr : vud V1.1 (V1.2.2.2 t) (np2 - 1) (V1.2.2.1 t) + vwd V1.1 f ≤ vln V1.2.1 t (np2 - 1) := by
        rw [show V1.2.2.2 = X.2.2.2 by rw [q2], show V1.2.2.1 = X.2.2.1 by rw [q2], hud, (hw.sz hf).2.1]
        omega
      have hs3 : 1 ≤ vsz V1.1 f := by rw [(hw.sz hf).1]; exact hs2
      have hfree := (q6.free (f := f) q1 ht hr).1
      have hwf : vwd V1.1 f = vsz V1.1 f + 2 := rfl
      have key : ∀ cvn, cvn ≤ 1024 → ∃ s', (if nI cvn = ((-1) : Int32) then some (1, s9) else (wt_cl (gX2_pushFrame b (b + 17 + 2 * t) s9 (nI f) (nI cvn)) fun _ s11 => (wt_cl (gX6_isPointer 5 s11 (nI f) 0) fun v13 s12 => (if v13 ≠ (0 : Int32) then some (1, s12) else (wt_cl (gX3_put b s12 ((s12 (b + 17 + 2 * t) 11) + 2) a) fun _ s14 => some (1, s14)))))) = some ((1 : Int32), s') ∧ RC b lim s' (vpu V1 t f (0 + cvn) (if bt (V.1 (2238 + f)) 0 then 0 else a) none) zs9 fr9 ∧ TO b t s9 s' := fun cvn hcv => by
        obtain ⟨s11, id, p1, p2, p3, p4⟩ := c_pushP (bw := nI cvn) r2 hx q1 q6 ht hf hr
        have hRP1 : RP 5 s11 V1.1 := r2.2.2.2.2.2.eq q1.1 vpe.refl (fun c c1 c2 => p4.1 c (by omega) (by omega) (by omega))
        have e11' : s11 (b + 17 + 2 * t) 11 = nI (vnx V1 t) := p4.2.2.2.2.2.2.2.2.2.1
        have hbt : V1.1 (2238 + f) = V.1 (2238 + f) := (hw.sz hf).2.2.2.trans hbp
        rw [Nat.zero_add, if_neg (nI_m1 (by omega)), p2, cl_some, c_isPointer0 hRP1 hf, cl_some, if_rbn, hbt]
        have hvs : vsw V1.1 (vpl V1 t) (vfn V1 t f cvn (if bt (V.1 (2238 + f)) 0 then 0 else a) none) 0 = if bt (V.1 (2238 + f)) 0 then -1 else a := by
          unfold vsw
          show (if bt (V1.1 (2238 + f)) 0 then (match (if (0 : Nat) = 0 then (none : Option (Nat × Nat)) else none) with | none => (-1 : Int32) | some q => nI (vpl V1 t q.1 + 2 + q.2)) else (if (0 : Nat) = 0 then (if bt (V.1 (2238 + f)) 0 then 0 else a) else 0)) = _
          rw [hbt]
          by_cases c : bt (V.1 (2238 + f)) 0
          · rw [if_pos c, if_pos c]; rfl
          · rw [if_neg c, if_neg c, if_pos rfl, if_neg c]
        by_cases c : bt (V.1 (2238 + f)) 0
        · simp only [if_pos c] at hvs ⊢
          have hz := p4.2.2.2.2.1 0 (by omega)
          unfold vdf at hz
          rw [hbt, if_pos c] at hz
          obtain ⟨t1, t2⟩ := c_pu (s2 := s11) (bk := cvn) (a := 0) (q := none) r2 hx q1 q6 ht hf hs3 hr p3 p4 (fun _ _ => rfl) (fun _ _ => rfl) (hz.trans hvs.symm) (fun p hp => by cases hp)
          exact ⟨s11, rfl, t1, t2⟩
        · simp only [if_neg c] at hvs ⊢
          rw [e11', show nI (vnx V1 t) + 2 = nI (vnx V1 t + 2) from nI_add _ 2, c_put (by omega), cl_some]
          obtain ⟨t1, t2⟩ := c_pu (s2 := wt_u s11 (b + 15) (vnx V1 t + 2) a) (bk := cvn) (a := a) (q := none) r2 hx q1 q6 ht hf hs3 hr p3 p4 (fun c hc => wt_u_ne hc) (fun x hx => wt_u_nk hx) (by rw [wt_u_self]; exact hvs.symm) (fun p hp => by cases hp)
          exact ⟨_, rfl, t1, t2⟩
      simp only [if_true]
      by_cases cm : vmg X.1 f = true
      · simp only [if_pos cm]
        obtain ⟨s', e1, e2, e3⟩ := key 1024 (by omega)
        exact ⟨s', zs9, fr9, e1, e2, (hto8.trans r3).trans e3⟩
      · simp only [if_neg cm]
        obtain ⟨s', e1, e2, e3⟩ := key 0 (by omega)
        exact ⟨s', zs9, fr9, e1, e2, (hto8.trans r3).trans e3⟩
theorem wl_bg (hI : VI lim B V) (hlm : lim ≤ 10000) (ht : t < 6) (hid : Iid V t) (hf : f < 10) (hs1 : 1 ≤ vsz V.1 f) (hm : mode = 0 ∨ mode = 1) : WL (vbg lim V t f a mode).2 t := by
  obtain ⟨z, hz, z2, z3, z4⟩ := hI.1.1
  have hzn : (V.1 2048).toInt.toNat = z := by rw [hz, nI_int (by omega)]; rfl
  unfold vbg
  rw [hzn]
  cases e : vgap lim 0 V.2.1 z with
  | none =>
    refine WL.no ?_
    show V.1 (3926 + t) ≠ 2
    rcases hid.2.2.2.2.2.2.2.1 with g | g | g <;> rw [g] <;> decide
  | some g =>
    obtain ⟨hP, hsd⟩ := b5_pre (a := a) (x := nI f) hI hlm ht hid hz (by omega) e hm
    obtain ⟨k, k1, k2⟩ := hI.2.2.2.2.1
    have hO0 : OT t V (vb5 V t g z (nI f) a mode) := OT.b5 ht
    have := vcl_26 (bk := 0) (h2 := (if bt (V.1 (2238 + f)) 0 then 0 else a, none)) hP hf (by rw [(hO0.1.sz hf).1]; exact hs1) ((vb5_ne ht (by omega)).trans k2)
    rw [vb5_at.1] at this
    exact WL.no (by rcases this with e | e <;> rw [e] <;> decide)
end
