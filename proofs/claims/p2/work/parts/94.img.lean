/-! ===== the reference: image, land, alone ===== -/
theorem q_copies {r1 r2 : Nat} (hne : r1 ≠ r2) {s : wt_S} : ∃ g, gX11_copies r1 4073 r2 4073 s = some ((), wt_uf s r2 g) ∧ ∀ k, k < 4073 → g k = s r1 k := by
  have loop : ∀ (m k fu : Nat) (g : Nat → Int32), k + m = 4073 → m < fu → (∀ j, j < k → g j = s r1 j) → ∃ g', gX11_copies_2 r1 4073 r2 4073 fu (wt_uf s r2 g) (nI k) = some ((), wt_uf s r2 g') ∧ ∀ k, k < 4073 → g' k = s r1 k := by
    intro m
    induction m with
    | zero =>
      intro k fu g hk hfu hg
      obtain ⟨fu, rfl⟩ : ∃ m, fu = m + 1 := ⟨fu - 1, by omega⟩
      rw [gX11_copies_2, nI_int (by omega), if_pos (by show (4073 : Int) ≤ _; omega)]
      exact ⟨g, rfl, fun j hj => hg j (by omega)⟩
    | succ m ih =>
      intro k fu g hk hfu hg
      obtain ⟨fu, rfl⟩ : ∃ m, fu = m + 1 := ⟨fu - 1, by omega⟩
      rw [gX11_copies_2, nI_int (by omega), if_neg (by show ¬ (4073 : Int) ≤ _; omega), ix_nI (by omega) (by omega), ix_nI (by omega) (by omega), wr_eq, nI_1, u_uf, uf_uf, wt_uf_at, wt_uf_ne hne]
      refine ih (k + 1) fu _ (by omega) (by omega) (fun j hj => ?_)
      by_cases e : j = k
      · subst e; rw [mj_upd_self]
      · rw [mj_upd_ne e]; exact hg j (by omega)
  have := loop 4073 0 wt_N (s r2) (by omega) (by unfold wt_N; omega) (fun j hj => by omega)
  rw [uf_self] at this
  exact this
theorem RR.eq {w w' : Nat → Int32} {V : vV} (h : RR w V) (he : ∀ i, i < 4073 → w' i = w i) : RR w' V :=
  h.mk' (fun i hi => (he i (by unfold vtr at hi; omega)).trans (h.at hi)) (vr_P_eq (fun i h1 h2 => he i (by omega)) h.2.1) (fun p hp => he p (by omega)) (fun _ hm => hm)
/-- what else of the store stays behind a thought -/
def RH (s s' : wt_S) : Prop := (∀ c, c < 110 → s' c = s c) ∧ s' 113 = s 113 ∧ s' 110 4 = s 110 4
theorem RH.of {s s' : wt_S} (h : RF s s') : RH s s' := ⟨h.1, h.2.2.1, h.2.2.2.1⟩
theorem RH.trans {s s1 s2 : wt_S} (h : RH s s1) (h' : RH s1 s2) : RH s s2 := ⟨fun c hc => (h'.1 c hc).trans (h.1 c hc), h'.2.1.trans h.2.1, h'.2.2.trans h.2.2⟩
theorem RH.uf {s : wt_S} {f : Nat → Int32} {a : Nat} (ha : a = 111 ∨ a = 112 ∨ 114 ≤ a) : RH s (wt_uf s a f) :=
  ⟨fun c hc => wt_uf_ne (by omega), wt_uf_ne (by omega), by rw [wt_uf_ne (by omega)]⟩
section
variable {s : wt_S} {V Vk : vV} {t B : Nat}
/-- the reference, with its image -/
def RQ (B : Nat) (s : wt_S) (V Vk : vV) : Prop := RS s V ∧ VI 2048 B V ∧ (s 110 4 = 0 ∨ (s 110 4 = 1 ∧ RR (s 113) Vk ∧ VI 2048 B Vk))
theorem RQ.mk2 {B' : Nat} {s' : wt_S} {V' : vV} (h : RQ B s V Vk) (h1 : RS s' V') (h2 : VI 2048 B' V') (hB : B ≤ B') (h3 : RH s s') : RQ B' s' V' Vk := by
  refine ⟨h1, h2, ?_⟩
  rw [h3.2.2, h3.2.1]
  rcases h.2.2 with e | ⟨e1, e2, e3⟩
  · exact Or.inl e
  · exact Or.inr ⟨e1, e2, e3.mono hB⟩
theorem k_image {x : Int32} (h : RQ B s V Vk) : ∃ s' V' Vk', gX11_image s x = some ((if x ≠ 0 then 1 else s 110 4), s') ∧ RQ B s' V' Vk' ∧ s' 110 4 = (if x ≠ 0 then 1 else s 110 4) ∧ ∀ c, c < 110 → s' c = s c := by
  obtain ⟨h1, h2, h3⟩ := h
  unfold gX11_image gX11_image_13 gX11_image_42
  by_cases cx : x ≠ 0
  · obtain ⟨g, e1, e2⟩ := q_copies (r1 := 111) (r2 := 113) (by omega) (s := s)
    rw [if_pos cx, if_neg cx, e1, cl_some, wr_eq, if_pos cx]
    refine ⟨_, V, V, rfl, ⟨⟨?_, ?_⟩, h2, Or.inr ⟨wt_u_self, ?_, h2⟩⟩, wt_u_self, fun c hc => by rw [wt_u_ne (by omega), wt_uf_ne (by omega)]⟩
    · rw [wt_u_nk (by omega), wt_uf_ne (by omega)]; exact h1.1
    · rw [wt_u_ne (by omega), wt_uf_ne (by omega)]; exact h1.2
    · rw [wt_u_ne (by omega), wt_uf_at]
      exact h1.2.eq e2
  · have cx0 : x = 0 := by simpa using cx
    have hr : (if x ≠ 0 then (1 : Int32) else s 110 4) = s 110 4 := if_neg cx
    rw [hr, if_neg cx]
    rcases h3 with e | ⟨e, k1, k2⟩
    · rw [if_neg (by rw [e]; simp), e]
      exact ⟨s, V, Vk, rfl, ⟨h1, h2, Or.inl e⟩, e, fun _ _ => rfl⟩
    · obtain ⟨g, e1, e2⟩ := q_copies (r1 := 113) (r2 := 111) (by omega) (s := s)
      rw [if_pos (by rw [e]; decide), if_pos cx0, e1, cl_some, wr_eq, e]
      refine ⟨_, Vk, Vk, rfl, ⟨⟨?_, ?_⟩, k2, Or.inr ⟨wt_u_self, ?_, k2⟩⟩, wt_u_self, fun c hc => by rw [wt_u_ne (by omega), wt_uf_ne (by omega)]⟩
      · rw [wt_u_nk (by omega), wt_uf_ne (by omega)]; exact h1.1
      · rw [wt_u_ne (by omega), wt_uf_at]; exact k1.eq e2
      · rw [wt_u_ne (by omega), wt_uf_ne (by omega)]; exact k1
/-- back from a thought -/
theorem k_back {s1 s2 : wt_S} {V2 : vV} {v : Int32} (h : RS s V) {g : Nat → Int32} (hg : ∀ k, k < 4073 → g k = s 111 k) (e1 : s1 = wt_uf s 112 g) (h2 : RS s2 V2) (hf : RF s1 s2) : Ok (fun _ s' => RS s' V ∧ RH s s') (wt_cl (gX11_copies 112 4073 111 4073 s2) fun _ s3 => some (v, s3)) := by
  obtain ⟨g2, f1, f2⟩ := q_copies (r1 := 112) (r2 := 111) (by omega) (s := s2)
  rw [f1, cl_some]
  have h12 : s2 112 = g := by rw [hf.2.1, e1, wt_uf_at]
  refine ok_some ⟨⟨?_, ?_⟩, ?_⟩
  · rw [wt_uf_ne (by omega)]; exact h2.1
  · rw [wt_uf_at]
    exact h.2.eq (fun i hi => by rw [f2 i hi, h12, hg i hi])
  · have hh : RH s s1 := by rw [e1]; exact RH.uf (Or.inr (Or.inl rfl))
    exact hh.trans ((RH.of hf).trans (RH.uf (Or.inl rfl)))
theorem RS.a112 {g : Nat → Int32} (h : RS s V) : RS (wt_uf s 112 g) V := ⟨by rw [wt_uf_ne (by omega)]; exact h.1, by rw [wt_uf_ne (by omega)]; exact h.2⟩
theorem k_land {x n what : Int32} (h : RS s V) (hI : VI 2048 B V) (hB : B < 2147480000) : Ok (fun _ s' => RS s' V ∧ RH s s') (gX11_land s x n what) := by
  have r0 : RS s V ∧ RH s s := ⟨h, ⟨fun _ _ => rfl, rfl, rfl⟩⟩
  unfold gX11_land
  rw [q_isTask, cl_some, if_rb]
  refine ok_if (fun c1 => ?_) (fun _ => ok_some r0)
  obtain ⟨t, ht, rfl, etn⟩ := i_task c1
  rw [q_isIn, cl_some, if_rb]
  refine ok_if (fun c2 => ?_) (fun _ => ok_some r0)
  rw [q_isIn, cl_some, if_rbn]
  refine ok_if (fun c3 => ?_) (fun _ => ok_some r0)
  obtain ⟨m, m1, rfl, m3, m4⟩ := i_nat (x := n) (by have : (1 : Int) ≤ n.toInt := c2.1; omega)
  have hm : (nI m).toInt ≤ 200 := c2.2
  obtain ⟨g, e1, e2⟩ := q_copies (r1 := 111) (r2 := 112) (by omega) (s := s)
  obtain ⟨s2, f1, f2, f3, f4⟩ := q_runs (Z := vZ) hd_all ht m 0 wt_N B (wt_uf s 112 g) V (by unfold wt_N; omega) (by omega) h.a112 hI (by omega)
  rw [Nat.zero_add] at f1
  have f1 : gX11_runs (wt_uf s 112 g) (nI t) (nI m) = _ := f1
  rw [e1, cl_some, f1, cl_some]
  have fin : ∀ v, Ok (fun _ s' => RS s' V ∧ RH s s') (gX11_land_123 s2 v) := fun v => k_back h e2 rfl f2 f3
  refine ok_if (fun _ => ok_if (fun _ => ok_if (fun _ => ok_if (fun _ => ?_) (fun _ => ?_)) (fun _ => ?_)) (fun _ => ?_)) (fun _ => ?_)
  · rw [li_add, ix_nI (by omega) (by omega)]; exact fin _
  · rw [q_wordsOf f2.2.2.1 f4.J.2.1 ht, cl_some]; exact fin _
  · rw [li_add, ix_nI (by omega) (by omega)]; exact fin _
  · rw [li_add, ix_nI (by omega) (by omega)]; exact fin _
  · rw [li_add, ix_nI (by omega) (by omega)]; exact fin _
/-- a task is none any more -/
theorem vi_no (hI : VI 2048 B V) (ht : t < 6) : VI 2048 B (vcr (vga V t) t) := by
  obtain ⟨g1, g2⟩ := vga_is (hI.sid ht) ht
  refine hI.idl ht (vga_2 (V := V)) (fun i hi => ?_) (fun k hk => ?_) ?_ ⟨vcr_0 (c := 3954) ht (by omega) (by omega), vcr_0 (c := 4066) ht (by omega) (by omega), vcr_0 (c := 3961) ht (by omega) (by omega), vcr_f.1, vcr_f.2, vcr_0 (c := 3996) ht (by omega) (by omega), Or.inl (vcr_0 (c := 3926) ht (by omega) (by omega))⟩
  · rw [vcr_ne ht (by omega), g1 i (by omega)]
  · rw [vcr_ne ht (by omega), g2 k hk]
  · obtain ⟨k, k1, k2⟩ := hI.2.2.2.2.1
    exact ⟨k, k1, by rw [vcr_ne ht (by omega), g1 _ (by omega)]; exact k2⟩
theorem vno_by (hI : VI 2048 B V) (ht : t < 6) {j : Nat} (hj : j < 6) : vby (vcr (vga V t) t) j = (if j = t then false else vby V j) := by
  obtain ⟨g1, g2⟩ := vga_is (hI.sid ht) ht
  unfold vby
  by_cases e : j = t
  · subst e
    rw [if_pos rfl, vcr_0 (c := 3926) ht (by omega) (by omega)]
    decide
  · rw [if_neg e, vcr_ne ht (by omega), g1 _ (by omega)]
/-- the first words may be told anew before -/
theorem vno_se {x : Int32} (h : Sd t V) (ht : t < 6) : vcr (vga (vs V 2048 x) t) t = vs (vcr (vga V t) t) 2048 x := by
  have e89 : (vs V 2048 x).1 (3989 + t) = V.1 (3989 + t) := vs_ne (by omega)
  have hga : (vga (vs V 2048 x) t).1 = mj_upd (vga V t).1 2048 x := by
    funext i
    rw [vga_1, vga_1, e89]
    have hin : (if V.1 (3989 + t) = -1 then (vs V 2048 x).1 else mj_upd (vs V 2048 x).1 (3923 + (V.1 (3989 + t)).toInt.toNat) (-1)) i = mj_upd (if V.1 (3989 + t) = -1 then V.1 else mj_upd V.1 (3923 + (V.1 (3989 + t)).toInt.toNat) (-1)) 2048 x i := by
      by_cases c : V.1 (3989 + t) = -1
      · rw [if_pos c, if_pos c]
        rfl
      · rw [if_neg c, if_neg c]
        show mj_upd (mj_upd V.1 2048 x) _ (-1) i = _
        by_cases e : i = 2048
        · subst e
          rw [mj_upd_self, mj_upd_ne (by omega), mj_upd_self]
        · rw [mj_upd_ne e]
          by_cases e2 : i = 3923 + (V.1 (3989 + t)).toInt.toNat
          · subst e2; rw [mj_upd_self, mj_upd_self]
          · rw [mj_upd_ne e2, mj_upd_ne e2, mj_upd_ne e]
    by_cases e : i = 2048
    · subst e
      rw [mj_upd_self]
      rw [mj_upd_self] at hin
      rw [mj_upd_ne (by omega), mj_upd_ne (by omega), mj_upd_ne (by omega), mj_upd_ne (by omega), mj_upd_ne (by omega), mj_upd_ne (by omega)]
      exact hin
    · rw [mj_upd_ne e]
      rw [mj_upd_ne e] at hin
      by_cases i1 : i = 3975 + t
      · subst i1; rw [mj_upd_self, mj_upd_self]
      · rw [mj_upd_ne i1, mj_upd_ne i1]
        by_cases i2 : i = 3961 + t
        · subst i2; rw [mj_upd_self, mj_upd_self]
        · rw [mj_upd_ne i2, mj_upd_ne i2]
          by_cases i3 : i = 3954 + t
          · subst i3; rw [mj_upd_self, mj_upd_self]
          · rw [mj_upd_ne i3, mj_upd_ne i3]
            by_cases i4 : i = 4066 + t
            · subst i4; rw [mj_upd_self, mj_upd_self]
            · rw [mj_upd_ne i4, mj_upd_ne i4]
              by_cases i5 : i = 3996 + t
              · subst i5; rw [mj_upd_self, mj_upd_self]
              · rw [mj_upd_ne i5, mj_upd_ne i5]
                by_cases i6 : i = 3989 + t
                · subst i6; rw [mj_upd_self, mj_upd_self]
                · rw [mj_upd_ne i6, mj_upd_ne i6]; exact hin
  refine Prod.ext (funext fun i => ?_) ?_
  · show mj_upd (mj_upd (vck (vga (vs V 2048 x) t).1 t 0) (3989 + t) (-1)) (3975 + t) (-1) i = mj_upd (mj_upd (mj_upd (vck (vga V t).1 t 0) (3989 + t) (-1)) (3975 + t) (-1)) 2048 x i
    rw [hga]
    by_cases e : i = 2048
    · subst e
      rw [mj_upd_self, mj_upd_ne (by omega), mj_upd_ne (by omega)]
      unfold vck
      rw [if_neg (by omega), mj_upd_self]
    · rw [mj_upd_ne e]
      by_cases i1 : i = 3975 + t
      · subst i1; rw [mj_upd_self, mj_upd_self]
      · rw [mj_upd_ne i1, mj_upd_ne i1]
        by_cases i2 : i = 3989 + t
        · subst i2; rw [mj_upd_self, mj_upd_self]
        · rw [mj_upd_ne i2, mj_upd_ne i2]
          unfold vck
          rw [mj_upd_ne e]
  · show (vga (vs V 2048 x) t).2 = (vga V t).2
    rw [vga_2, vga_2]
    rfl
theorem vno_pe (h : Sd t V) (ht : t < 6) : vpe V.1 (vcr (vga V t) t).1 := (pe_ga h).1.trans (fun i hi => vcr_ne ht (by omega))
/-- all tasks go -/
theorem k_all {f a mode x : Int32} : ∀ (m k fu : Nat) (s : wt_S) (V : vV), k + m = 6 → m < fu → RS s (vs V 2048 x) → VI 2048 B V → (∀ j, j < k → vby V j = false) → ∃ s' V' fu', gX11_runsAlone_3 fu s f a mode (nI k) = gX11_runsAlone_3 (fu' + 1) s' f a mode (nI 6) ∧ RS s' (vs V' 2048 x) ∧ VI 2048 B V' ∧ (∀ j, j < 6 → vby V' j = false) ∧ vpe V.1 V'.1 ∧ RF s s' := by
  intro m
  induction m with
  | zero =>
    intro k fu s V hk hfu h hI hb
    obtain ⟨fu, rfl⟩ : ∃ m, fu = m + 1 := ⟨fu - 1, by omega⟩
    have : k = 6 := by omega
    subst this
    exact ⟨s, V, fu, rfl, h, hI, hb, vpe.refl, RF.refl⟩
  | succ m ih =>
    intro k fu s V hk hfu h hI hb
    obtain ⟨fu, rfl⟩ : ∃ m, fu = m + 1 := ⟨fu - 1, by omega⟩
    have hk6 : k < 6 := by omega
    have hsd := hI.sid hk6
    have hj : VJ 2048 (vs V 2048 x) := VJ.vs hI.J (by omega)
    obtain ⟨s1, a1, a2, a3⟩ := q_ga hj rfl h hk6 (by rw [vs_ne (by omega)]; exact hsd)
    have b2 := a2.cr (t := k) hk6
    rw [vno_se hsd hk6] at b2
    obtain ⟨s', V', fu', e1, e2, e3, e4, e5, e6⟩ := ih (k + 1) fu _ (vcr (vga V k) k) (by omega) (by omega) b2 (vi_no hI hk6) (fun j hj => by
      rw [vno_by hI hk6 (by omega)]
      by_cases e : j = k
      · rw [if_pos e]
      · rw [if_neg e]; exact hb j (by omega))
    refine ⟨s', V', fu', ?_, e2, e3, e4, (vno_pe hsd hk6).trans e5, RF.trans a3 (RF.trans RF.cr e6)⟩
    rw [gX11_runsAlone_3, nI_int (by omega), if_neg (by show ¬ (6 : Int) ≤ _; omega), a1, cl_some, q_clears hk6, cl_some, nI_1]
    exact e1
theorem vab_all : ∀ {r t : Nat}, (∀ j, t ≤ j → j < t + r → vby V j = false) → vab V r t = false := by
  intro r
  induction r with
  | zero => intro t _; rfl
  | succ r ih =>
    intro t h
    rw [vab, h t (Nat.le_refl _) (by omega), ih (fun j h1 h2 => h j (by omega) (by omega))]
    rfl
theorem k_52 : ∀ (m k fu B : Nat) (s : wt_S) (V : vV) (l4 : Int32), k + m = 2000 → m < fu → RS s V → VI 2048 B V → B + 4 * m < 2147483200 → Ok (fun _ s' => RF s s' ∧ ∃ V', RS s' V' ∧ VI 2048 (B + 4 * m) V' ∧ vpe V.1 V'.1) (gX11_runsAlone_52 fu s l4 (nI k)) := by
  intro m
  induction m with
  | zero =>
    intro k fu B s V l4 hk hfu h hI hB
    obtain ⟨fu, rfl⟩ : ∃ m, fu = m + 1 := ⟨fu - 1, by omega⟩
    rw [gX11_runsAlone_52, nI_int (by omega), if_pos (by show (2000 : Int) ≤ _; omega)]
    exact ok_some ⟨RF.refl, V, h, hI, vpe.refl⟩
  | succ m ih =>
    intro k fu B s V l4 hk hfu h hI hB
    obtain ⟨fu, rfl⟩ : ∃ m, fu = m + 1 := ⟨fu - 1, by omega⟩
    rw [gX11_runsAlone_52, nI_int (by omega), if_neg (by show ¬ (2000 : Int) ≤ _; omega), show (0 : Int32) = nI 0 from rfl, q_busy h (by omega), cl_some]
    show Ok _ (if rb (vby V 0 = true) = 0 then _ else _)
    rw [if_rb]
    refine ok_if (fun c => ?_) (fun _ => ok_some ⟨RF.refl, V, h, hI.mono (by omega), vpe.refl⟩)
    have hb := vby_iff.mp c
    obtain ⟨s1, e1, e2, e3⟩ := q_steps hd_all h hI (by omega) hb (by omega)
    have hI1 := vi_st (Z := vZ) hI (by omega) hb (by omega)
    have hpe := pe_st (Z := vZ) hI (by omega) hb (by omega)
    rw [e1, cl_some, q_wordsOf e2.2.2.1 hI1.J.2.1 (by omega), cl_some]
    unfold gX11_runsAlone_94
    rw [nI_1]
    have fin : ∀ l, Ok (fun _ s' => RF s s' ∧ ∃ V', RS s' V' ∧ VI 2048 (B + 4 * (m + 1)) V' ∧ vpe V.1 V'.1) (gX11_runsAlone_52 fu s1 l (nI (k + 1))) := fun l => ok_im (ih (k + 1) fu (B + 4) s1 (vst 2048 vZ V 0) l (by omega) (by omega) e2 hI1 (by omega)) (fun _ s' ⟨g1, V', g2, g3, g4⟩ => ⟨e3.trans g1, V', g2, g3.mono (by omega), hpe.trans g4⟩)
    exact ok_if (fun _ => fin _) (fun _ => fin _)
theorem vbg_pe {f : Nat} {a mode : Int32} (ht : t < 6) : vpe V.1 (vbg 2048 V t f a mode).2.1 := by
  unfold vbg
  split
  · exact vpe.refl
  · rename_i g _
    refine vpe.trans (w2 := (vb5 V t g (V.1 2048).toInt.toNat (nI f) a mode).1) (fun i hi => vb5_ne ht (by omega)) ?_
    refine (pe_cl (V := vb5 V t g (V.1 2048).toInt.toNat (nI f) a mode) (Or.inl ?_)).1
    rw [vb5_0 (c := 3989) (by omega)]
    exact vcr_f.2
theorem k_alone1 {f z : Nat} {a mode : Int32} (hf : f < 10) (hm : mode = 0 ∨ mode = 1) (hz : 8 ≤ z ∧ z ≤ 2048) (h : RS s (vs V 2048 (nI z))) (hI : VI 2048 B V) (hB : B < 2147400000) (hs1 : 1 ≤ vsz V.1 f) : Ok (fun _ s' => RF s s' ∧ ∃ V', RS s' V' ∧ VI 2048 (B + 8003) V' ∧ vpe V.1 V'.1) (gX11_runsAlone s (nI f) a mode) := by
  obtain ⟨s1, V1, fu', e1, e2, e3, e4, e5, e6⟩ := k_all (B := B) (f := nI f) (a := a) (mode := mode) (x := nI z) 6 0 wt_N s V (by omega) (by unfold wt_N; omega) h hI (fun j hj => by omega)
  have hno : vab V1 6 0 = false := vab_all (fun j h1 h2 => e4 j (by omega))
  have hpe2 : vpe V1.1 (vs V1 2048 (nI z)).1 := vpe.upd (by omega)
  have hI2 : VI 2048 B (vs V1 2048 (nI z)) := by
    refine e3.re2 hno rfl ?_ (e3.2.1.ww hpe2) (fun i h1 h2 => vs_ne (by omega))
    obtain ⟨i1, i2, i3, i4, i5, i6⟩ := e3.1
    unfold Ise
    rw [vs_at, vs_ne (by omega), vs_ne (by omega), vs_ne (by omega), vs_ne (by omega), vs_ne (by omega)]
    exact ⟨⟨z, rfl, by omega, by omega, by omega⟩, i2, i3, i4, i5, i6⟩
  have hid : Iid (vs V1 2048 (nI z)) 0 := hI2.idle (by omega) (by
    have := e4 0 (by omega)
    unfold vby at this ⊢
    rw [vs_ne (by omega)]
    exact this)
  have hpe1 := e5.trans hpe2
  have hs2 : 1 ≤ vsz (vs V1 2048 (nI z)).1 f := by rw [(hpe1.sz hf).1]; exact hs1
  have e2' : RS (wt_u s1 110 10 0) (vs V1 2048 (nI z)) := e2.o (by omega)
  obtain ⟨s2, f1, f2, f3⟩ := q_begins (a := a) e2' hI2 (by omega) (by omega) hid hf hs2 hm
  have hI3 := vi_bg (a := a) hI2 (by omega) (by omega) hid hf hs2 hm
  have f1 : gX11_begins (wt_u s1 110 10 0) 0 (nI f) a mode = _ := f1
  have hw : gX11_wordsOf s2 0 = _ := q_wordsOf (t := 0) f2.2.2.1 hI3.J.2.1 (by omega)
  have e1 : gX11_runsAlone s (nI f) a mode = _ := e1
  rw [e1, gX11_runsAlone_3, nI_int (by omega), if_pos (by decide), wr_eq, f1, cl_some, hw, cl_some]
  have hR : RF s s2 := e6.trans ((RF.uo (by omega) (by omega)).trans f3)
  exact ok_im (k_52 2000 0 wt_N (B + 3) s2 _ _ (by omega) (by unfold wt_N; omega) f2 hI3 (by omega)) (fun _ s' ⟨g1, V', g2, g3, g4⟩ => ⟨hR.trans g1, V', g2, g3.mono (by omega), hpe1.trans ((vbg_pe (by omega)).trans g4)⟩)
theorem k_alone {f a mode what : Int32} (h : RS s V) (hI : VI 2048 B V) (hB : B < 2147300000) : Ok (fun _ s' => RS s' V ∧ RH s s') (gX11_alone s f a mode what) := by
  have r0 : RS s V ∧ RH s s := ⟨h, ⟨fun _ _ => rfl, rfl, rfl⟩⟩
  unfold gX11_alone
  rw [q_isTold, cl_some, if_rb]
  refine ok_if (fun c1 => ?_) (fun _ => ok_some r0)
  obtain ⟨f, f10, rfl, f3, f4⟩ := tld_nat (h.prog.tl.mp c1)
  rw [q_isIn, cl_some, if_rb]
  refine ok_if (fun c2 => ?_) (fun _ => ok_some r0)
  have hm : mode = 0 ∨ mode = 1 := by
    obtain ⟨m, m1, m2, m3, m4⟩ := i_nat (x := mode) c2.1
    have c22 : mode.toInt ≤ 1 := c2.2
    have : m = 0 ∨ m = 1 := by omega
    rw [m2]
    rcases this with rfl | rfl
    · exact Or.inl rfl
    · exact Or.inr rfl
  rw [q_isIn, cl_some, if_rbn]
  refine ok_if (fun c3 => ?_) (fun _ => ok_some r0)
  obtain ⟨g, e1, e2⟩ := q_copies (r1 := 111) (r2 := 112) (by omega) (s := s)
  rw [e1, cl_some]
  have h1 : RS (wt_uf s 112 g) V := h.a112
  have fin : ∀ (s2 : wt_S) (V2 : vV) v, RS s2 V2 → RF (wt_uf s 112 g) s2 → Ok (fun _ s' => RS s' V ∧ RH s s') (gX11_alone_200 s2 v) := fun s2 V2 v g1 g2 => k_back h e2 rfl g1 g2
  refine ok_if (fun _ => ?_) (fun _ => ?_)
  · have step : ∀ (z fu B' : Nat) (s2 : wt_S) (V2 : vV) (l5 : Int32), (8 ≤ z ∧ z ≤ 64) → RS s2 V2 → VI 2048 B' V2 → B' < 2147400000 → vpe V.1 V2.1 → RF (wt_uf s 112 g) s2 → (∀ (s3 : wt_S) (V3 : vV) (l5 : Int32), RS s3 V3 → VI 2048 (B' + 8003) V3 → vpe V.1 V3.1 → RF (wt_uf s 112 g) s3 → Ok (fun _ s' => RS s' V ∧ RH s s') (gX11_alone_155 fu s3 (nI f) a mode l5 (nI (z / 2)))) → Ok (fun _ s' => RS s' V ∧ RH s s') (gX11_alone_155 (fu + 1) s2 (nI f) a mode l5 (nI z)) := by
      intro z fu B' s2 V2 l5 hz g1 g2 g3 g4 g5 hK
      rw [gX11_alone_155, nI_int (by omega), if_neg (by show ¬ _ < (8 : Int); omega), wr_eq]
      have q1 : RS (wt_u s2 111 2048 (nI z)) (vs V2 2048 (nI z)) := g1.u (Or.inl (by omega)) (Or.inl (by omega))
      unfold gX11_alone_191
      rw [nI_half (by omega)]
      refine ok_cl (k_alone1 (a := a) f10 hm (by omega) q1 g2 g3 (by rw [(g4.sz f10).1]; exact f4)) (fun r s3 ⟨k1, V3, k2, k3, k4⟩ => ?_)
      have hr : RF (wt_uf s 112 g) s3 := g5.trans ((RF.uf (Or.inl rfl)).trans k1)
      exact ok_if (fun _ => hK s3 V3 _ k2 k3 (g4.trans k4) hr) (fun _ => hK s3 V3 _ k2 k3 (g4.trans k4) hr)
    have hN : wt_N = 2099999995 + 1 + 1 + 1 + 1 + 1 := rfl
    rw [hN]
    refine step 64 _ B _ V _ (by omega) h1 hI (by omega) vpe.refl RF.refl (fun s3 V3 l3 a1 a2 a3 a4 => ?_)
    refine step 32 _ (B + 8003) s3 V3 _ (by omega) a1 a2 (by omega) a3 a4 (fun s4 V4 l4 b1 b2 b3 b4 => ?_)
    refine step 16 _ (B + 8003 + 8003) s4 V4 _ (by omega) b1 b2 (by omega) b3 b4 (fun s5 V5 l5 c1 c2 c3 c4 => ?_)
    refine step 8 _ (B + 8003 + 8003 + 8003) s5 V5 _ (by omega) c1 c2 (by omega) c3 c4 (fun s6 V6 l6 d1 d2 d3 d4 => ?_)
    rw [gX11_alone_155, nI_int (by omega), if_pos (by decide)]
    exact fin s6 V6 _ d1 d4
  · obtain ⟨z, z1, z2, z3, z4⟩ := hI.1.1
    have hvz : vs V 2048 (nI z) = V := by
      refine Prod.ext (funext fun i => ?_) rfl
      show mj_upd V.1 2048 (nI z) i = V.1 i
      by_cases e : i = 2048
      · subst e; rw [mj_upd_self, z1]
      · rw [mj_upd_ne e]
    refine ok_cl (k_alone1 (z := z) (a := a) (V := V) f10 hm ⟨z2, z3⟩ (by rw [hvz]; exact h1) hI (by omega) f4) (fun r s3 ⟨k1, V3, k2, k3, k4⟩ => ?_)
    unfold gX11_alone_146
    have fin3 := fun v => fin s3 V3 v k2 k1
    exact ok_if (fun _ => ok_if (fun _ => ok_if (fun _ => ok_if (fun _ => ok_if (fun _ => fin3 _) (fun _ => fin3 _)) (fun _ => fin3 _)) (fun _ => fin3 _)) (fun _ => fin3 _)) (fun _ => fin3 _)
end
