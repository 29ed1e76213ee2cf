/-! ===== the reference: image, land, alone ===== -/
theorem q_copies {r1 r2 : Nat} (hne : r1 ≠ r2) {s : wt_S} : ∃ g, gX11_copies r1 4073 r2 4073 s = some ((), wt_uf s r2 g) ∧ ∀ k, k < 4073 → g k = s r1 k := by
  have loop : ∀ (m k fu : Nat) (g : Nat → Int32), k + m = 4073 → m < fu → (∀ j, j < k → g j = s r1 j) → ∃ g', gX11_copies_2 r1 4073 r2 4073 fu (wt_uf s r2 g) (nI k) = some ((), wt_uf s r2 g') ∧ ∀ k, k < 4073 → g' k = s r1 k := by
    intro m
    induction m with
    | zero =>
      intro k fu g hk hfu hg
      obtain ⟨fu, rfl⟩ : ∃ m, fu = m + 1 := ⟨fu - 1, by omega⟩
      rw [gX11_copies_2, nI_int (by omega), if_pos (by show (4073 : Int) ≤ _; omega)]
      exact ⟨g, rfl, fun j hj => hg j (by omega)⟩
    | succ m ih =>
      intro k fu g hk hfu hg
      obtain ⟨fu, rfl⟩ : ∃ m, fu = m + 1 := ⟨fu - 1, by omega⟩
      rw [gX11_copies_2, nI_int (by omega), if_neg (by show ¬ (4073 : Int) ≤ _; omega), ix_nI (by omega) (by omega), ix_nI (by omega) (by omega), wr_eq, nI_1, u_uf, uf_uf, wt_uf_at, wt_uf_ne hne]
      refine ih (k + 1) fu _ (by omega) (by omega) (fun j hj => ?_)
      by_cases e : j = k
      · subst e; rw [mj_upd_self]
      · rw [mj_upd_ne e]; exact hg j (by omega)
  have := loop 4073 0 wt_N (s r2) (by omega) (by unfold wt_N; omega) (fun j hj => by omega)
  rw [uf_self] at this
  exact this
theorem RR.eq {w w' : Nat → Int32} {V : vV} (h : RR w V) (he : ∀ i, i < 4073 → w' i = w i) : RR w' V :=
  h.mk' (fun i hi => (he i (by unfold vtr at hi; omega)).trans (h.at hi)) (vr_P_eq (fun i h1 h2 => he i (by omega)) h.2.1) (fun p hp => he p (by omega)) (fun _ hm => hm)
/-- what else of the store stays behind a thought -/
def RH (s s' : wt_S) : Prop := (∀ c, c < 110 → s' c = s c) ∧ s' 113 = s 113 ∧ s' 110 4 = s 110 4
theorem RH.of {s s' : wt_S} (h : RF s s') : RH s s' := ⟨h.1, h.2.2.1, h.2.2.2.1⟩
theorem RH.trans {s s1 s2 : wt_S} (h : RH s s1) (h' : RH s1 s2) : RH s s2 := ⟨fun c hc => (h'.1 c hc).trans (h.1 c hc), h'.2.1.trans h.2.1, h'.2.2.trans h.2.2⟩
theorem RH.uf {s : wt_S} {f : Nat → Int32} {a : Nat} (ha : a = 111 ∨ a = 112 ∨ 114 ≤ a) : RH s (wt_uf s a f) :=
  ⟨fun c hc => wt_uf_ne (by omega), wt_uf_ne (by omega), by rw [wt_uf_ne (by omega)]⟩
section
variable {s : wt_S} {V Vk : vV} {t B : Nat}
/-- the reference, with its image -/
def RQ (B : Nat) (s : wt_S) (V Vk : vV) : Prop := RS s V ∧ VI 2048 B V ∧ (s 110 4 = 0 ∨ (s 110 4 = 1 ∧ RR (s 113) Vk ∧ VI 2048 B Vk))
theorem RQ.mk2 {B' : Nat} {s' : wt_S} {V' : vV} (h : RQ B s V Vk) (h1 : RS s' V') (h2 : VI 2048 B' V') (hB : B ≤ B') (h3 : RH s s') : RQ B' s' V' Vk := by
  refine ⟨h1, h2, ?_⟩
  rw [h3.2.2, h3.2.1]
  rcases h.2.2 with e | ⟨e1, e2, e3⟩
  · exact Or.inl e
  · exact Or.inr ⟨e1, e2, e3.mono hB⟩
theorem k_image {x : Int32} (h : RQ B s V Vk) : ∃ s' V' Vk', gX11_image s x = some ((if x ≠ 0 then 1 else s 110 4), s') ∧ RQ B s' V' Vk' ∧ s' 110 4 = (if x ≠ 0 then 1 else s 110 4) ∧ ∀ c, c < 110 → s' c = s c := by
  obtain ⟨h1, h2, h3⟩ := h
  unfold gX11_image gX11_image_13 gX11_image_42
  by_cases cx : x ≠ 0
  · obtain ⟨g, e1, e2⟩ := q_copies (r1 := 111) (r2 := 113) (by omega) (s := s)
    rw [if_pos cx, if_neg cx, e1, cl_some, wr_eq, if_pos cx]
    refine ⟨_, V, V, rfl, ⟨⟨?_, ?_⟩, h2, Or.inr ⟨wt_u_self, ?_, h2⟩⟩, wt_u_self, fun c hc => by rw [wt_u_ne (by omega), wt_uf_ne (by omega)]⟩
    · rw [wt_u_nk (by omega), wt_uf_ne (by omega)]; exact h1.1
    · rw [wt_u_ne (by omega), wt_uf_ne (by omega)]; exact h1.2
    · rw [wt_u_ne (by omega), wt_uf_at]
      exact h1.2.eq e2
  · have cx : x = 0 := by simpa using cx
    subst cx
    rw [if_neg (by simp), if_neg (by simp)]
    rcases h3 with e | ⟨e, k1, k2⟩
    · rw [if_neg (by rw [e]; simp), e]
      exact ⟨s, V, Vk, rfl, ⟨h1, h2, Or.inl e⟩, e, fun _ _ => rfl⟩
    · obtain ⟨g, e1, e2⟩ := q_copies (r1 := 113) (r2 := 111) (by omega) (s := s)
      rw [if_pos (by rw [e]; decide), if_pos rfl, e1, cl_some, wr_eq, e]
      refine ⟨_, Vk, Vk, rfl, ⟨⟨?_, ?_⟩, k2, Or.inr ⟨wt_u_self, ?_, k2⟩⟩, wt_u_self, fun c hc => by rw [wt_u_ne (by omega), wt_uf_ne (by omega)]⟩
      · rw [wt_u_nk (by omega), wt_uf_ne (by omega)]; exact h1.1
      · rw [wt_u_ne (by omega), wt_uf_at]; exact k1.eq e2
      · rw [wt_u_ne (by omega), wt_uf_ne (by omega)]; exact k1
/-- back from a thought -/
theorem k_back {s1 s2 : wt_S} {V2 : vV} {v : Int32} (h : RS s V) {g : Nat → Int32} (hg : ∀ k, k < 4073 → g k = s 111 k) (e1 : s1 = wt_uf s 112 g) (h2 : RS s2 V2) (hf : RF s1 s2) : Ok (fun _ s' => RS s' V ∧ RH s s') (wt_cl (gX11_copies 112 4073 111 4073 s2) fun _ s3 => some (v, s3)) := by
  obtain ⟨g2, f1, f2⟩ := q_copies (r1 := 112) (r2 := 111) (by omega) (s := s2)
  rw [f1, cl_some]
  have h12 : s2 112 = g := by rw [hf.2.1, e1, wt_uf_at]
  refine ok_some ⟨⟨?_, ?_⟩, ?_⟩
  · rw [wt_uf_ne (by omega)]; exact h2.1
  · rw [wt_uf_at]
    exact h.2.eq (fun i hi => by rw [f2 i hi, h12, hg i hi])
  · have hh : RH s s1 := by rw [e1]; exact RH.uf (Or.inr (Or.inl rfl))
    exact hh.trans ((RH.of hf).trans (RH.uf (Or.inl rfl)))
theorem RS.a112 {g : Nat → Int32} (h : RS s V) : RS (wt_uf s 112 g) V := ⟨by rw [wt_uf_ne (by omega)]; exact h.1, by rw [wt_uf_ne (by omega)]; exact h.2⟩
theorem k_land {x n what : Int32} (h : RS s V) (hI : VI 2048 B V) (hB : B < 2147480000) : Ok (fun _ s' => RS s' V ∧ RH s s') (gX11_land s x n what) := by
  have r0 : RS s V ∧ RH s s := ⟨h, ⟨fun _ _ => rfl, rfl, rfl⟩⟩
  unfold gX11_land
  rw [q_isTask, cl_some, if_rb]
  refine ok_if (fun c1 => ?_) (fun _ => ok_some r0)
  obtain ⟨t, ht, rfl, etn⟩ := i_task c1
  rw [q_isIn, cl_some, if_rb]
  refine ok_if (fun c2 => ?_) (fun _ => ok_some r0)
  rw [q_isIn, cl_some, if_rbn]
  refine ok_if (fun c3 => ?_) (fun _ => ok_some r0)
  obtain ⟨m, m1, rfl, m3, m4⟩ := i_nat (x := n) (by have : (1 : Int) ≤ n.toInt := c2.1; omega)
  have hm : (nI m).toInt ≤ 200 := c2.2
  obtain ⟨g, e1, e2⟩ := q_copies (r1 := 111) (r2 := 112) (by omega) (s := s)
  obtain ⟨s2, f1, f2, f3, f4⟩ := q_runs (Z := vZ) hd_all ht m 0 wt_N B (wt_uf s 112 g) V (by unfold wt_N; omega) (by omega) h.a112 hI (by omega)
  rw [Nat.zero_add] at f1
  have f1 : gX11_runs (wt_uf s 112 g) (nI t) (nI m) = _ := f1
  rw [e1, cl_some, f1, cl_some]
  have fin : ∀ v, Ok (fun _ s' => RS s' V ∧ RH s s') (gX11_land_123 s2 v) := fun v => k_back h e2 rfl f2 f3
  refine ok_if (fun _ => ok_if (fun _ => ok_if (fun _ => ok_if (fun _ => ?_) (fun _ => ?_)) (fun _ => ?_)) (fun _ => ?_)) (fun _ => ?_)
  · rw [li_add, ix_nI (by omega) (by omega)]; exact fin _
  · rw [q_wordsOf f2.2.2.1 f4.J.2.1 ht, cl_some]; exact fin _
  · rw [li_add, ix_nI (by omega) (by omega)]; exact fin _
  · rw [li_add, ix_nI (by omega) (by omega)]; exact fin _
  · rw [li_add, ix_nI (by omega) (by omega)]; exact fin _
/-- a task is none any more -/
theorem vi_no (hI : VI 2048 B V) (ht : t < 6) : VI 2048 B (vcr (vga V t) t) := by
  obtain ⟨g1, g2⟩ := vga_is (hI.sid ht) ht
  refine hI.idl ht (vga_2 (V := V)) (fun i hi => ?_) (fun k hk => ?_) ?_ ⟨vcr_0 (c := 3954) ht (by omega) (by omega), vcr_0 (c := 4066) ht (by omega) (by omega), vcr_0 (c := 3961) ht (by omega) (by omega), vcr_f.1, vcr_f.2, vcr_0 (c := 3996) ht (by omega) (by omega), Or.inl (vcr_0 (c := 3926) ht (by omega) (by omega))⟩
  · rw [vcr_ne ht (by omega), g1 i (by omega)]
  · rw [vcr_ne ht (by omega), g2 k hk]
  · obtain ⟨k, k1, k2⟩ := hI.2.2.2.2.1
    exact ⟨k, k1, by rw [vcr_ne ht (by omega), g1 _ (by omega)]; exact k2⟩
theorem vno_by (hI : VI 2048 B V) (ht : t < 6) {j : Nat} (hj : j < 6) : vby (vcr (vga V t) t) j = (if j = t then false else vby V j) := by
  obtain ⟨g1, g2⟩ := vga_is (hI.sid ht) ht
  unfold vby
  by_cases e : j = t
  · subst e
    rw [if_pos rfl, vcr_0 (c := 3926) ht (by omega) (by omega)]
    decide
  · rw [if_neg e, vcr_ne ht (by omega), g1 _ (by omega)]
theorem k_alone1 {f : Nat} {a mode : Int32} (hf : f < 10) (hm : mode = 0 ∨ mode = 1) (h : RS s V) (hI : VI 2048 B V) (hB : B < 2147400000) (hs1 : 1 ≤ vsz V.1 f) : Ok (fun _ s' => RF s s' ∧ ∃ V', RS s' V' ∧ VI 2048 (B + 8003) V' ∧ vpe V.1 V'.1) (gX11_runsAlone s (nI f) a mode) := by
  sorry
end
