/-! ===== the class: a world taken over from another ===== -/
/-- world b of s is world b2 of s0 -/
def WC (b b2 : Nat) (s0 s : wt_S) : Prop := (∀ j, j < 6 → s (b + 1) j = s0 (b2 + 1) j) ∧ (∀ p, p < 2048 → s (b + 15) p = s0 (b2 + 15) p) ∧ (∀ c, 3 ≤ c → c ≤ 8 → ∀ i, i < 256 → s (b + c) i = s0 (b2 + c) i) ∧ (∀ j, 7 ≤ j → j ≤ 9 → s (b + 2) j = s0 (b2 + 2) j) ∧ (∀ k, k < 6 → (∀ j, 1 ≤ j → j ≤ 16 → s (b + 17 + 2 * k) j = s0 (b2 + 17 + 2 * k) j) ∧ ∀ j, j < 12 → s (b + 17 + 2 * k + 1) j = s0 (b2 + 17 + 2 * k + 1) j) ∧ (∀ j, j < 12 → s (b + 13) j = s0 (b2 + 13) j) ∧ s (wt_wo b) 8 = s0 (wt_wo b2) 8
/-- the program is the same -/
def QC (q q2 : Nat) (s0 s : wt_S) : Prop := (∀ i, i < 10 → s (q + 1) i = s0 (q2 + 1) i ∧ s (q + 2) i = s0 (q2 + 2) i ∧ s (q + 3) i = s0 (q2 + 3) i ∧ s (q + 5) i = s0 (q2 + 5) i) ∧ ∀ i, i < 640 → s (q + 4) i = s0 (q2 + 4) i
section
variable {b b2 b3 q q2 q3 lim : Nat} {s s' s0 s1 s2 : wt_S} {V : vV} {zs : List (vP × Nat)} {fr : List Nat}
theorem WC.trans (h : WC b2 b3 s0 s1) (h' : WC b b2 s1 s2) : WC b b3 s0 s2 := ⟨fun j hj => (h'.1 j hj).trans (h.1 j hj), fun p hp => (h'.2.1 p hp).trans (h.2.1 p hp), fun c c1 c2 i hi => (h'.2.2.1 c c1 c2 i hi).trans (h.2.2.1 c c1 c2 i hi), fun j j1 j2 => (h'.2.2.2.1 j j1 j2).trans (h.2.2.2.1 j j1 j2), fun k hk => ⟨fun j j1 j2 => ((h'.2.2.2.2.1 k hk).1 j j1 j2).trans ((h.2.2.2.2.1 k hk).1 j j1 j2), fun j hj => ((h'.2.2.2.2.1 k hk).2 j hj).trans ((h.2.2.2.2.1 k hk).2 j hj)⟩, fun j hj => (h'.2.2.2.2.2.1 j hj).trans (h.2.2.2.2.2.1 j hj), h'.2.2.2.2.2.2.trans h.2.2.2.2.2.2⟩
theorem WC.keep (h : WC b b2 s0 s) (hc : ∀ c, b < c → c ≤ b + 28 → s' c = s c) (h8 : s' (wt_wo b) 8 = s (wt_wo b) 8) : WC b b2 s0 s' := by
  refine WC.trans h ⟨fun j _ => by rw [hc _ (by omega) (by omega)], fun p _ => by rw [hc _ (by omega) (by omega)], fun c c1 c2 i _ => by rw [hc _ (by omega) (by omega)], fun j _ _ => by rw [hc _ (by omega) (by omega)], fun k hk => ⟨fun j _ _ => by rw [hc _ (by omega) (by omega)], fun j _ => by rw [hc _ (by omega) (by omega)]⟩, fun j _ => by rw [hc _ (by omega) (by omega)], h8⟩
theorem QC.trans (h : QC q2 q3 s0 s1) (h' : QC q q2 s1 s2) : QC q q3 s0 s2 := ⟨fun i hi => ⟨(h'.1 i hi).1.trans (h.1 i hi).1, (h'.1 i hi).2.1.trans (h.1 i hi).2.1, (h'.1 i hi).2.2.1.trans (h.1 i hi).2.2.1, (h'.1 i hi).2.2.2.trans (h.1 i hi).2.2.2⟩, fun i hi => (h'.2 i hi).trans (h.2 i hi)⟩
theorem QC.keep (h : QC q q2 s0 s) (hc : ∀ c, q < c → c ≤ q + 5 → s' c = s c) : QC q q2 s0 s' := h.trans ⟨fun i _ => ⟨by rw [hc _ (by omega) (by omega)], by rw [hc _ (by omega) (by omega)], by rw [hc _ (by omega) (by omega)], by rw [hc _ (by omega) (by omega)]⟩, fun i _ => by rw [hc _ (by omega) (by omega)]⟩
theorem RP.qc {w : Nat → Int32} (h : RP q2 s0 w) (hq : QC q q2 s0 s) : RP q s w := ⟨fun f hf => ⟨(hq.1 f hf).1.trans (h.1 f hf).1, (hq.1 f hf).2.1.trans (h.1 f hf).2.1, (hq.1 f hf).2.2.1.trans (h.1 f hf).2.2.1, (hq.1 f hf).2.2.2.trans (h.1 f hf).2.2.2⟩, fun j hj => (hq.2 j hj).trans (h.2 j hj)⟩
theorem RC.wc (h : RC b2 lim s0 V zs fr) (hl : lim ≤ 2048) (hJ : VJ lim V) (hW : WC b b2 s0 s) (h0 : ∀ k, k < 6 → s (b + 17 + 2 * k) 0 = nI k) (hr : RP 5 s V.1) : RC b lim s V zs fr := by
  obtain ⟨a1, a2, ⟨g1, g2⟩, a4, a5, -⟩ := h
  obtain ⟨w1, w2, w3, w4, w5, w6, w7⟩ := hW
  have hm : ∀ z ∈ zs, z.2 < 256 := fun z hz => (a2.mem hz).1
  refine ⟨a1, ?_, ⟨fun j hj => (w1 j hj).trans (g1 j hj), fun j hj => (w6 j hj).trans (g2 j hj)⟩, fun k hk => ?_, fun t ht => (a5 t ht).mem (fun i hi j hj => ?_), hr⟩
  · obtain ⟨p1, p2, p3, p4, p5, p6, p7, p8⟩ := a2
    refine ⟨(w4 7 (by omega) (by omega)).trans p1, (w4 8 (by omega) (by omega)).trans p2, (w4 9 (by omega) (by omega)).trans p3, p4, p5, p6, fun x i hx => ?_, fun z hz => ?_⟩
    · have hx2 := (List.getElem?_eq_some_iff.mp hx).1
      exact (w3 8 (by omega) (by omega) x (by omega)).trans (p7 x i hx)
    · have := hm z hz
      obtain ⟨q1, q2, q3⟩ := p8 z hz
      exact ⟨(w3 3 (by omega) (by omega) _ this).trans q1, (w3 4 (by omega) (by omega) _ this).trans q2, (w3 7 (by omega) (by omega) _ this).trans q3⟩
  · obtain ⟨⟨c0, c1, c2⟩, ⟨l1, l2⟩, ⟨q1, q2⟩, ⟨r1, r2⟩, g, z⟩ := a4 k hk
    obtain ⟨t1, t2⟩ := w5 k hk
    have e10 := t1 10 (by omega) (by omega)
    have e11 := t1 11 (by omega) (by omega)
    have e12 := t1 12 (by omega) (by omega)
    have e13 := t1 13 (by omega) (by omega)
    have e15 := t1 15 (by omega) (by omega)
    have n1 : ∀ e ∈ tf, 1 ≤ e.1 ∧ e.1 ≤ 16 := by decide
    have n2 : ∀ e ∈ ts, e.1 < 12 := by decide
    refine ⟨⟨h0 k hk, fun e he => (t1 _ (n1 e he).1 (n1 e he).2).trans (c1 e he), fun e he => (t2 _ (n2 e he)).trans (c2 e he)⟩, ⟨fun e => by rw [e10, e11]; exact l1 e, fun e => by rw [e10, e11]; exact l2 e⟩, ⟨fun e => by rw [e12]; exact q1 e, fun z hz h1 h2 => by rw [e12]; exact q2 z hz h1 h2⟩, ⟨fun z hz h1 h2 => by rw [e13]; exact r1 z hz h1 h2, fun e => by rw [e13]; exact r2 e⟩, fun e => by rw [e15]; exact g e, fun z1 hz1 hz2 => ?_⟩
    rw [w3 5 (by omega) (by omega) _ (hm z1 hz1), w3 6 (by omega) (by omega) _ (hm z1 hz1)]
    exact z z1 hz1 hz2
  · have := (hJ.fit ht hi).2.2
    exact w2 _ (by omega)
theorem ok_cm {α : Type} {P : α → wt_S → Prop} {a c n n0 n1 : Nat} {N : Int32} {F : wt_S → Option (α × wt_S)} (hN : N = nI n) (h0 : n ≤ n0) (h1 : n ≤ n1) (h2 : n0 ≤ 100000) (h3 : n1 ≤ 100000) (hF : ∀ s', (∀ d, d ≠ c → s' d = s d) → (∀ k, k < n → s' c k = s a k) → Ok P (F s')) : Ok P (wt_ac s a 0 c 0 N n0 n1 F) := by
  have e : wt_ac s a 0 c 0 N n0 n1 F = F (wt_uf s c (mj_cpy (s a) (s c) 0 0 n)) := by
    rw [hN]
    exact c_ac (p := 0) (q := 0) (by omega) (by omega) h2 h3
  rw [e]
  exact hF _ (fun d hd => wt_uf_ne hd) (fun k hk => c_ac1 hk)
/-- the worlds that are copied -/
def TX (b b2 : Nat) : Prop := (b = 11 ∧ b2 = 81) ∨ (b = 81 ∧ b2 = 11) ∨ (b = 40 ∧ b2 = 11)
theorem TX.f (h : TX b b2) : (b + 28 < b2 ∨ b2 + 28 < b) ∧ wt_wo b ≤ b ∧ (wt_wo b2 ≤ b ∨ b + 28 < wt_wo b2) ∧ (wt_wo b < b2 ∨ b2 + 28 < wt_wo b) ∧ wt_wo b ≠ wt_wo b2 := by
  rcases h with ⟨rfl, rfl⟩ | ⟨rfl, rfl⟩ | ⟨rfl, rfl⟩ <;> decide
theorem c_to3 (h : TX b b2) : Ok (fun _ s' => (∀ c, c ≠ b + 15 → s' c = s c) ∧ ∀ p, p < 2048 → s' (b + 15) p = s (b2 + 15) p) (gX3_takeOver b b2 s) := by
  unfold gX3_takeOver gJ9_min_7cf53
  have hm : (if (Int32.ofInt (Int.ofNat (wt_mz b2))).toInt < (Int32.ofInt (Int.ofNat (wt_mz b))).toInt then some (Int32.ofInt (Int.ofNat (wt_mz b2)), s) else some (Int32.ofInt (Int.ofNat (wt_mz b)), s)) = some (nI 2048, s) ∧ 2048 ≤ wt_mz b ∧ 2048 ≤ wt_mz b2 ∧ wt_mz b ≤ 100000 ∧ wt_mz b2 ≤ 100000 := by
    rcases h with ⟨rfl, rfl⟩ | ⟨rfl, rfl⟩ | ⟨rfl, rfl⟩
    · exact ⟨by rw [if_neg (by decide)]; rfl, by decide, by decide, by decide, by decide⟩
    · exact ⟨by rw [if_neg (by decide)]; rfl, by decide, by decide, by decide, by decide⟩
    · exact ⟨by rw [if_pos (by decide)]; rfl, by decide, by decide, by decide, by decide⟩
  obtain ⟨m1, m2, m3, m4, m5⟩ := hm
  rw [m1, cl_some]
  exact ok_cm (n := 2048) rfl m3 m2 m5 m4 (fun s1 f1 g1 => ok_some ⟨f1, g1⟩)
theorem c_to5 (h : TX b b2) : Ok (fun _ s' => (∀ c, ¬ (b + 2 ≤ c ∧ c ≤ b + 8) → s' c = s c) ∧ (∀ c, 3 ≤ c → c ≤ 8 → ∀ i, i < 256 → s' (b + c) i = s (b2 + c) i) ∧ ∀ j, 7 ≤ j → j ≤ 9 → s' (b + 2) j = s (b2 + 2) j) (gX5_takeOver b b2 s) := by
  have hd := h.f.1
  unfold gX5_takeOver
  refine ok_cm (n := 256) rfl (by omega) (by omega) (by omega) (by omega) (fun s1 f1 g1 => ?_)
  refine ok_cm (n := 256) rfl (by omega) (by omega) (by omega) (by omega) (fun s2 f2 g2 => ?_)
  refine ok_cm (n := 256) rfl (by omega) (by omega) (by omega) (by omega) (fun s3 f3 g3 => ?_)
  refine ok_cm (n := 256) rfl (by omega) (by omega) (by omega) (by omega) (fun s4 f4 g4 => ?_)
  refine ok_cm (n := 256) rfl (by omega) (by omega) (by omega) (by omega) (fun s5 f5 g5 => ?_)
  refine ok_cm (n := 256) rfl (by omega) (by omega) (by omega) (by omega) (fun s6 f6 g6 => ?_)
  have fr : ∀ c, ¬ (b + 3 ≤ c ∧ c ≤ b + 8) → s6 c = s c := fun c hc => by rw [f6 c (by omega), f5 c (by omega), f4 c (by omega), f3 c (by omega), f2 c (by omega), f1 c (by omega)]
  have v3 : ∀ i, i < 256 → s6 (b + 3) i = s (b2 + 3) i := fun i hi => by rw [f6 _ (by omega), f5 _ (by omega), f4 _ (by omega), f3 _ (by omega), f2 _ (by omega), g1 i hi]
  have v4 : ∀ i, i < 256 → s6 (b + 4) i = s (b2 + 4) i := fun i hi => by rw [f6 _ (by omega), f5 _ (by omega), f4 _ (by omega), f3 _ (by omega), g2 i hi, f1 _ (by omega)]
  have v5 : ∀ i, i < 256 → s6 (b + 5) i = s (b2 + 5) i := fun i hi => by rw [f6 _ (by omega), f5 _ (by omega), f4 _ (by omega), g3 i hi, f2 _ (by omega), f1 _ (by omega)]
  have v6 : ∀ i, i < 256 → s6 (b + 6) i = s (b2 + 6) i := fun i hi => by rw [f6 _ (by omega), f5 _ (by omega), g4 i hi, f3 _ (by omega), f2 _ (by omega), f1 _ (by omega)]
  have v7 : ∀ i, i < 256 → s6 (b + 7) i = s (b2 + 7) i := fun i hi => by rw [f6 _ (by omega), g5 i hi, f4 _ (by omega), f3 _ (by omega), f2 _ (by omega), f1 _ (by omega)]
  have v8 : ∀ i, i < 256 → s6 (b + 8) i = s (b2 + 8) i := fun i hi => by rw [g6 i hi, f5 _ (by omega), f4 _ (by omega), f3 _ (by omega), f2 _ (by omega), f1 _ (by omega)]
  rw [wr_eq, wr_eq, wr_eq]
  refine ok_some ⟨fun c hc => by rw [wt_u_ne (by omega), wt_u_ne (by omega), wt_u_ne (by omega), fr c (by omega)], fun c c1 c2 i hi => ?_, fun j j1 j2 => ?_⟩
  · rw [wt_u_ne (by omega), wt_u_ne (by omega), wt_u_ne (by omega)]
    obtain rfl | rfl | rfl | rfl | rfl | rfl : c = 3 ∨ c = 4 ∨ c = 5 ∨ c = 6 ∨ c = 7 ∨ c = 8 := by omega
    · exact v3 i hi
    · exact v4 i hi
    · exact v5 i hi
    · exact v6 i hi
    · exact v7 i hi
    · exact v8 i hi
  · obtain rfl | rfl | rfl : j = 7 ∨ j = 8 ∨ j = 9 := by omega
    · rw [wt_u_nk (by omega), wt_u_nk (by omega), wt_u_self, fr _ (by omega)]
    · rw [wt_u_nk (by omega), wt_u_self, wt_u_ne (by omega), fr _ (by omega)]
    · rw [wt_u_self, wt_u_ne (by omega), wt_u_ne (by omega), fr _ (by omega)]
/-- the first m fields are copied -/
def CP7 (T T2 : Nat) (s : wt_S) (m : Nat) (s' : wt_S) : Prop := (∀ c, c ≠ T → s' c = s c) ∧ (∀ j, 1 ≤ j → j ≤ m → s' T j = s T2 j) ∧ s' T 0 = s T 0
theorem ok_cp1 {α : Type} {P : α → wt_S → Prop} {T T2 m : Nat} {F : wt_S → Option (α × wt_S)} (hne : T2 ≠ T) (h : CP7 T T2 s m s1) (hF : ∀ s2, CP7 T T2 s (m + 1) s2 → Ok P (F s2)) : Ok P (wt_wr s1 T (m + 1) (s1 T2 (m + 1)) F) := by
  rw [wr_eq]
  refine hF _ ⟨fun c hc => by rw [wt_u_ne hc, h.1 c hc], fun j j1 j2 => ?_, by rw [wt_u_nk (by omega)]; exact h.2.2⟩
  by_cases e : j = m + 1
  · subst e
    rw [wt_u_self, h.1 _ hne]
  · rw [wt_u_nk e]
    exact h.2.1 j j1 (by omega)
theorem c_to7 {T T2 : Nat} (hd : T + 1 < T2 ∨ T2 + 1 < T) : Ok (fun _ s' => (∀ c, c ≠ T → c ≠ T + 1 → s' c = s c) ∧ (∀ j, 1 ≤ j → j ≤ 16 → s' T j = s T2 j) ∧ s' T 0 = s T 0 ∧ ∀ j, j < 12 → s' (T + 1) j = s (T2 + 1) j) (gX7_takeOver T T2 s) := by
  have hne : T2 ≠ T := by omega
  unfold gX7_takeOver
  refine ok_cp1 (m := 0) (s := s) hne ⟨fun _ _ => rfl, fun j _ _ => by omega, rfl⟩ (fun s1 h1 => ?_)
  refine ok_cp1 (m := 1) hne h1 (fun s2 h2 => ?_)
  refine ok_cp1 (m := 2) hne h2 (fun s3 h3 => ?_)
  refine ok_cp1 (m := 3) hne h3 (fun s4 h4 => ?_)
  refine ok_cp1 (m := 4) hne h4 (fun s5 h5 => ?_)
  refine ok_cp1 (m := 5) hne h5 (fun s6 h6 => ?_)
  refine ok_cp1 (m := 6) hne h6 (fun s7 h7 => ?_)
  refine ok_cp1 (m := 7) hne h7 (fun s8 h8 => ?_)
  refine ok_cp1 (m := 8) hne h8 (fun s9 h9 => ?_)
  refine ok_cp1 (m := 9) hne h9 (fun s10 h10 => ?_)
  refine ok_cp1 (m := 10) hne h10 (fun s11 h11 => ?_)
  refine ok_cp1 (m := 11) hne h11 (fun s12 h12 => ?_)
  refine ok_cp1 (m := 12) hne h12 (fun s13 h13 => ?_)
  refine ok_cp1 (m := 13) hne h13 (fun s14 h14 => ?_)
  refine ok_cp1 (m := 14) hne h14 (fun s15 h15 => ?_)
  refine ok_cp1 (m := 15) hne h15 (fun s16 h16 => ?_)
  refine ok_cm (n := 12) rfl (by omega) (by omega) (by omega) (by omega) (fun s17 f17 g17 => ok_some ⟨fun c c1 c2 => by rw [f17 c c2, h16.1 c c1], fun j j1 j2 => by rw [f17 T (by omega)]; exact h16.2.1 j j1 j2, by rw [f17 T (by omega)]; exact h16.2.2, fun j hj => by rw [g17 j hj, h16.1 _ (by omega)]⟩)
theorem c_over (h : TX b b2) : Ok (fun _ s' => WC b b2 s s' ∧ (∀ c, c ≤ b ∨ b + 28 < c → c ≠ wt_wo b → s' c = s c) ∧ (∀ j, j ≠ 8 → s' (wt_wo b) j = s (wt_wo b) j) ∧ ∀ k, k < 6 → s' (b + 17 + 2 * k) 0 = s (b + 17 + 2 * k) 0) (gX9_takeOver b b2 s) := by
  obtain ⟨hd, h1, h2, h3, h4⟩ := h.f
  unfold gX9_takeOver
  refine ok_cm (n := 6) rfl (by omega) (by omega) (by omega) (by omega) (fun s1 f1 g1 => ?_)
  refine ok_cl (c_to3 h) (fun _ s2 q2 => ?_)
  refine ok_cl (c_to5 h) (fun _ s3 q3 => ?_)
  obtain ⟨f2, g2⟩ := q2
  obtain ⟨f3, g3, g4⟩ := q3
  have loop : ∀ (m k fu : Nat) (s4 : wt_S), k + m = 6 → m < fu → (∀ c, (∀ k, k < 6 → c ≠ b + 17 + 2 * k ∧ c ≠ b + 17 + 2 * k + 1) → s4 c = s3 c) → (∀ j, j < 6 → s4 (b + 17 + 2 * j) 0 = s3 (b + 17 + 2 * j) 0) → (∀ j, j < k → (∀ i, 1 ≤ i → i ≤ 16 → s4 (b + 17 + 2 * j) i = s3 (b2 + 17 + 2 * j) i) ∧ ∀ i, i < 12 → s4 (b + 17 + 2 * j + 1) i = s3 (b2 + 17 + 2 * j + 1) i) →
      Ok (fun _ s' => (∀ c, c ≠ wt_wo b → c ≠ b + 11 → c ≠ b + 12 → c ≠ b + 13 → (∀ k, k < 6 → c ≠ b + 17 + 2 * k ∧ c ≠ b + 17 + 2 * k + 1) → s' c = s3 c) ∧ (∀ j, j ≠ 8 → s' (wt_wo b) j = s3 (wt_wo b) j) ∧ (∀ j, j < 6 → s' (b + 17 + 2 * j) 0 = s3 (b + 17 + 2 * j) 0) ∧ (∀ j, j < 6 → (∀ i, 1 ≤ i → i ≤ 16 → s' (b + 17 + 2 * j) i = s3 (b2 + 17 + 2 * j) i) ∧ ∀ i, i < 12 → s' (b + 17 + 2 * j + 1) i = s3 (b2 + 17 + 2 * j + 1) i) ∧ (∀ j, j < 12 → s' (b + 13) j = s3 (b2 + 13) j) ∧ s' (wt_wo b) 8 = s3 (wt_wo b2) 8) (gX9_takeOver_39 b b2 fu s4 (nI k)) := by
    intro m
    induction m with
    | zero =>
      intro k fu s4 hk hfu e1 e2 e3
      obtain ⟨fu, rfl⟩ : ∃ k, fu = k + 1 := ⟨fu - 1, by omega⟩
      rw [gX9_takeOver_39, if_pos (by rw [nI_int (by omega)]; show (6 : Int) ≤ _; omega)]
      unfold gX1_takeOver
      have hl : Ok (fun (_ : Unit) s' => ∀ c, c ≠ b + 11 → c ≠ b + 12 → s' c = s4 c) (wt_ac s4 (b2 + 12) 0 (b + 12) 0 160 160 160 fun s1 => wt_wr s1 (b + 11) 1 (s1 (b2 + 11) 1) fun s2 => some ((), s2)) := ok_cm (n := 160) rfl (by omega) (by omega) (by omega) (by omega) (fun s5 f5 _ => by
        rw [wr_eq]
        exact ok_some (fun c c1 c2 => by rw [wt_u_ne c1, f5 c c2]))
      refine ok_cl hl (fun _ s5 f5 => ?_)
      refine ok_cm (n := 12) rfl (by omega) (by omega) (by omega) (by omega) (fun s6 f6 g6 => ?_)
      rw [wr_eq]
      refine ok_some ⟨fun c c1 c2 c3 c4 c5 => ?_, fun j hj => ?_, fun j hj => ?_, fun j hj => ⟨fun i i1 i2 => ?_, fun i hi => ?_⟩, fun j hj => ?_, ?_⟩
      · rw [wt_u_ne c1, f6 c c4, f5 c c2 c3, e1 c c5]
      · rw [wt_u_nk hj, f6 _ (by omega), f5 _ (by omega) (by omega), e1 _ (fun k hk => by omega)]
      · rw [wt_u_ne (by omega), f6 _ (by omega), f5 _ (by omega) (by omega), e2 j hj]
      · rw [wt_u_ne (by omega), f6 _ (by omega), f5 _ (by omega) (by omega), (e3 j (by omega)).1 i i1 i2]
      · rw [wt_u_ne (by omega), f6 _ (by omega), f5 _ (by omega) (by omega), (e3 j (by omega)).2 i hi]
      · rw [wt_u_ne (by omega), g6 j hj, f5 _ (by omega) (by omega), e1 _ (fun k hk => by omega)]
      · rw [wt_u_self, f6 _ (by omega), f5 _ (by omega) (by omega), e1 _ (fun k hk => by omega)]
    | succ m ih =>
      intro k fu s4 hk hfu e1 e2 e3
      obtain ⟨fu, rfl⟩ : ∃ k, fu = k + 1 := ⟨fu - 1, by omega⟩
      rw [gX9_takeOver_39, if_neg (by rw [nI_int (by omega)]; show ¬ (6 : Int) ≤ _; omega), ix_nI (by omega) (by omega), ix_nI (by omega) (by omega), show nI k + 1 = nI (k + 1) from nI_add k 1]
      refine ok_cl (c_to7 (T := b + 17 + 2 * k) (T2 := b2 + 17 + 2 * k) (by omega)) (fun _ s5 q5 => ?_)
      obtain ⟨a1, a2, a3, a4⟩ := q5
      refine ih (k + 1) fu s5 (by omega) (by omega) (fun c hc => ?_) (fun j hj => ?_) (fun j hj => ?_)
      · rw [a1 c (hc k (by omega)).1 (hc k (by omega)).2, e1 c hc]
      · by_cases c : j = k
        · subst c
          rw [a3, e2 j hj]
        · rw [a1 _ (by omega) (by omega), e2 j hj]
      · by_cases c : j = k
        · subst c
          exact ⟨fun i i1 i2 => by rw [a2 i i1 i2, e1 _ (fun k hk => by omega)], fun i hi => by rw [a4 i hi, e1 _ (fun k hk => by omega)]⟩
        · exact ⟨fun i i1 i2 => by rw [a1 _ (by omega) (by omega), (e3 j (by omega)).1 i i1 i2], fun i hi => by rw [a1 _ (by omega) (by omega), (e3 j (by omega)).2 i hi]⟩
  refine ok_im (loop 6 0 wt_N s3 (by omega) (by unfold wt_N; omega) (fun _ _ => rfl) (fun _ _ => rfl) (fun j hj => by omega)) (fun r s' hs => ?_)
  obtain ⟨l1, l2, l3, l4, l5, l6⟩ := hs
  have k3 : ∀ c, c ≠ b + 1 → c ≠ b + 15 → ¬ (b + 2 ≤ c ∧ c ≤ b + 8) → s3 c = s c := fun c c1 c2 c3 => by rw [f3 c c3, f2 c c2, f1 c c1]
  refine ⟨⟨fun j hj => ?_, fun p hp => ?_, fun c c1 c2 i hi => ?_, fun j j1 j2 => ?_, fun k hk => ⟨fun j j1 j2 => ?_, fun j hj => ?_⟩, fun j hj => ?_, ?_⟩, fun c c1 c2 => ?_, fun j hj => ?_, fun k hk => ?_⟩
  · rw [l1 _ (by omega) (by omega) (by omega) (by omega) (fun k hk => by omega), f3 _ (by omega), f2 _ (by omega), g1 j hj]
  · rw [l1 _ (by omega) (by omega) (by omega) (by omega) (fun k hk => by omega), f3 _ (by omega), g2 p hp, f1 _ (by omega)]
  · rw [l1 _ (by omega) (by omega) (by omega) (by omega) (fun k hk => by omega), g3 c c1 c2 i hi, f2 _ (by omega), f1 _ (by omega)]
  · rw [l1 _ (by omega) (by omega) (by omega) (by omega) (fun k hk => by omega), g4 j j1 j2, f2 _ (by omega), f1 _ (by omega)]
  · rw [(l4 k hk).1 j j1 j2, k3 _ (by omega) (by omega) (by omega)]
  · rw [(l4 k hk).2 j hj, k3 _ (by omega) (by omega) (by omega)]
  · rw [l5 j hj, k3 _ (by omega) (by omega) (by omega)]
  · rw [l6, k3 _ (by omega) (by omega) (by omega)]
  · rw [l1 c c2 (by omega) (by omega) (by omega) (fun k hk => by omega), k3 c (by omega) (by omega) (by omega)]
  · rw [l2 j hj, k3 _ (by omega) (by omega) (by omega)]
  · rw [l3 k hk, k3 _ (by omega) (by omega) (by omega)]
theorem c_qtake (h : q + 5 < q2 ∨ q2 + 5 < q) : Ok (fun _ s' => QC q q2 s s' ∧ ∀ c, c ≤ q ∨ q + 5 < c → s' c = s c) (gX6_takeOver q q2 s) := by
  unfold gX6_takeOver
  refine ok_cm (n := 10) rfl (by omega) (by omega) (by omega) (by omega) (fun s1 f1 g1 => ?_)
  refine ok_cm (n := 10) rfl (by omega) (by omega) (by omega) (by omega) (fun s2 f2 g2 => ?_)
  refine ok_cm (n := 10) rfl (by omega) (by omega) (by omega) (by omega) (fun s3 f3 g3 => ?_)
  refine ok_cm (n := 640) rfl (by omega) (by omega) (by omega) (by omega) (fun s4 f4 g4 => ?_)
  refine ok_cm (n := 10) rfl (by omega) (by omega) (by omega) (by omega) (fun s5 f5 g5 => ?_)
  refine ok_some ⟨⟨fun i hi => ⟨?_, ?_, ?_, ?_⟩, fun i hi => ?_⟩, fun c hc => by rw [f5 c (by omega), f4 c (by omega), f3 c (by omega), f2 c (by omega), f1 c (by omega)]⟩
  · rw [f5 _ (by omega), f4 _ (by omega), f3 _ (by omega), f2 _ (by omega), g1 i hi]
  · rw [f5 _ (by omega), f4 _ (by omega), f3 _ (by omega), g2 i hi, f1 _ (by omega)]
  · rw [f5 _ (by omega), f4 _ (by omega), g3 i hi, f2 _ (by omega), f1 _ (by omega)]
  · rw [g5 i hi, f4 _ (by omega), f3 _ (by omega), f2 _ (by omega), f1 _ (by omega)]
  · rw [f5 _ (by omega), g4 i hi, f3 _ (by omega), f2 _ (by omega), f1 _ (by omega)]
end
