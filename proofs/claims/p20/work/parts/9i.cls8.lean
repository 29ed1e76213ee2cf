section
/-! ===== the class, method by method, 8: copies, thoughts, the log, the image ===== -/
theorem cpy10 {f g : Nat → Int32} {k : Nat} (hk : k < 10) : mj_cpy f g (0 : Int32).toInt.toNat (0 : Int32).toInt.toNat (10 : Int32).toInt.toNat k = f k := by
  have : k = 0 ∨ k = 1 ∨ k = 2 ∨ k = 3 ∨ k = 4 ∨ k = 5 ∨ k = 6 ∨ k = 7 ∨ k = 8 ∨ k = 9 := by omega
  rcases this with h | h | h | h | h | h | h | h | h | h <;> subst h <;> rfl
theorem CI.cq {F q c a : Nat} {z s : wt_S} (h : CI F z s) (hq : wt_Q q) (hc : c = 1 ∨ c = 3) (ha : ∀ f, f < 10 → (c = 1 → (s a f).toInt ≤ 8) ∧ (c = 3 → 0 ≤ (s a f).toInt ∧ (s a f).toInt ≤ 16)) : CI F z (wt_uf s (q + c) (mj_cpy (s a) (s (q + c)) (0 : Int32).toInt.toNat (0 : Int32).toInt.toNat (10 : Int32).toInt.toNat)) := by
  obtain ⟨h1, h2, h3, h4, h5, h6, h7⟩ := h
  have hq0 : q = 5 ∨ q = 76 := hq
  refine ⟨fun c hc => ?_, fun q' hq' f hf => ?_, ?_, ?_, ?_, ?_, fun c hc => ?_⟩
  · obtain ⟨a1, a2, a3⟩ := h1 c hc
    have hc' : c = 11 ∨ c = 40 ∨ c = 81 := hc
    exact ⟨by rw [wt_uf_ne (by omega)]; exact a1, by rw [wt_uf_ne (by omega)]; exact a2, fun k hk => by rw [wt_uf_ne (by omega)]; exact a3 k hk⟩
  · have hq1 : q' = 5 ∨ q' = 76 := hq'
    obtain ⟨b1, b2⟩ := h2 q' hq' f hf
    have g := ha f hf
    rcases hc with hc | hc
    · subst hc
      refine ⟨by rw [wt_uf_ne (by omega)]; exact b1, ?_⟩
      by_cases e : q' = q
      · subst e
        rw [wt_uf_at, cpy10 hf]; exact g.1 rfl
      · rw [wt_uf_ne (by omega)]; exact b2
    · subst hc
      refine ⟨?_, by rw [wt_uf_ne (by omega)]; exact b2⟩
      by_cases e : q' = q
      · subst e
        rw [wt_uf_at, cpy10 hf]; exact g.2 rfl
      · rw [wt_uf_ne (by omega)]; exact b1
  · rw [wt_uf_ne (by omega)]; exact h3
  · rw [wt_uf_ne (by omega)]; exact h4
  · rw [wt_uf_ne (by omega)]; exact h5
  · rw [wt_uf_ne (by omega)]; exact h6
  · rw [wt_uf_ne (by omega)]; exact h7 c hc
theorem ok_as {α : Type} {P : α → wt_S → Prop} {F : Nat} {z s : wt_S} {a b : Nat} {p q n : Int32} {n0 n1 : Nat} {G : wt_S → Option (α × wt_S)} (hb : 0 ≤ n.toInt ∧ 0 ≤ q.toInt ∧ 0 ≤ p.toInt ∧ p.toInt + n.toInt ≤ n0 ∧ q.toInt + n.toInt ≤ n1) (h : CI F z (wt_uf s b (mj_cpy (s a) (s b) p.toInt.toNat q.toInt.toNat n.toInt.toNat))) (hG : ∀ s', CI F z s' → Ok P (G s')) : Ok P (wt_ac s a p b q n n0 n1 G) := by
  unfold wt_ac
  rw [if_pos hb]
  exact hG _ h
theorem oX3_takeOver {F : Nat} {z : wt_S} {b b2 : Nat} (hb : wt_C b) {s : wt_S} (h : CI F z s) : Ok (fun _ s' => CI F z s') (gX3_takeOver b b2 s) := by
  have l0 : (0 : Int32).toInt = 0 := rfl
  have m1 := wt_mzi (b := b)
  have m2 := wt_mzi (b := b2)
  unfold gX3_takeOver
  have hm : Ok (fun (r : Int32) s' => s' = s ∧ (0 ≤ r.toInt ∧ r.toInt ≤ wt_mz b ∧ r.toInt ≤ wt_mz b2)) (gJ9_min_7cf53 s (Int32.ofInt (Int.ofNat (wt_mz b))) (Int32.ofInt (Int.ofNat (wt_mz b2)))) := by
    unfold gJ9_min_7cf53
    exact ok_if (fun _ => ok_some ⟨rfl, by omega⟩) (fun _ => ok_some ⟨rfl, by omega⟩)
  refine ok_cp hm (fun v q => ?_)
  exact ok_ac h (by omega) (fun k => hs_b hb (by decide)) (fun s3 h3 => ok_some h3)
theorem oX5_takeOver {F : Nat} {z : wt_S} {b b2 : Nat} (hb : wt_C b) (hb2 : wt_C b2) {s : wt_S} (h : CI F z s) : Ok (fun _ s' => CI F z s') (gX5_takeOver b b2 s) := by
  unfold gX5_takeOver
  refine ok_ac h (by decide) (fun k => hs_b hb (by decide)) (fun s1 h1 => ?_)
  refine ok_ac h1 (by decide) (fun k => hs_b hb (by decide)) (fun s2 h2 => ?_)
  refine ok_ac h2 (by decide) (fun k => hs_b hb (by decide)) (fun s3 h3 => ?_)
  refine ok_ac h3 (by decide) (fun k => hs_b hb (by decide)) (fun s4 h4 => ?_)
  refine ok_ac h4 (by decide) (fun k => hs_b hb (by decide)) (fun s5 h5 => ?_)
  refine ok_ac h5 (by decide) (fun k => hs_b hb (by decide)) (fun s6 h6 => ?_)
  refine ok_ws (h6.un hb (h6.nm hb2)) (fun s7 h7 => ?_)
  refine ok_wc h7 (hs_b2 hb (by decide)) (fun s8 h8 => ?_)
  exact ok_wc h8 (hs_b2 hb (by decide)) (fun s9 h9 => ok_some h9)
theorem oX7_takeOver {F : Nat} {z : wt_S} {t t2 : Nat} (ht : wt_T t) (ht2 : wt_T t2) {s : wt_S} (h : CI F z s) : Ok (fun _ s' => CI F z s') (gX7_takeOver t t2 s) := by
  unfold gX7_takeOver
  refine ok_wc h (hs_t ht (by decide)) (fun s1 h1 => ?_)
  refine ok_wc h1 (hs_t ht (by decide)) (fun s2 h2 => ?_)
  refine ok_wc h2 (hs_t ht (by decide)) (fun s3 h3 => ?_)
  refine ok_ws (h3.ut (Nat.le_refl _) ht (h3.fr ht2)) (fun s4 h4 => ?_)
  refine ok_wc h4 (hs_t ht (by decide)) (fun s5 h5 => ?_)
  refine ok_wc h5 (hs_t ht (by decide)) (fun s6 h6 => ?_)
  refine ok_wc h6 (hs_t ht (by decide)) (fun s7 h7 => ?_)
  refine ok_wc h7 (hs_t ht (by decide)) (fun s8 h8 => ?_)
  refine ok_wc h8 (hs_t ht (by decide)) (fun s9 h9 => ?_)
  refine ok_wc h9 (hs_t ht (by decide)) (fun s10 h10 => ?_)
  refine ok_wc h10 (hs_t ht (by decide)) (fun s11 h11 => ?_)
  refine ok_wc h11 (hs_t ht (by decide)) (fun s12 h12 => ?_)
  refine ok_wc h12 (hs_t ht (by decide)) (fun s13 h13 => ?_)
  refine ok_wc h13 (hs_t ht (by decide)) (fun s14 h14 => ?_)
  refine ok_wc h14 (hs_t ht (by decide)) (fun s15 h15 => ?_)
  refine ok_wc h15 (hs_t ht (by decide)) (fun s16 h16 => ?_)
  exact ok_ac h16 (by decide) (fun k => hs_t1 ht) (fun s17 h17 => ok_some h17)
theorem oX1_takeOver {F : Nat} {z : wt_S} {b b2 : Nat} (hb : wt_C b) {s : wt_S} (h : CI F z s) : Ok (fun _ s' => CI F z s') (gX1_takeOver b b2 s) := by
  unfold gX1_takeOver
  refine ok_ac h (by decide) (fun k => hs_b hb (by decide)) (fun s1 h1 => ?_)
  exact ok_wc h1 (hs_b hb (by decide)) (fun s2 h2 => ok_some h2)
theorem oX9_takeOver_39 {F : Nat} {z : wt_S} {b b2 : Nat} (hb : wt_C b) (hb2 : wt_C b2) : ∀ (m fu : Nat) (s : wt_S) (l2 : Int32), m < fu → l2.toInt + m = 6 → 0 ≤ l2.toInt → CI F z s → Ok (fun _ s' => CI F z s') (gX9_takeOver_39 b b2 fu s l2) := by
  have l6 : (6 : Int32).toInt = 6 := rfl
  intro m
  induction m with
  | zero =>
    intro fu s l2 hf hl hl0 h
    cases fu with
    | zero => omega
    | succ n =>
      rw [gX9_takeOver_39]
      refine ok_if (fun _ => ?_) (fun c => by exfalso; omega)
      refine ok_cl (oX1_takeOver hb h) (fun _ s1 h1 => ?_)
      refine ok_ac h1 (by decide) (fun k => hs_b hb (by decide)) (fun s2 h2 => ?_)
      exact ok_wc h2 (hs_w hb) (fun s3 h3 => ok_some h3)
  | succ m ih =>
    intro fu s l2 hf hl hl0 h
    cases fu with
    | zero => omega
    | succ n =>
      rw [gX9_takeOver_39]
      refine ok_if (fun c => by exfalso; omega) (fun c => ?_)
      refine ok_ix (by omega) (by omega) (fun k4 k4l k4e => ?_)
      refine ok_ix (by omega) (by omega) (fun k5 k5l k5e => ?_)
      refine ok_cl (oX7_takeOver ⟨b, k4, hb, k4l, rfl⟩ ⟨b2, k5, hb2, k5l, rfl⟩ h) (fun _ s6 h6 => ?_)
      have e := i_inc (x := l2) (by omega)
      exact ih n s6 _ (by omega) (by omega) (by omega) h6
theorem oX9_takeOver {F : Nat} {z : wt_S} {b b2 : Nat} (hb : wt_C b) (hb2 : wt_C b2) {s : wt_S} (h : CI F z s) : Ok (fun _ s' => CI F z s') (gX9_takeOver b b2 s) := by
  have l0 : (0 : Int32).toInt = 0 := rfl
  unfold gX9_takeOver
  refine ok_as (by decide) (h.cs hb (h.sd hb2)) (fun s1 h1 => ?_)
  refine ok_cl (oX3_takeOver hb h1) (fun _ s2 h2 => ?_)
  refine ok_cl (oX5_takeOver hb hb2 h2) (fun _ s3 h3 => ?_)
  exact oX9_takeOver_39 hb hb2 6 wt_N s3 0 (by unfold wt_N; omega) (by omega) (by omega) h3
theorem oX6_takeOver {F : Nat} {z : wt_S} {q q2 : Nat} (hq : wt_Q q) (hq2 : wt_Q q2) {s : wt_S} (h : CI F z s) : Ok (fun _ s' => CI F z s') (gX6_takeOver q q2 s) := by
  unfold gX6_takeOver
  refine ok_as (by decide) (h.cq hq (Or.inl rfl) (fun f hf => ⟨fun _ => (h.ln hq2 hf).2, fun e => absurd e (by decide)⟩)) (fun s1 h1 => ?_)
  refine ok_ac h1 (by decide) (fun k => hs_q hq (by decide)) (fun s2 h2 => ?_)
  refine ok_as (by decide) (h2.cq hq (Or.inr rfl) (fun f hf => ⟨fun e => absurd e (by decide), fun _ => (h2.ln hq2 hf).1⟩)) (fun s3 h3 => ?_)
  refine ok_ac h3 (by decide) (fun k => hs_q hq (by decide)) (fun s4 h4 => ?_)
  exact ok_ac h4 (by decide) (fun k => hs_q hq (by decide)) (fun s5 h5 => ok_some h5)
theorem oX10_endless {F : Nat} {z : wt_S} (hF : F + 4001 ≤ 1999990000) {s : wt_S} (h : CI F z s) {i1 i2 i3 : Int32} : Ok (fun _ s' => CI (F + 4001) z s') (gX10_endless s i1 i2 i3) := by
  unfold gX10_endless gX10_endless_23
  refine ok_cp (oX6_told (by omega) (Or.inl rfl) h) (fun v q => ?_)
  have n : CI (F + 4001) z s := h.mono (by omega)
  refine ok_if (fun _ => ok_some n) (fun _ => ok_if (fun _ => ok_some n) (fun _ => ok_if (fun _ => ?_) (fun _ => ok_some n)))
  refine ok_cl (oX10_thinkEndless hF h) (fun a s3 h3 => ?_)
  refine ok_if (fun _ => ?_) (fun c => absurd h3.2 c)
  exact ok_if (fun _ => ok_if (fun _ => ok_if (fun _ => ok_some h3.1) (fun _ => ok_some h3.1)) (fun _ => ok_some h3.1)) (fun _ => ok_some h3.1)
theorem oX10_land_84 {F : Nat} {z : wt_S} (hF : F ≤ 2000000000) {t : Nat} (ht : wt_T t) {s : wt_S} (h : CI F z s) {l3 : Int32} : Ok (fun _ s' => CI F z s') (gX10_land_84 s l3 t) := by
  unfold gX10_land_84
  refine ok_if (fun _ => ok_some h) (fun _ => ok_if (fun _ => ok_some h) (fun _ => ok_if (fun _ => ok_some h) (fun _ => ok_if (fun _ => ok_some h) (fun _ => ok_if (fun _ => ?_) (fun _ => by exfalso; omega)))))
  exact ok_cp (oX9_wordsOf hF (Or.inr rfl) ht h) (fun v q => ok_some h)
theorem oX10_land_55 {t : Nat} {z : wt_S} {l2 l3 : Int32} (ht : wt_T t) : ∀ (m fu F : Nat) (s : wt_S) (l5 : Int32), m < fu → l5.toInt + m = l2.toInt → CI F z s → F + 2 * m ≤ 1999990000 → Ok (fun _ s' => CI (F + 2 * m) z s') (gX10_land_55 fu s l2 l3 t l5) := by
  intro m
  induction m with
  | zero =>
    intro fu F s l5 hf hl h hF
    cases fu with
    | zero => omega
    | succ n =>
      rw [gX10_land_55]
      exact ok_if (fun _ => oX10_land_84 (by omega) ht h) (fun c => by exfalso; omega)
  | succ m ih =>
    intro fu F s l5 hf hl h hF
    cases fu with
    | zero => omega
    | succ n =>
      rw [gX10_land_55]
      refine ok_if (fun _ => ok_im (oX10_land_84 (by omega) ht h) (fun _ _ e => e.mono (by omega))) (fun c => ?_)
      refine ok_cp (oX7_on (by omega) ht h) (fun v q => ?_)
      refine ok_if (fun _ => ok_im (oX10_land_84 (by omega) ht h) (fun _ _ e => e.mono (by omega))) (fun _ => ?_)
      refine ok_cl (oX2_makeStep (by omega) (Or.inr rfl) ht h) (fun _ s3 h3 => ?_)
      have b2 := l2.toInt_lt
      have e := i_inc (x := l5) (by simp at b2; omega)
      exact ok_im (ih n (F + 2) s3 _ (by omega) (by omega) h3 (by omega)) (fun _ _ e => e.mono (by omega))
theorem oX10_land {F : Nat} {z : wt_S} (hF : F + 400 ≤ 1999990000) {s : wt_S} (h : CI F z s) {i1 i2 i3 : Int32} : Ok (fun _ s' => CI (F + 400) z s') (gX10_land s i1 i2 i3) := by
  have l0 : (0 : Int32).toInt = 0 := rfl
  have l1 : (1 : Int32).toInt = 1 := rfl
  have l2 : (200 : Int32).toInt = 200 := rfl
  have n : CI (F + 400) z s := h.mono (by omega)
  unfold gX10_land
  refine ok_cp (oX10_isTask (by omega) h) (fun v ⟨_, g⟩ => ?_)
  refine ok_if (fun _ => ok_some n) (fun c => ?_)
  have g := g.resolve_left c
  refine ok_if (fun _ => ok_some n) (fun _ => ok_if (fun _ => ok_some n) (fun _ => ok_if (fun _ => ok_some n) (fun _ => ok_if (fun _ => ?_) (fun _ => ok_some n))))
  refine ok_cl (oX9_takeOver (Or.inr (Or.inl rfl)) (Or.inl rfl) h) (fun _ s3 h3 => ?_)
  refine ok_ix (by omega) (by omega) (fun k kl ke => ?_)
  exact ok_im (oX10_land_55 ⟨40, k, Or.inr (Or.inl rfl), kl, rfl⟩ i2.toInt.toNat wt_N F s3 0 (by unfold wt_N; omega) (by omega) h3 (by omega)) (fun _ _ e => e.mono (by omega))
theorem oX10_thinkAlone_81 {z : wt_S} : ∀ (m fu F : Nat) (s : wt_S) (l6 l7 : Int32), m < fu → l7.toInt + m = 2000 → CI F z s → F + 2 * m ≤ 1999990000 → Ok (fun _ s' => CI (F + 2 * m) z s') (gX10_thinkAlone_81 fu s 57 l6 l7) := by
  have l2 : (2000 : Int32).toInt = 2000 := rfl
  intro m
  induction m with
  | zero =>
    intro fu F s l6 l7 hf hl h hF
    cases fu with
    | zero => omega
    | succ n =>
      rw [gX10_thinkAlone_81]
      exact ok_if (fun _ => ok_some (h.mono (by omega))) (fun c => by exfalso; omega)
  | succ m ih =>
    intro fu F s l6 l7 hf hl h hF
    cases fu with
    | zero => omega
    | succ n =>
      rw [gX10_thinkAlone_81]
      refine ok_if (fun _ => ok_some (h.mono (by omega))) (fun c => ?_)
      refine ok_cp (oX7_on (by omega) wt_T57 h) (fun v q => ?_)
      refine ok_if (fun _ => ok_some (h.mono (by omega))) (fun _ => ?_)
      refine ok_cl (oX2_makeStep (by omega) (Or.inr rfl) wt_T57 h) (fun _ s3 h3 => ?_)
      refine ok_cp (oJ9_max_7cf53 (by omega) h3) (fun v5 _ => ?_)
      have e := i_inc (x := l7) (by omega)
      exact ok_im (ih n (F + 2) s3 _ _ (by omega) (by omega) h3 (by omega)) (fun _ _ e => e.mono (by omega))
theorem oX10_thinkAlone {F : Nat} {z : wt_S} (hF : F + 4001 ≤ 1999990000) {s : wt_S} (h : CI F z s) {i1 i2 i3 i4 : Int32} : Ok (fun _ s' => CI (F + 4001) z s') (gX10_thinkAlone s i1 i2 i3 i4) := by
  have l0 : (0 : Int32).toInt = 0 := rfl
  unfold gX10_thinkAlone
  refine ok_cl (oX9_clear (by omega) (Or.inr rfl) h) (fun _ s1 h1 => ?_)
  refine ok_as (by decide) (h1.cs (b := 40) (a := 12) (Or.inr (Or.inl rfl)) (h1.sd (b := 11) (Or.inl rfl))) (fun s2 h2 => ?_)
  refine ok_wc h2 hn40.1 (fun s3 h3 => ?_)
  refine ok_ix (by omega) (by omega) (fun k kl ke => ?_)
  have : k = 0 := by omega
  subst this
  refine ok_cl (oX2_begin (by omega) (Or.inr rfl) wt_T57 h3) (fun _ s6 h6 => ?_)
  exact ok_im (oX10_thinkAlone_81 2000 wt_N (F + 1) s6 _ 0 (by unfold wt_N; omega) (by omega) h6.1 (by omega)) (fun _ _ e => e.mono (by omega))
theorem oX10_leastFirstFor {F : Nat} {z : wt_S} {s : wt_S} (h : CI F z s) {i1 : Int32} : Ok (fun r s' => s' = s ∧ True) (gX10_leastFirstFor s i1) := by
  have e1 := h.2.2.1
  have e2 := h.2.2.2.1
  unfold gX10_leastFirstFor
  have en : wt_N = (wt_N - 5) + 5 := (Nat.sub_add_cancel (by unfold wt_N; omega)).symm
  rw [en, e1]
  generalize wt_N - 5 = n
  rw [gX10_leastFirstFor_6]
  refine ok_if (fun _ => ok_some ⟨rfl, trivial⟩) (fun _ => ok_if (fun _ => ?_) (fun _ => ok_some ⟨rfl, trivial⟩))
  rw [gX10_leastFirstFor_6]
  refine ok_if (fun _ => ok_some ⟨rfl, trivial⟩) (fun _ => ok_if (fun _ => ?_) (fun _ => ok_some ⟨rfl, trivial⟩))
  rw [gX10_leastFirstFor_6]
  refine ok_if (fun _ => ok_some ⟨rfl, trivial⟩) (fun _ => ok_if (fun _ => ?_) (fun _ => ok_some ⟨rfl, trivial⟩))
  rw [gX10_leastFirstFor_6]
  refine ok_if (fun _ => ok_some ⟨rfl, trivial⟩) (fun _ => ok_if (fun _ => ?_) (fun _ => ok_some ⟨rfl, trivial⟩))
  rw [gX10_leastFirstFor_6]
  refine ok_if (fun _ => ok_some ⟨rfl, trivial⟩) (fun c => ?_)
  rw [e2] at c
  exact absurd (by decide) c
theorem oX10_alone {F : Nat} {z : wt_S} (hF : F + 4001 ≤ 1999990000) {s : wt_S} (h : CI F z s) {i1 i2 i3 i4 : Int32} : Ok (fun _ s' => CI (F + 4001) z s') (gX10_alone s i1 i2 i3 i4) := by
  have l0 : (0 : Int32).toInt = 0 := rfl
  have n : CI (F + 4001) z s := h.mono (by omega)
  have hA : ∀ (x : Int32), Ok (fun _ s' => CI (F + 4001) z s') (gX10_alone_65 s i4 i1 i2 i3 x) := fun x => by
    unfold gX10_alone_65
    refine ok_cl (oX10_thinkAlone hF h) (fun v s1 h1 => ?_)
    refine ok_ix (by omega) (by omega) (fun k kl ke => ?_)
    refine ok_if (fun _ => ?_) (fun _ => ok_if (fun _ => ok_some h1) (fun _ => ok_if (fun _ => ok_some h1) (fun _ => ok_if (fun _ => ok_some h1) (fun _ => ok_if (fun _ => ok_some h1) (fun _ => ok_if (fun _ => ok_some h1) (fun _ => ok_if (fun _ => ok_some h1) (fun _ => by exfalso; omega)))))))
    exact ok_cp (oX10_leastFirstFor h1) (fun _ _ => ok_some h1)
  unfold gX10_alone
  refine ok_cp (oX6_told (by omega) (Or.inl rfl) h) (fun v q => ?_)
  exact ok_if (fun _ => ok_some n) (fun _ => ok_if (fun _ => ok_some n) (fun _ => ok_if (fun _ => ok_some n) (fun _ => ok_if (fun _ => ok_some n) (fun _ => ok_if (fun _ => ok_if (fun _ => hA _) (fun _ => hA _)) (fun _ => ok_some n)))))
end
section
/-! ===== the class, method by method, 9: the log, the image ===== -/
theorem rem40p {x : Int32} (h0 : 0 ≤ x.toInt) : 0 ≤ (x - x / 40 * 40).toInt := by
  have h1 := x.toInt_lt
  have hd : (x / 40).toInt = x.toInt.tdiv 40 := by
    rw [Int32.toInt_div]
    show (x.toInt.tdiv 40).bmod _ = _
    have q1 : x.toInt.tdiv 40 * 40 + x.toInt.tmod 40 = x.toInt := Int.tdiv_mul_add_tmod ..
    have q2 : x.toInt.tmod 40 < 40 := Int.tmod_lt_of_pos _ (by decide)
    have q3 : 0 ≤ x.toInt.tmod 40 := Int.tmod_nonneg _ h0
    rw [Int.bmod_eq_of_le]
    · simp; omega
    · simp at h1 ⊢; omega
  have q1 : x.toInt.tdiv 40 * 40 + x.toInt.tmod 40 = x.toInt := Int.tdiv_mul_add_tmod ..
  have q2 : x.toInt.tmod 40 < 40 := Int.tmod_lt_of_pos _ (by decide)
  have q3 : 0 ≤ x.toInt.tmod 40 := Int.tmod_nonneg _ h0
  have hr : (x - x / 40 * 40).toInt = x.toInt.tmod 40 := by
    rw [Int32.toInt_sub, Int32.toInt_mul, hd]
    show (x.toInt - (x.toInt.tdiv 40 * 40).bmod _).bmod _ = _
    rw [Int.sub_bmod_bmod, show x.toInt - x.toInt.tdiv 40 * 40 = x.toInt.tmod 40 by omega, Int.bmod_eq_of_le]
    · omega
    · omega
  omega
theorem r40_n {y : Int32} (h : 0 ≤ y.toInt ∧ y.toInt < 40) : 0 ≤ (y * 4).toInt := by
  have h4 : (y * 4).toInt = y.toInt * 4 := by
    rw [Int32.toInt_mul]
    show (y.toInt * 4).bmod _ = _
    rw [Int.bmod_eq_of_le]
    · simp; omega
    · simp; omega
  omega
theorem oX1_read {F : Nat} {z : wt_S} {b : Nat} {s : wt_S} (h : CI F z s) {i1 i2 : Int32} : Ok (fun r s' => s' = s ∧ True) (gX1_read b s i1 i2) := by
  have l0 : (0 : Int32).toInt = 0 := rfl
  have l3 : (3 : Int32).toInt = 3 := rfl
  unfold gX1_read
  refine ok_if (fun _ => ok_some ⟨rfl, trivial⟩) (fun c1 => ok_if (fun _ => ok_some ⟨rfl, trivial⟩) (fun c2 => ok_if (fun _ => ok_some ⟨rfl, trivial⟩) (fun _ => ok_if (fun _ => ok_some ⟨rfl, trivial⟩) (fun c4 => ok_if (fun c5 => ?_) (fun _ => ok_some ⟨rfl, trivial⟩)))))
  have e1 := i_dec2 (x := s (b + 11) 1) (by omega)
  have e2 := i_subb (x := s (b + 11) 1 - 1) (y := i1) (by omega)
  generalize s (b + 11) 1 - 1 - i1 = x at *
  have r1 := rem40 x
  have r2 := rem40p (x := x) (by omega)
  generalize x - x / 40 * 40 = y at *
  obtain ⟨j, j1, rfl, j3, j4⟩ := i_nat (x := i2) (by omega)
  have r := r40_4 r1 (r40_n ⟨r2, r1.2⟩) j (by omega)
  exact ok_ix r.1 r.2 (fun k _ _ => ok_some ⟨rfl, trivial⟩)
theorem oX10_log {F : Nat} {z : wt_S} {s : wt_S} (h : CI F z s) {i1 i2 : Int32} : Ok (fun r s' => s' = s ∧ True) (gX10_log s i1 i2) := by
  unfold gX10_log
  exact ok_cp (oX1_read h) (fun _ _ => ok_some ⟨rfl, trivial⟩)
/-- the store that stays, when an image is kept -/
theorem CI.im {F : Nat} {z s : wt_S} {v : Int32} (h : CI F z s) : CI F (wt_u z 4 6 v) (wt_u s 4 6 v) := by
  obtain ⟨h1, h2, h3, h4, h5, h6, h7⟩ := h
  refine ⟨fun c hc => ?_, fun q hq f hf => ?_, ?_, ?_, ?_, ?_, fun c hc => ?_⟩
  · obtain ⟨a1, a2, a3⟩ := h1 c hc
    have hc' : c = 11 ∨ c = 40 ∨ c = 81 := hc
    exact ⟨by rw [wt_u_ne (by omega)]; exact a1, by rw [wt_u_ne (by omega)]; exact a2, fun k hk => by rw [wt_u_ne (by omega)]; exact a3 k hk⟩
  · have hq' : q = 5 ∨ q = 76 := hq
    rw [wt_u_ne (by omega), wt_u_ne (by omega)]; exact h2 q hq f hf
  · rw [wt_u_ne (by omega)]; exact h3
  · rw [wt_u_ne (by omega)]; exact h4
  · rw [wt_u_ne (by omega)]; exact h5
  · rw [wt_u_ne (by omega)]; exact h6
  · by_cases e : c = 4
    · subst e
      funext k
      by_cases e2 : k = 6
      · subst e2; rw [wt_u_self, wt_u_self]
      · rw [wt_u_nk e2, wt_u_nk e2, h7 4 (Or.inr rfl)]
    · rw [wt_u_ne e, wt_u_ne e]; exact h7 c hc
theorem oX10_image {F : Nat} {z : wt_S} {s : wt_S} (h : CI F z s) (hz : z 4 6 = 0 ∨ z 4 6 = 1) {i1 : Int32} : Ok (fun r s' => CI F (if i1 = 0 then z else wt_u z 4 6 1) s' ∧ r = s' 4 6) (gX10_image s i1) := by
  unfold gX10_image gX10_image_75
  by_cases c : i1 = 0
  · rw [if_pos c, if_pos c]
    have e4 : ∀ {s' : wt_S}, CI F z s' → s' 4 6 = 0 ∨ s' 4 6 = 1 := fun h' => by rw [h'.2.2.2.2.2.2 4 (Or.inr rfl)]; exact hz
    refine ok_if (fun _ => ok_rz (e4 h) (ok_some ⟨h, rfl⟩)) (fun _ => ?_)
    refine ok_cl (oX6_takeOver (Or.inl rfl) (Or.inr rfl) h) (fun _ s1 h1 => ?_)
    refine ok_cl (oX9_takeOver (Or.inl rfl) (Or.inr (Or.inr rfl)) h1) (fun _ s2 h2 => ?_)
    exact ok_rz (e4 h2) (ok_some ⟨h2, rfl⟩)
  · rw [if_neg c, if_neg c]
    refine ok_cl (oX6_takeOver (Or.inr rfl) (Or.inl rfl) h) (fun _ s3 h3 => ?_)
    refine ok_cl (oX9_takeOver (Or.inr (Or.inr rfl)) (Or.inl rfl) h3) (fun _ s4 h4 => ?_)
    refine ok_ws h4.im (fun s5 h5 => ?_)
    have e : s5 4 6 = 1 := by rw [h5.2.2.2.2.2.2 4 (Or.inr rfl)]; exact wt_u_self
    exact ok_rz (Or.inr e) (ok_some ⟨h5, rfl⟩)
end
section
/-! ===== the law's start: both constructors, run over symbols by the kernel ===== -/
noncomputable def sr_kc {β : Type} (ru : Nat → List mj_r → List mj_r → mj_l Nat → mj_s Nat → mj_h Nat → (Option (mj_v Nat) → mj_h Nat → Option β) → Option β) (d : Nat) (cd tl : List mj_r) (loc : mj_l Nat) (k : Option (mj_v Nat) → mj_h Nat → Option β) (h : mj_h Nat) (m ml : Nat) (as : List (mj_v Nat)) (rest : mj_s Nat) : Option β := match d with
  | d + 1 => match mj_nth mj_cds m with
    | some cd' => ru d cd' cd' (mj_ent ml as) [] h (fun v h1 => ru (d + 1) cd tl loc (match v with
      | none => rest
      | some v => v :: rest) h1 k)
    | none => none
  | 0 => none
noncomputable def sr_run {β : Type} (n : Nat) : Nat → List mj_r → List mj_r → mj_l Nat → mj_s Nat → mj_h Nat → (Option (mj_v Nat) → mj_h Nat → Option β) → Option β :=
  Nat.rec (motive := fun _ => Nat → List mj_r → List mj_r → mj_l Nat → mj_s Nat → mj_h Nat → (Option (mj_v Nat) → mj_h Nat → Option β) → Option β) (fun _ _ _ _ _ _ _ => none)
    (fun _ ih d cd suf loc st h k => match suf with
      | [] => none
      | r :: tl => mj_step (sy_O []) r.2.2.1 r.2.2.2 loc st h (fun loc st h => ih d cd tl loc st h k) (fun j st => ih d cd (mj_drop j cd) loc st h k) (sr_kc ih d cd tl loc k h) (fun v => k v h) none r.2.1) n
theorem sr_run_succ {β : Type} (n d : Nat) (cd : List mj_r) (r : mj_r) (tl : List mj_r) (loc : mj_l Nat) (st : mj_s Nat) (h : mj_h Nat) (k : Option (mj_v Nat) → mj_h Nat → Option β) :
    sr_run (n + 1) d cd (r :: tl) loc st h k = mj_step (sy_O []) r.2.2.1 r.2.2.2 loc st h (fun loc st h => sr_run n d cd tl loc st h k) (fun j st => sr_run n d cd (mj_drop j cd) loc st h k) (sr_kc (sr_run n) d cd tl loc k h) (fun v => k v h) none r.2.1 := rfl
theorem sr_sound {β : Type} {env : Nat → Int32} (hM : sy_M env []) : ∀ (n d : Nat) (cd suf : List mj_r) (loc : mj_l Nat) (st : mj_s Nat) (h : mj_h Nat) (k : Option (mj_v Nat) → mj_h Nat → Option β) (R : β), sr_run n d cd suf loc st h k = some R →
    ∃ v h1, k v h1 = some R ∧ mj_Rn d cd suf (mg_l (sy_g env) loc) (mg_s (sy_g env) st) (mg_h (sy_g env) h) (mg_o (sy_g env) v, mg_h (sy_g env) h1) := by
  intro n
  induction n with
  | zero =>
    intro d cd suf loc st h k R hr
    have hr : (none : Option β) = some R := hr
    cases hr
  | succ n ih =>
    intro d cd suf loc st h k R hr
    cases suf with
    | nil =>
      have hr : (none : Option β) = some R := hr
      cases hr
    | cons r tl =>
      rw [sr_run_succ] at hr
      have key := mj_step_rel (g := sy_g env) (O := sy_O []) (O' := mj_I) (Rel := fun (o : Option β) (P : (Option (mj_v Int32) × mj_h Int32) → Prop) => o = some R → ∃ v h1, k v h1 = some R ∧ P (mg_o (sy_g env) v, mg_h (sy_g env) h1)) (x := r.2.2.1) (xs := r.2.2.2) (loc := loc) (st := st) (h := h)
        (kn := fun loc st h => sr_run n d cd tl loc st h k) (kj := fun j st => sr_run n d cd (mj_drop j cd) loc st h k) (kc := sr_kc (sr_run n) d cd tl loc k h) (kr := fun v => k v h) (sp := none)
        (kn' := fun loc st h R0 => mj_Rn d cd tl loc st h R0) (kj' := fun j st R0 => mj_Rn d cd (mj_drop j cd) (mg_l (sy_g env) loc) st (mg_h (sy_g env) h) R0) (kc' := fun k ml as rest R0 => mj_Kc d cd tl (mg_l (sy_g env) loc) (mg_h (sy_g env) h) R0 k ml as rest) (kr' := fun v R0 => (v, mg_h (sy_g env) h) = R0) (sp' := fun _ => False)
        (sy_inj_spec env) (fun op a b z e => sy_bin_spec hM e) (fun c a b q e => congrArg some (sy_cmp_spec hM e)) (fun a z e => congrArg some (sy_val_spec hM e))
        (fun l s h' e => ih _ _ _ _ _ _ _ _ e)
        (fun j s e => ih _ _ _ _ _ _ _ _ e)
        (fun m ml as rest e => by
          unfold sr_kc at e
          split at e
          · rename_i d'
            split at e
            · rename_i cd' hcd
              obtain ⟨v', h1, a2, a3⟩ := ih _ _ _ _ _ _ _ _ e
              obtain ⟨v2, h2, b2, b3⟩ := ih _ _ _ _ _ _ _ _ a2
              rw [mg_ent] at a3
              refine ⟨v2, h2, b2, d', cd', mg_o (sy_g env) v', mg_h (sy_g env) h1, rfl, by rw [← mj_nth_eq]; exact hcd, a3, ?_⟩
              cases v' <;> exact b3
            · cases e
          · cases e)
        (fun v e => ⟨v, h, e, rfl⟩) (fun a' e => by cases e) r.2.1
      obtain ⟨v, h1, a1, a2⟩ := key hr
      exact ⟨v, h1, a1, mj_Rn.step' a2⟩
theorem mj_Rn.det {d : Nat} {cd suf : List mj_r} {loc : mj_l Int32} {st : mj_s Int32} {h : mj_h Int32} {R R' : Option (mj_v Int32) × mj_h Int32} (h1 : mj_Rn d cd suf loc st h R) (h2 : mj_Rn d cd suf loc st h R') : R = R' := by
  obtain ⟨N, e1⟩ := h1
  obtain ⟨M, e2⟩ := h2
  exact Option.some.inj ((mj_mono (Nat.le_max_left N M) e1).symm.trans (mj_mono (Nat.le_max_right N M) e2))
end
section
/-! ===== runs over heaps that are related: a dead cell stands for one that is given, rows of references are none beyond their ends ===== -/
section
variable {V V' : Type} (g : V → V') (C0 : mj_c V')
def hcl (c : mj_c V) (c' : mj_c V') : Prop := match c with
  | .inl (t, n, f) => c' = .inl (t, n, fun j => g (f j))
  | .inr (.inl (n, f)) => ∃ f', c' = .inr (.inl (n, f')) ∧ (∀ k, k < n → f' k = f k) ∧ ∀ k, n ≤ k → f' k = none
  | .inr (.inr (ci, fs)) => c' = .inr (.inr (ci, mg_s g fs))
def HR (h : mj_h V) (h' : mj_h V') : Prop := h'.length = h.length ∧ (mj_nth h 0 = some (.inr (.inr (99, []))) ∧ mj_nth h' 0 = some C0) ∧ ∀ a c, a ≠ 0 → mj_nth h a = some c → ∃ c', mj_nth h' a = some c' ∧ hcl g c c'
end
theorem mj_ix_lt {z : Int} {n k : Nat} (h : mj_ix z n = some k) : k < n := by
  unfold mj_ix at h
  split at h
  · split at h
    · rename_i e
      cases h
      exact sy_ble_t e
    · cases h
  · cases h
section
variable {V V' : Type} {g : V → V'} {C0 : mj_c V'} {h : mj_h V} {h' : mj_h V'}
theorem HR.put (hh : HR g C0 h h') {a : Nat} {c : mj_c V} {c' : mj_c V'} (ha : a ≠ 0) (hc : hcl g c c') : HR g C0 (mj_put h a c) (mj_put h' a c') := by
  refine ⟨by rw [mj_put_eq, mj_put_eq, List.length_set, List.length_set]; exact hh.1, ⟨?_, ?_⟩, fun b d hb hd => ?_⟩
  · rw [mj_put_eq, mj_nth_eq, List.getElem?_set_ne ha, ← mj_nth_eq]; exact hh.2.1.1
  · rw [mj_put_eq, mj_nth_eq, List.getElem?_set_ne ha, ← mj_nth_eq]; exact hh.2.1.2
  · rw [mj_put_eq, mj_nth_eq] at hd
    rw [mj_put_eq, mj_nth_eq]
    by_cases e : a = b
    · subst e
      have hl : a < h.length := by
        have := (List.getElem?_eq_some_iff.mp hd).1
        rw [List.length_set] at this
        exact this
      rw [List.getElem?_set_self hl] at hd
      rw [List.getElem?_set_self (by rw [hh.1]; exact hl)]
      cases hd
      exact ⟨c', rfl, hc⟩
    · rw [List.getElem?_set_ne e] at hd ⊢
      rw [← mj_nth_eq] at hd ⊢
      exact hh.2.2 b d hb hd
theorem HR.app (hh : HR g C0 h h') {c : mj_c V} {c' : mj_c V'} (hc : hcl g c c') : HR g C0 (mj_app h c) (mj_app h' c') := by
  have h0 : 0 < h.length := by
    have := hh.2.1.1
    rw [mj_nth_eq] at this
    exact (List.getElem?_eq_some_iff.mp this).1
  refine ⟨by rw [mj_app_eq, mj_app_eq, List.length_append, List.length_append, hh.1]; rfl, ⟨?_, ?_⟩, fun b d hb hd => ?_⟩
  · rw [mj_app_eq, mj_nth_eq, List.getElem?_append_left h0, ← mj_nth_eq]; exact hh.2.1.1
  · rw [mj_app_eq, mj_nth_eq, List.getElem?_append_left (by rw [hh.1]; exact h0), ← mj_nth_eq]; exact hh.2.1.2
  · rw [mj_app_eq, mj_nth_eq] at hd
    rw [mj_app_eq, mj_nth_eq]
    by_cases e : b < h.length
    · rw [List.getElem?_append_left e] at hd
      rw [List.getElem?_append_left (by rw [hh.1]; exact e)]
      rw [← mj_nth_eq] at hd ⊢
      exact hh.2.2 b d hb hd
    · rw [List.getElem?_append_right (by omega)] at hd
      rw [List.getElem?_append_right (by rw [hh.1]; omega), hh.1]
      have hb : b - h.length = 0 := by
        have := (List.getElem?_eq_some_iff.mp hd).1
        simp at this
        omega
      rw [hb] at hd ⊢
      have hd : some c = some d := hd
      cases hd
      exact ⟨c', rfl, hc⟩
theorem HR.i (hh : HR g C0 h h') {a : Nat} {q : Nat × Nat × (Nat → V)} (hc : mj_nth h a = some (.inl q)) : a ≠ 0 ∧ mj_nth h' a = some (.inl (q.1, q.2.1, fun j => g (q.2.2 j))) := by
  have ha : a ≠ 0 := fun e => by
    subst e
    rw [hh.2.1.1] at hc
    cases hc
  obtain ⟨c', e1, e2⟩ := hh.2.2 a _ ha hc
  have e2 : c' = .inl (q.1, q.2.1, fun j => g (q.2.2 j)) := e2
  rw [e1, e2]
  exact ⟨ha, rfl⟩
theorem HR.r (hh : HR g C0 h h') {a n : Nat} {f : Nat → Option Nat} (hc : mj_nth h a = some (.inr (.inl (n, f)))) : a ≠ 0 ∧ ∃ f', mj_nth h' a = some (.inr (.inl (n, f'))) ∧ (∀ k, k < n → f' k = f k) ∧ ∀ k, n ≤ k → f' k = none := by
  have ha : a ≠ 0 := fun e => by
    subst e
    rw [hh.2.1.1] at hc
    cases hc
  obtain ⟨c', e1, f', e2, e3, e4⟩ := hh.2.2 a _ ha hc
  rw [e1, e2]
  exact ⟨ha, f', rfl, e3, e4⟩
theorem HR.o (hh : HR g C0 h h') {a ci : Nat} {fs : List (mj_v V)} (ha : a ≠ 0) (hc : mj_nth h a = some (.inr (.inr (ci, fs)))) : mj_nth h' a = some (.inr (.inr (ci, mg_s g fs))) := by
  obtain ⟨c', e1, e2⟩ := hh.2.2 a _ ha hc
  have e2 : c' = .inr (.inr (ci, mg_s g fs)) := e2
  rw [e1, e2]
theorem HR.len (hh : HR g C0 h h') : mj_len h' = mj_len h := by rw [mj_len_eq, mj_len_eq]; exact hh.1
end
section
variable {V V' α α' : Type} {g : V → V'} {C0 : mj_c V'} {O : mj_O V} {O' : mj_O V'} {Rel : α → α' → Prop} {x : Nat} {xs : List Nat} {loc : mj_l V} {st : mj_s V} {h : mj_h V} {h' : mj_h V'} {kn : mj_l V → mj_s V → mj_h V → α} {kn' : mj_l V' → mj_s V' → mj_h V' → α'} {kj : Nat → mj_s V → α} {kj' : Nat → mj_s V' → α'} {kc : Nat → Nat → List (mj_v V) → mj_s V → α} {kc' : Nat → Nat → List (mj_v V') → mj_s V' → α'} {kr : Option (mj_v V) → α} {kr' : Option (mj_v V') → α'} {sp : α} {sp' : α'}
theorem hr_ald (hh : HR g C0 h h') (hval : ∀ a z, O.2.2.2 a = some z → O'.2.2.2 (g a) = some z) (Kn : ∀ l s h h', HR g C0 h h' → Rel (kn l s h) (kn' (mg_l g l) (mg_s g s) h')) (Ks : ∀ a', Rel sp a') (tag : Nat) : Rel (mj_ald O loc st h kn sp tag) (mj_ald O' (mg_l g loc) (mg_s g st) h' kn' sp' tag) := by
  rcases st with _ | ⟨i | r, rest0⟩
  · exact Ks _
  · rcases rest0 with _ | ⟨i2 | (_ | a), rest⟩
    · exact Ks _
    · exact Ks _
    · exact Ks _
    · simp only [mg_sc, mg_vl, mg_vr]
      unfold mj_ald
      (try dsimp only)
      rcases hc : mj_nth h a with _ | (⟨t, n, f⟩ | (q | q))
      · exact Ks _
      · obtain ⟨ha, e1⟩ := hh.i hc
        rw [e1]
        (try dsimp only)
        cases Nat.beq t tag with
        | false => cases O.2.2.2 i <;> exact Ks _
        | true =>
          cases hz : O.2.2.2 i with
          | none => exact Ks _
          | some z =>
            rw [hval _ _ hz]
            (try dsimp only)
            cases mj_ix z n with
            | none => exact Ks _
            | some k => exact Kn _ _ _ _ hh
      · exact Ks _
      · exact Ks _
  · exact Ks _
theorem hr_ast (hh : HR g C0 h h') (hval : ∀ a z, O.2.2.2 a = some z → O'.2.2.2 (g a) = some z) (Kn : ∀ l s h h', HR g C0 h h' → Rel (kn l s h) (kn' (mg_l g l) (mg_s g s) h')) (Ks : ∀ a', Rel sp a') : Rel (mj_ast O loc st h kn sp) (mj_ast O' (mg_l g loc) (mg_s g st) h' kn' sp') := by
  rcases st with _ | ⟨v | r, rest0⟩
  · exact Ks _
  · rcases rest0 with _ | ⟨i | r2, rest1⟩
    · exact Ks _
    · rcases rest1 with _ | ⟨i2 | (_ | a), rest⟩
      · exact Ks _
      · exact Ks _
      · exact Ks _
      · simp only [mg_sc, mg_vl, mg_vr]
        unfold mj_ast
        (try dsimp only)
        rcases hc : mj_nth h a with _ | (⟨t, n, f⟩ | (q | q))
        · exact Ks _
        · obtain ⟨ha, e1⟩ := hh.i hc
          rw [e1]
          (try dsimp only)
          cases Nat.ble 4 a with
          | false => rcases t with _ | t <;> exact Ks _
          | true =>
            rcases t with _ | t
            · (try dsimp only)
              cases hz : O.2.2.2 i with
              | none => exact Ks _
              | some z =>
                rw [hval _ _ hz]
                show Rel (match mj_ix z n with
                  | some k => kn loc rest (mj_put h a (.inl (0, n, mj_upd f k v)))
                  | none => sp) (match mj_ix z n with
                  | some k => kn' (mg_l g loc) (mg_s g rest) (mj_put h' a (.inl (0, n, mj_upd (fun j => g (f j)) k (g v))))
                  | none => sp')
                cases mj_ix z n with
                | none => exact Ks _
                | some k =>
                  refine Kn _ _ _ _ (hh.put ha ?_)
                  show (Sum.inl (0, n, mj_upd (fun j => g (f j)) k (g v)) : mj_c V') = Sum.inl (0, n, fun j => g (mj_upd f k v j))
                  rw [mg_upd]
            · exact Ks _
        · exact Ks _
        · exact Ks _
    · exact Ks _
  · exact Ks _
theorem hr_bst (hh : HR g C0 h h') (hval : ∀ a z, O.2.2.2 a = some z → O'.2.2.2 (g a) = some z) (Kn : ∀ l s h h', HR g C0 h h' → Rel (kn l s h) (kn' (mg_l g l) (mg_s g s) h')) (Ks : ∀ a', Rel sp a') : Rel (mj_bst O loc st h kn sp) (mj_bst O' (mg_l g loc) (mg_s g st) h' kn' sp') := by
  rcases st with _ | ⟨v | r, rest0⟩
  · exact Ks _
  · rcases rest0 with _ | ⟨i | r2, rest1⟩
    · exact Ks _
    · rcases rest1 with _ | ⟨i2 | (_ | a), rest⟩
      · exact Ks _
      · exact Ks _
      · exact Ks _
      · simp only [mg_sc, mg_vl, mg_vr]
        unfold mj_bst
        (try dsimp only)
        rcases hc : mj_nth h a with _ | (⟨t, n, f⟩ | (q | q))
        · exact Ks _
        · obtain ⟨ha, e1⟩ := hh.i hc
          rw [e1]
          (try dsimp only)
          cases Nat.ble 4 a with
          | false => rcases t with _ | _ | t <;> exact Ks _
          | true =>
            rcases t with _ | _ | t
            · exact Ks _
            · cases hb : O.2.2.2 v with
              | none => exact Ks _
              | some w =>
                rw [hval _ _ hb]
                cases mj_bit (some w) with
                | false => exact Ks _
                | true =>
                  (try dsimp only)
                  cases hz : O.2.2.2 i with
                  | none => exact Ks _
                  | some z =>
                    rw [hval _ _ hz]
                    show Rel (match mj_ix z n with
                      | some k => kn loc rest (mj_put h a (.inl (1, n, mj_upd f k v)))
                      | none => sp) (match mj_ix z n with
                      | some k => kn' (mg_l g loc) (mg_s g rest) (mj_put h' a (.inl (1, n, mj_upd (fun j => g (f j)) k (g v))))
                      | none => sp')
                    cases mj_ix z n with
                    | none => exact Ks _
                    | some k =>
                      refine Kn _ _ _ _ (hh.put ha ?_)
                      show (Sum.inl (1, n, mj_upd (fun j => g (f j)) k (g v)) : mj_c V') = Sum.inl (1, n, fun j => g (mj_upd f k v j))
                      rw [mg_upd]
            · exact Ks _
        · exact Ks _
        · exact Ks _
    · exact Ks _
  · exact Ks _
theorem hr_aald (hh : HR g C0 h h') (hval : ∀ a z, O.2.2.2 a = some z → O'.2.2.2 (g a) = some z) (Kn : ∀ l s h h', HR g C0 h h' → Rel (kn l s h) (kn' (mg_l g l) (mg_s g s) h')) (Ks : ∀ a', Rel sp a') : Rel (mj_aald O loc st h kn sp) (mj_aald O' (mg_l g loc) (mg_s g st) h' kn' sp') := by
  rcases st with _ | ⟨i | r, rest0⟩
  · exact Ks _
  · rcases rest0 with _ | ⟨i2 | (_ | a), rest⟩
    · exact Ks _
    · exact Ks _
    · exact Ks _
    · simp only [mg_sc, mg_vl, mg_vr]
      unfold mj_aald
      (try dsimp only)
      rcases hc : mj_nth h a with _ | (q | (⟨n, f⟩ | q))
      · exact Ks _
      · exact Ks _
      · obtain ⟨ha, f', e1, e3, e4⟩ := hh.r hc
        rw [e1]
        (try dsimp only)
        cases hz : O.2.2.2 i with
        | none => cases Nat.ble 4 a <;> exact Ks _
        | some z =>
          rw [hval _ _ hz]
          cases Nat.ble 4 a with
          | false => exact Ks _
          | true =>
            (try dsimp only)
            cases hk : mj_ix z n with
            | none => exact Ks _
            | some k =>
              (try dsimp only)
              rw [e3 k (mj_ix_lt hk)]
              cases f k with
              | none => exact Ks _
              | some b => exact Kn _ _ _ _ hh
      · exact Ks _
  · exact Ks _
theorem hr_aast (hh : HR g C0 h h') (hval : ∀ a z, O.2.2.2 a = some z → O'.2.2.2 (g a) = some z) (Kn : ∀ l s h h', HR g C0 h h' → Rel (kn l s h) (kn' (mg_l g l) (mg_s g s) h')) (Ks : ∀ a', Rel sp a') : Rel (mj_aast O loc st h kn sp) (mj_aast O' (mg_l g loc) (mg_s g st) h' kn' sp') := by
  rcases st with _ | ⟨b0 | (_ | b), rest0⟩
  · exact Ks _
  · exact Ks _
  · exact Ks _
  · rcases rest0 with _ | ⟨i | r, rest1⟩
    · exact Ks _
    · rcases rest1 with _ | ⟨i2 | (_ | a), rest⟩
      · exact Ks _
      · exact Ks _
      · exact Ks _
      · simp only [mg_sc, mg_vl, mg_vr]
        unfold mj_aast
        (try dsimp only)
        split
        · rename_i n f fs ha h4 hb h5
          obtain ⟨ha0, f', e1, e3, e4⟩ := hh.r ha
          have e5 := hh.o (by have := sy_ble_t h5; omega) hb
          rw [e1, h4, e5, h5]
          (try dsimp only)
          cases hz : O.2.2.2 i with
          | none => exact Ks _
          | some z =>
            rw [hval _ _ hz]
            show Rel (match mj_ix z n with
              | some k => kn loc rest (mj_put h a (.inr (.inl (n, mj_upd f k (some b)))))
              | none => sp) (match mj_ix z n with
              | some k => kn' (mg_l g loc) (mg_s g rest) (mj_put h' a (.inr (.inl (n, mj_upd f' k (some b)))))
              | none => sp')
            cases hk : mj_ix z n with
            | none => exact Ks _
            | some k =>
              have hkn := mj_ix_lt hk
              refine Kn _ _ _ _ (hh.put ha0 ⟨_, rfl, fun j hj => ?_, fun j hj => ?_⟩)
              · by_cases e : j = k
                · subst e; rw [mj_upd_self, mj_upd_self]
                · rw [mj_upd_ne e, mj_upd_ne e]; exact e3 j hj
              · rw [mj_upd_ne (by omega)]; exact e4 j hj
        · exact Ks _
    · exact Ks _
theorem hr_alen (hh : HR g C0 h h') (hinj : ∀ n, g (O.1 n) = O'.1 n) (Kn : ∀ l s h h', HR g C0 h h' → Rel (kn l s h) (kn' (mg_l g l) (mg_s g s) h')) (Ks : ∀ a', Rel sp a') : Rel (mj_alen O loc st h kn sp) (mj_alen O' (mg_l g loc) (mg_s g st) h' kn' sp') := by
  rcases st with _ | ⟨i | (_ | a), rest⟩
  · exact Ks _
  · exact Ks _
  · exact Ks _
  · simp only [mg_sc, mg_vl, mg_vr]
    unfold mj_alen
    (try dsimp only)
    rcases hc : mj_nth h a with _ | (⟨t, n, f⟩ | (⟨n, f⟩ | q))
    · exact Ks _
    · obtain ⟨ha, e1⟩ := hh.i hc
      rw [e1]
      (try dsimp only)
      rw [← hinj]
      exact Kn _ _ _ _ hh
    · obtain ⟨ha, f', e1, e3, e4⟩ := hh.r hc
      rw [e1]
      (try dsimp only)
      cases Nat.ble 4 a with
      | false => exact Ks _
      | true =>
        (try dsimp only)
        rw [← hinj]
        exact Kn _ _ _ _ hh
    · exact Ks _
theorem hr_getf (hh : HR g C0 h h') (Kn : ∀ l s h h', HR g C0 h h' → Rel (kn l s h) (kn' (mg_l g l) (mg_s g s) h')) (Ks : ∀ a', Rel sp a') : Rel (mj_getf x xs loc st h kn sp) (mj_getf x xs (mg_l g loc) (mg_s g st) h' kn' sp') := by
  rcases st with _ | ⟨i | (_ | a), rest⟩
  · exact Ks _
  · exact Ks _
  · exact Ks _
  · rcases xs with _ | ⟨ci, xs⟩
    · exact Ks _
    · simp only [mg_sc, mg_vl, mg_vr]
      unfold mj_getf
      (try dsimp only)
      rcases hc : mj_nth h a with _ | (q | (q | ⟨c, fs⟩))
      · exact Ks _
      · exact Ks _
      · exact Ks _
      · (try dsimp only)
        cases e4 : Nat.ble 4 a with
        | false => cases Nat.beq c ci <;> cases mj_nth fs x <;> exact Ks _
        | true =>
          have e1 := hh.o (by have := sy_ble_t e4; omega) hc
          rw [e1]
          (try dsimp only)
          rw [show mj_nth (mg_s g fs) x = (mj_nth fs x).map (mg_v g) from mg_nth _ _ _]
          cases Nat.beq c ci with
          | false => cases mj_nth fs x <;> exact Ks _
          | true =>
            cases mj_nth fs x with
            | none => exact Ks _
            | some v => exact Kn _ _ _ _ hh
theorem hr_putf (hh : HR g C0 h h') (hval : ∀ a z, O.2.2.2 a = some z → O'.2.2.2 (g a) = some z) (Kn : ∀ l s h h', HR g C0 h h' → Rel (kn l s h) (kn' (mg_l g l) (mg_s g s) h')) (Ks : ∀ a', Rel sp a') : Rel (mj_putf O x xs loc st h kn sp) (mj_putf O' x xs (mg_l g loc) (mg_s g st) h' kn' sp') := by
  rcases st with _ | ⟨v, rest0⟩
  · exact Ks _
  · rcases rest0 with _ | ⟨i | (_ | a), rest⟩
    · exact Ks _
    · exact Ks _
    · exact Ks _
    · simp only [mg_sc, mg_vr]
      unfold mj_putf
      (try dsimp only)
      split
      · rename_i v0 a0 rest1 ci pw kind xs0 heq
        cases heq
        show Rel _ (match mj_nth h' a with
          | some (.inr (.inr (c, fs))) => match Nat.beq c ci, Nat.ble 4 a, mj_nth fs x, mj_fit O' kind (mg_v g v) with
            | true, true, some _, true => kn' (mg_l g loc) (mg_s g rest) (mj_put h' a (.inr (.inr (c, mj_put fs x (mg_v g v)))))
            | _, _, _, _ => sp'
          | _ => sp')
        rcases hc : mj_nth h a with _ | (q | (q | ⟨c, fs⟩))
        · exact Ks _
        · exact Ks _
        · exact Ks _
        · (try dsimp only)
          split
          · rename_i w e1 e2 e3 e4
            have ha0 : a ≠ 0 := by have := sy_ble_t e2; omega
            have d1 := hh.o ha0 hc
            rw [d1]
            (try dsimp only)
            rw [show mj_nth (mg_s g fs) x = (mj_nth fs x).map (mg_v g) from mg_nth _ _ _, e1, e2, e3, mg_fit hval _ _ e4]
            dsimp only [Option.map]
            refine Kn _ _ _ _ (hh.put ha0 ?_)
            show (Sum.inr (Sum.inr (c, mj_put (mg_s g fs) x (mg_v g v))) : mj_c V') = Sum.inr (Sum.inr (c, (mj_put fs x v).map (mg_v g)))
            rw [mg_put]
            rfl
          · exact Ks _
      · exact Ks _
theorem hr_new (hh : HR g C0 h h') (hinj : ∀ n, g (O.1 n) = O'.1 n) (Kn : ∀ l s h h', HR g C0 h h' → Rel (kn l s h) (kn' (mg_l g l) (mg_s g s) h')) (Ks : ∀ a', Rel sp a') : Rel (mj_new O x xs loc st h kn sp) (mj_new O' x xs (mg_l g loc) (mg_s g st) h' kn' sp') := by
  unfold mj_new
  split
  · rename_i p1 p2 p3 ks
    rw [hh.len, ← mg_dfl hinj]
    exact Kn loc (.inr (some (mj_len h)) :: st) _ _ (hh.app rfl)
  · exact Ks _
theorem hr_newa (hh : HR g C0 h h') (hinj : ∀ n, g (O.1 n) = O'.1 n) (hval : ∀ a z, O.2.2.2 a = some z → O'.2.2.2 (g a) = some z) (Kn : ∀ l s h h', HR g C0 h h' → Rel (kn l s h) (kn' (mg_l g l) (mg_s g s) h')) (Ks : ∀ a', Rel sp a') (tag : Nat) : Rel (mj_newa O loc st h kn sp tag) (mj_newa O' (mg_l g loc) (mg_s g st) h' kn' sp' tag) := by
  rcases st with _ | ⟨a | r, rest⟩
  · exact Ks _
  · simp only [mg_sc, mg_vl, mg_vr]
    unfold mj_newa
    (try dsimp only)
    cases hz : O.2.2.2 a with
    | none => exact Ks _
    | some z =>
      rw [hval _ _ hz]
      cases z with
      | negSucc k => exact Ks _
      | ofNat n =>
        (try dsimp only)
        cases Nat.ble n 100000 with
        | false => exact Ks _
        | true =>
          (try dsimp only)
          rw [hh.len, ← hinj]
          exact Kn loc (.inr (some (mj_len h)) :: rest) _ _ (hh.app rfl)
  · exact Ks _
theorem hr_anew (hh : HR g C0 h h') (hval : ∀ a z, O.2.2.2 a = some z → O'.2.2.2 (g a) = some z) (Kn : ∀ l s h h', HR g C0 h h' → Rel (kn l s h) (kn' (mg_l g l) (mg_s g s) h')) (Ks : ∀ a', Rel sp a') : Rel (mj_anew O loc st h kn sp) (mj_anew O' (mg_l g loc) (mg_s g st) h' kn' sp') := by
  rcases st with _ | ⟨a | r, rest⟩
  · exact Ks _
  · simp only [mg_sc, mg_vl, mg_vr]
    unfold mj_anew
    (try dsimp only)
    cases hz : O.2.2.2 a with
    | none => exact Ks _
    | some z =>
      rw [hval _ _ hz]
      cases z with
      | negSucc k => exact Ks _
      | ofNat n =>
        (try dsimp only)
        cases Nat.ble n 100000 with
        | false => exact Ks _
        | true =>
          (try dsimp only)
          rw [hh.len]
          exact Kn loc (.inr (some (mj_len h)) :: rest) _ _ (hh.app ⟨_, rfl, fun _ _ => rfl, fun _ _ => rfl⟩)
  · exact Ks _
theorem hr_acopy (hh : HR g C0 h h') (hval : ∀ a z, O.2.2.2 a = some z → O'.2.2.2 (g a) = some z) (Kn : ∀ l s h h', HR g C0 h h' → Rel (kn l s h) (kn' (mg_l g l) (mg_s g s) h')) (Ks : ∀ a', Rel sp a') : Rel (mj_acopy O loc st h kn sp) (mj_acopy O' (mg_l g loc) (mg_s g st) h' kn' sp') := by
  unfold mj_acopy
  split
  · rename_i n dp b sp0 a rest
    simp only [mg_sc, mg_vl, mg_vr]
    split
    · rename_i n0 f n1 f' ha hb h4
      have e1 := (hh.i ha).2
      obtain ⟨hb0, e3⟩ := hh.i hb
      rw [e1, e3, h4]
      (try dsimp only)
      split
      · rename_i n' dp' sp1 e1 e2 e3
        rw [hval _ _ e1, hval _ _ e2, hval _ _ e3]
        (try dsimp only)
        rw [show mj_len (mg_s g rest) = mj_len rest from mg_len _ _]
        split
        · rename_i l1 l2 l3
          show Rel _ (match Nat.ble (sp1 + n') n0, Nat.ble (dp' + n') n1, Nat.ble (mj_len rest) 8 with
            | true, true, true => kn' (mg_l g loc) (mg_s g rest) (mj_put h' b (.inl (0, n1, mj_cpy (fun j => g (f j)) (fun j => g (f' j)) sp1 dp' n')))
            | _, _, _ => sp')
          rw [l1, l2, l3]
          (try dsimp only)
          refine Kn _ _ _ _ (hh.put hb0 ?_)
          show (Sum.inl (0, n1, mj_cpy (fun j => g (f j)) (fun j => g (f' j)) sp1 dp' n') : mj_c V') = Sum.inl (0, n1, fun j => g (mj_cpy f f' sp1 dp' n' j))
          rw [mg_cpy]
        · exact Ks _
      · exact Ks _
    · exact Ks _
  · exact Ks _
theorem hr_isof (hh : HR g C0 h h') {ci : Nat} {v : mj_v V} (hv : mj_isof h ci v = true) : mj_isof h' ci (mg_v g v) = true := by
  rcases v with i | (_ | a)
  · cases hv
  · cases hv
  · unfold mj_isof at hv
    unfold mj_isof mg_v
    (try dsimp only at hv)
    (try dsimp only)
    split at hv
    · rename_i c fs hc
      rw [Bool.and_eq_true] at hv
      have e1 := hh.o (by have := sy_ble_t hv.2; omega) hc
      rw [e1]
      (try dsimp only)
      rw [hv.1, hv.2]
      rfl
    · cases hv
theorem hr_call (hh : HR g C0 h h') (Kc : ∀ k ml as rest, Rel (kc k ml as rest) (kc' k ml (mg_s g as) (mg_s g rest))) (Ks : ∀ a', Rel sp a') : Rel (mj_call x xs st h kc sp) (mj_call x xs (mg_s g st) h' kc' sp') := by
  unfold mj_call
  split
  · rename_i n ml recv xs0
    rw [show mj_args n (mg_s g st) [] = (mj_args n st []).map fun q => (mg_s g q.1, mg_s g q.2) from mg_args n st []]
    rcases mj_args n st [] with _ | ⟨as, rest⟩
    · exact Ks _
    · dsimp only [Option.map]
      rw [show mj_len (mg_s g rest) = mj_len rest from mg_len _ _]
      cases Nat.ble (mj_len rest) 8 with
      | false => rcases recv with _ | ci <;> rcases as with _ | ⟨a, as⟩ <;> exact Ks _
      | true =>
        rcases recv with _ | ci
        · exact Kc _ _ _ _
        · rcases as with _ | ⟨a, as⟩
          · exact Ks _
          · simp only [mg_sc]
            cases hv : mj_isof h ci a with
            | false => exact Ks _
            | true =>
              rw [hr_isof hh hv]
              exact Kc _ _ _ _
  · exact Ks _
theorem hr_step (hh : HR g C0 h h') (hinj : ∀ n, g (O.1 n) = O'.1 n) (hbin : ∀ op a b z, O.2.1 op a b = some z → O'.2.1 op (g a) (g b) = some (g z)) (hcmp : ∀ c a b q, O.2.2.1 c a b = some q → O'.2.2.1 c (g a) (g b) = some q) (hval : ∀ a z, O.2.2.2 a = some z → O'.2.2.2 (g a) = some z) (Kn : ∀ l s h h', HR g C0 h h' → Rel (kn l s h) (kn' (mg_l g l) (mg_s g s) h')) (Kj : ∀ j s, Rel (kj j s) (kj' j (mg_s g s))) (Kc : ∀ k ml as rest, Rel (kc k ml as rest) (kc' k ml (mg_s g as) (mg_s g rest))) (Kr : ∀ v, Rel (kr v) (kr' (mg_o g v))) (Ks : ∀ a', Rel sp a') (ins : Instr) : Rel (mj_step O x xs loc st h kn kj kc kr sp ins) (mj_step O' x xs (mg_l g loc) (mg_s g st) h' kn' kj' kc' kr' sp' ins) := by
  have hc : ∀ n, Rel (kn loc (.inl (O.1 n) :: st) h) (kn' (mg_l g loc) (.inl (O'.1 n) :: mg_s g st) h') := fun n => by rw [← hinj]; exact Kn _ _ _ _ hh
  have K0 : ∀ l s (_ : mj_h V), Rel (kn l s h) (kn' (mg_l g l) (mg_s g s) h') := fun l s _ => Kn l s h h' hh
  cases ins with
  | iload i => exact rel_iload (h := []) (kn := fun l s _ => kn l s h) (kn' := fun l s _ => kn' l s h') K0 Ks i
  | iload_n i => exact rel_iload (h := []) (kn := fun l s _ => kn l s h) (kn' := fun l s _ => kn' l s h') K0 Ks i.val
  | aload i => exact rel_aload (h := []) (kn := fun l s _ => kn l s h) (kn' := fun l s _ => kn' l s h') K0 Ks i
  | aload_n i => exact rel_aload (h := []) (kn := fun l s _ => kn l s h) (kn' := fun l s _ => kn' l s h') K0 Ks i.val
  | istore i => exact rel_istore (h := []) (kn := fun l s _ => kn l s h) (kn' := fun l s _ => kn' l s h') K0 Ks i
  | istore_n i => exact rel_istore (h := []) (kn := fun l s _ => kn l s h) (kn' := fun l s _ => kn' l s h') K0 Ks i.val
  | astore i => exact rel_astore (h := []) (kn := fun l s _ => kn l s h) (kn' := fun l s _ => kn' l s h') K0 Ks i
  | astore_n i => exact rel_astore (h := []) (kn := fun l s _ => kn l s h) (kn' := fun l s _ => kn' l s h') K0 Ks i.val
  | iconst n => exact hc n
  | bipush n => exact hc n
  | sipush n => exact hc n
  | ldc i => exact hc _
  | ldc_w i => exact hc _
  | iadd => exact rel_bin (h := []) (kn := fun l s _ => kn l s h) (kn' := fun l s _ => kn' l s h') hbin K0 Ks 0
  | isub => exact rel_bin (h := []) (kn := fun l s _ => kn l s h) (kn' := fun l s _ => kn' l s h') hbin K0 Ks 1
  | imul => exact rel_bin (h := []) (kn := fun l s _ => kn l s h) (kn' := fun l s _ => kn' l s h') hbin K0 Ks 2
  | idiv => exact rel_bin (h := []) (kn := fun l s _ => kn l s h) (kn' := fun l s _ => kn' l s h') hbin K0 Ks 3
  | irem => exact rel_bin (h := []) (kn := fun l s _ => kn l s h) (kn' := fun l s _ => kn' l s h') hbin K0 Ks 4
  | ishl => exact rel_bin (h := []) (kn := fun l s _ => kn l s h) (kn' := fun l s _ => kn' l s h') hbin K0 Ks 5
  | ishr => exact rel_bin (h := []) (kn := fun l s _ => kn l s h) (kn' := fun l s _ => kn' l s h') hbin K0 Ks 6
  | iand => exact rel_bin (h := []) (kn := fun l s _ => kn l s h) (kn' := fun l s _ => kn' l s h') hbin K0 Ks 7
  | ior => exact rel_bin (h := []) (kn := fun l s _ => kn l s h) (kn' := fun l s _ => kn' l s h') hbin K0 Ks 8
  | ineg => exact rel_neg (h := []) (kn := fun l s _ => kn l s h) (kn' := fun l s _ => kn' l s h') hbin K0 Ks
  | iinc i n => exact rel_iinc (h := []) (kn := fun l s _ => kn l s h) (kn' := fun l s _ => kn' l s h') hbin hinj K0 Ks i n
  | if_icmp c o => exact rel_icmp (h := []) (kn := fun l s _ => kn l s h) (kn' := fun l s _ => kn' l s h') hcmp K0 Kj Ks c
  | ifCond c o => exact rel_ifc (h := []) (kn := fun l s _ => kn l s h) (kn' := fun l s _ => kn' l s h') hcmp hinj K0 Kj Ks c
  | goto o => exact Kj _ _
  | tableswitch d lo hi o => exact rel_tab hval Kj Ks lo hi
  | dup => exact rel_dup (h := []) (kn := fun l s _ => kn l s h) (kn' := fun l s _ => kn' l s h') K0 Ks
  | dup2 => exact rel_dup2 (h := []) (kn := fun l s _ => kn l s h) (kn' := fun l s _ => kn' l s h') K0 Ks
  | pop => exact rel_pop (h := []) (kn := fun l s _ => kn l s h) (kn' := fun l s _ => kn' l s h') K0 Ks
  | iaload => exact hr_ald hh hval Kn Ks 0
  | baload => exact hr_ald hh hval Kn Ks 1
  | iastore => exact hr_ast hh hval Kn Ks
  | bastore => exact hr_bst hh hval Kn Ks
  | aaload => exact hr_aald hh hval Kn Ks
  | aastore => exact hr_aast hh hval Kn Ks
  | arraylength => exact hr_alen hh hinj Kn Ks
  | getfield i => exact hr_getf hh Kn Ks
  | putfield i => exact hr_putf hh hval Kn Ks
  | getstatic i => exact Kn _ _ _ _ hh
  | new i => exact hr_new hh hinj Kn Ks
  | anewarray i => exact hr_anew hh hval Kn Ks
  | invokevirtual i => exact hr_call hh Kc Ks
  | ireturn => exact rel_iret hval Kr Ks
  | areturn => exact rel_aret Kr Ks
  | return_ => exact rel_vret Kr Ks
  | newarray t => cases t <;> first | exact hr_newa hh hinj hval Kn Ks 0 | exact hr_newa hh hinj hval Kn Ks 1 | exact Ks _
  | invokespecial i =>
    show Rel (mj_spec x xs loc st h kn kc sp) (mj_spec x xs (mg_l g loc) (mg_s g st) h' kn' kc' sp')
    unfold mj_spec
    cases Nat.beq x 100000 with
    | false => exact hr_call hh Kc Ks
    | true =>
      rcases st with _ | ⟨i | (_ | a), rest⟩
      · exact Ks _
      · exact Ks _
      · exact Ks _
      · simp only [mg_sc, mg_vr]
        rw [show mj_len (mg_s g rest) = mj_len rest from mg_len _ _]
        cases Nat.ble (mj_len rest) 8 with
        | false => exact Ks _
        | true => exact Kn _ _ _ _ hh
  | invokestatic i =>
    show Rel (mj_stat O x xs loc st h kn kc sp) (mj_stat O' x xs (mg_l g loc) (mg_s g st) h' kn' kc' sp')
    unfold mj_stat
    cases Nat.beq x 100001 with
    | false => exact hr_call hh Kc Ks
    | true => exact hr_acopy hh hval Kn Ks
  | _ => exact Ks _
end
theorem sr_sound2 {β : Type} {env : Nat → Int32} {C0 : mj_c Int32} (hM : sy_M env []) : ∀ (n d : Nat) (cd suf : List mj_r) (loc : mj_l Nat) (st : mj_s Nat) (h : mj_h Nat) (h' : mj_h Int32) (k : Option (mj_v Nat) → mj_h Nat → Option β) (R : β), HR (sy_g env) C0 h h' → sr_run n d cd suf loc st h k = some R →
    ∃ v h1 h1', k v h1 = some R ∧ HR (sy_g env) C0 h1 h1' ∧ mj_Rn d cd suf (mg_l (sy_g env) loc) (mg_s (sy_g env) st) h' (mg_o (sy_g env) v, h1') := by
  intro n
  induction n with
  | zero =>
    intro d cd suf loc st h h' k R hh hr
    have hr : (none : Option β) = some R := hr
    cases hr
  | succ n ih =>
    intro d cd suf loc st h h' k R hh hr
    cases suf with
    | nil =>
      have hr : (none : Option β) = some R := hr
      cases hr
    | cons r tl =>
      rw [sr_run_succ] at hr
      have key := hr_step (g := sy_g env) (C0 := C0) (O := sy_O []) (O' := mj_I) (Rel := fun (o : Option β) (P : (Option (mj_v Int32) × mj_h Int32) → Prop) => o = some R → ∃ v h1 h1', k v h1 = some R ∧ HR (sy_g env) C0 h1 h1' ∧ P (mg_o (sy_g env) v, h1')) (x := r.2.2.1) (xs := r.2.2.2) (loc := loc) (st := st) (h := h) (h' := h')
        (kn := fun loc st h => sr_run n d cd tl loc st h k) (kj := fun j st => sr_run n d cd (mj_drop j cd) loc st h k) (kc := sr_kc (sr_run n) d cd tl loc k h) (kr := fun v => k v h) (sp := none)
        (kn' := fun loc st h R0 => mj_Rn d cd tl loc st h R0) (kj' := fun j st R0 => mj_Rn d cd (mj_drop j cd) (mg_l (sy_g env) loc) st h' R0) (kc' := fun k ml as rest R0 => mj_Kc d cd tl (mg_l (sy_g env) loc) h' R0 k ml as rest) (kr' := fun v R0 => (v, h') = R0) (sp' := fun _ => False)
        hh (sy_inj_spec env) (fun op a b z e => sy_bin_spec hM e) (fun c a b q e => congrArg some (sy_cmp_spec hM e)) (fun a z e => congrArg some (sy_val_spec hM e))
        (fun l s h2 h2' hh2 e => ih _ _ _ _ _ _ _ _ _ hh2 e)
        (fun j s e => ih _ _ _ _ _ _ _ _ _ hh e)
        (fun m ml as rest e => by
          unfold sr_kc at e
          split at e
          · rename_i d'
            split at e
            · rename_i cd' hcd
              obtain ⟨v', h1, h1', a2, ah, a3⟩ := ih _ _ _ _ _ _ _ _ _ hh e
              obtain ⟨v2, h2, h2', b2, bh, b3⟩ := ih _ _ _ _ _ _ _ _ _ ah a2
              rw [mg_ent] at a3
              refine ⟨v2, h2, h2', b2, bh, d', cd', mg_o (sy_g env) v', h1', rfl, by rw [← mj_nth_eq]; exact hcd, a3, ?_⟩
              cases v' <;> exact b3
            · cases e
          · cases e)
        (fun v e => ⟨v, h, h', e, hh, rfl⟩) (fun a' e => by cases e) r.2.1
      obtain ⟨v, h1, h1', a1, a2, a3⟩ := key hr
      exact ⟨v, h1, h1', a1, a2, mj_Rn.step' a3⟩
end
section
/-! ===== shapes of cells ===== -/
def sr_f {V : Type} (v : mj_v V) : Option (Option Nat) := match v with
  | .inl _ => none
  | .inr r => some r
def sr_e1 (v : Option Nat) : Nat := match v with
  | none => 0
  | some r => r + 1
def sr_e2 (v : Option (Option Nat)) : Nat := match v with
  | none => 0
  | some r => sr_e1 r + 1
theorem sr_e1i {v w : Option Nat} (h : sr_e1 v = sr_e1 w) : v = w := by
  cases v <;> cases w <;> simp [sr_e1] at h <;> simp [h]
theorem sr_e2i {v w : Option (Option Nat)} (h : sr_e2 v = sr_e2 w) : v = w := by
  cases v with
  | none =>
    cases w with
    | none => rfl
    | some w => simp [sr_e2] at h
  | some v =>
    cases w with
    | none => simp [sr_e2] at h
    | some w => rw [sr_e1i (show sr_e1 v = sr_e1 w by simpa [sr_e2] using h)]
theorem sr_e2l : ∀ {l m : List (Option (Option Nat))}, l.map sr_e2 = m.map sr_e2 → l = m := by
  intro l
  induction l with
  | nil =>
    intro m h
    cases m with
    | nil => rfl
    | cons a m => simp at h
  | cons a l ih =>
    intro m h
    cases m with
    | nil => simp at h
    | cons b m =>
      rw [List.map_cons, List.map_cons] at h
      obtain ⟨h1, h2⟩ := List.cons.inj h
      rw [sr_e2i h1, ih h2]
abbrev sr_T : Type := List Nat
def sr_cell {V : Type} (c : mj_c V) : sr_T := match c with
  | .inl (t, n, _) => [0, t, n]
  | .inr (.inl (n, f)) => [1, n, sr_e1 (f 0), sr_e1 (f 1), sr_e1 (f 2), sr_e1 (f 3), sr_e1 (f 4), sr_e1 (f 5)]
  | .inr (.inr (c, fs)) => 2 :: c :: (fs.map sr_f).map sr_e2
def sr_pc (p : wt_p) : sr_T := match p with
  | .inl (t, n) => [0, t, n]
  | .inr (.inl (n, f)) => [1, n, sr_e1 (f 0), sr_e1 (f 1), sr_e1 (f 2), sr_e1 (f 3), sr_e1 (f 4), sr_e1 (f 5)]
  | .inr (.inr (c, fs)) => 2 :: c :: fs.map sr_e2
def sr_good (p : wt_p) : Prop := match p with
  | .inl _ => True
  | .inr (.inl (n, f)) => n = 6 ∧ ∀ k, 6 ≤ k → f k = none
  | .inr (.inr _) => True
noncomputable def cvv (c : mj_c Int32) (k : Nat) : Int32 := match c with
  | .inl (_, _, f) => f k
  | .inr (.inl _) => 0
  | .inr (.inr (_, fs)) => match mj_nth fs k with
    | some (.inl v) => v
    | _ => 0
noncomputable def wx (H : mj_h Int32) : wt_S := fun a k => match mj_nth H a with
  | some c => cvv c k
  | none => 0
theorem sr_fs {f : Nat → Int32} : ∀ (fs : List (mj_v Int32)) (i : Nat), (∀ j v, mj_nth fs j = some (.inl v) → f (i + j) = v) → wt_fs f (fs.map sr_f) i = fs := by
  intro fs
  induction fs with
  | nil => intro i h; rfl
  | cons v fs ih =>
    intro i h
    have ht := ih (i + 1) (fun j w e => by
      have := h (j + 1) w e
      rw [show i + 1 + j = i + (j + 1) by omega]
      exact this)
    rcases v with v | r
    · show Sum.inl (f i) :: wt_fs f (fs.map sr_f) (i + 1) = _
      rw [ht, show f i = v from h 0 v rfl]
    · show Sum.inr r :: wt_fs f (fs.map sr_f) (i + 1) = _
      rw [ht]
theorem sr_map {g : Nat → Int32} (fs : List (mj_v Nat)) : (mg_s g fs).map sr_f = fs.map sr_f := by
  unfold mg_s
  rw [List.map_map]
  apply List.map_congr_left
  intro v _
  rcases v with v | r <;> rfl
theorem sr_c2 {g : Nat → Int32} {c : mj_c Nat} {c' : mj_c Int32} {p : wt_p} (hc : hcl g c c') (hs : sr_cell c = sr_pc p) (hp : sr_good p) : wt_c p (cvv c') = c' := by
  rcases c with ⟨t, n, f⟩ | (⟨n, f⟩ | ⟨ci, fs⟩) <;> rcases p with ⟨t', n'⟩ | (⟨n', f'⟩ | ⟨ci', fs'⟩)
  · have e : t = t' ∧ n = n' := by simpa [sr_cell, sr_pc] using hs
    have hc : c' = .inl (t, n, fun j => g (f j)) := hc
    obtain ⟨rfl, rfl⟩ := e
    subst hc
    rfl
  · exact absurd hs (by simp [sr_cell, sr_pc])
  · exact absurd hs (by simp [sr_cell, sr_pc])
  · exact absurd hs (by simp [sr_cell, sr_pc])
  · have e : n = n' ∧ sr_e1 (f 0) = sr_e1 (f' 0) ∧ sr_e1 (f 1) = sr_e1 (f' 1) ∧ sr_e1 (f 2) = sr_e1 (f' 2) ∧ sr_e1 (f 3) = sr_e1 (f' 3) ∧ sr_e1 (f 4) = sr_e1 (f' 4) ∧ sr_e1 (f 5) = sr_e1 (f' 5) := by simpa [sr_cell, sr_pc] using hs
    obtain ⟨fx, hx, h1, h2⟩ := hc
    obtain ⟨hp1, hp2⟩ := hp
    obtain ⟨en, e0, e1, e2, e3, e4, e5⟩ := e
    have ef : fx = f' := by
      funext k
      match k with
      | 0 => rw [h1 0 (by omega)]; exact sr_e1i e0
      | 1 => rw [h1 1 (by omega)]; exact sr_e1i e1
      | 2 => rw [h1 2 (by omega)]; exact sr_e1i e2
      | 3 => rw [h1 3 (by omega)]; exact sr_e1i e3
      | 4 => rw [h1 4 (by omega)]; exact sr_e1i e4
      | 5 => rw [h1 5 (by omega)]; exact sr_e1i e5
      | k + 6 => rw [h2 (k + 6) (by omega), hp2 (k + 6) (by omega)]
    subst hx
    subst ef
    subst en
    rfl
  · exact absurd hs (by simp [sr_cell, sr_pc])
  · exact absurd hs (by simp [sr_cell, sr_pc])
  · exact absurd hs (by simp [sr_cell, sr_pc])
  · have e : ci = ci' ∧ fs.map sr_f = fs' := by
      have hs : 2 :: ci :: (fs.map sr_f).map sr_e2 = 2 :: ci' :: fs'.map sr_e2 := hs
      have h1 := (List.cons.inj hs).2
      exact ⟨(List.cons.inj h1).1, sr_e2l (List.cons.inj h1).2⟩
    have hc : c' = .inr (.inr (ci, mg_s g fs)) := hc
    obtain ⟨rfl, rfl⟩ := e
    subst hc
    show (Sum.inr (Sum.inr (ci, wt_fs (cvv (Sum.inr (Sum.inr (ci, mg_s g fs)))) (fs.map sr_f) 0)) : mj_c Int32) = _
    rw [← sr_map (g := g), sr_fs (mg_s g fs) 0 (fun j v e => by
      rw [Nat.zero_add]
      show (match mj_nth (mg_s g fs) j with
        | some (.inl v) => v
        | _ => 0) = v
      rw [e])]
theorem sr_es2 {g : Nat → Int32} {s : wt_S} : ∀ (h : mj_h Nat) (h' : mj_h Int32) (P : List wt_p) (i : Nat), h'.length = h.length → (∀ a c, mj_nth h a = some c → ∃ c', mj_nth h' a = some c' ∧ hcl g c c') → h.map sr_cell = P.map sr_pc → (∀ p ∈ P, sr_good p) → (∀ a c', mj_nth h' a = some c' → s (i + a) = cvv c') → wt_es s P i = h' := by
  intro h
  induction h with
  | nil =>
    intro h' P i hl _ hx _ _
    cases P with
    | nil =>
      cases h' with
      | nil => rfl
      | cons c h' => exact absurd hl (by simp)
    | cons p P => exact absurd hx (by simp)
  | cons c h ih =>
    intro h' P i hl hc hx hp hs
    cases P with
    | nil => exact absurd hx (by simp)
    | cons p P =>
      cases h' with
      | nil => exact absurd hl (by simp)
      | cons c' h' =>
        rw [List.map_cons, List.map_cons] at hx
        obtain ⟨x1, x2⟩ := List.cons.inj hx
        obtain ⟨c2, e1, e2⟩ := hc 0 c rfl
        have e1 : some c' = some c2 := e1
        cases e1
        show wt_c p (s i) :: wt_es s P (i + 1) = c' :: h'
        rw [show s i = cvv c' from hs 0 c' rfl, sr_c2 e2 x1 (hp p List.mem_cons_self), ih h' P (i + 1) (by simpa using hl) (fun a c e => hc (a + 1) c e) x2 (fun p hq => hp p (List.mem_cons_of_mem _ hq)) (fun a c' e => by
          have := hs (a + 1) c' e
          rw [show i + 1 + a = i + (a + 1) by omega]
          exact this)]
/-! ### values -/
noncomputable def sr_val (h : mj_h Nat) (a k : Nat) : Nat := match mj_nth h a with
  | some (.inl (_, _, f)) => f k
  | some (.inr (.inr (_, fs))) => match mj_nth fs k with
    | some (.inl v) => v
    | _ => 2147483648
  | _ => 2147483648
theorem sr_g0 (env : Nat → Int32) : sy_g env 2147483648 = 0 := by
  unfold sy_g
  rw [if_pos (by decide)]
  rfl
theorem sr_val_x {env : Nat → Int32} {C0 : mj_c Int32} {h : mj_h Nat} {h' : mj_h Int32} (hh : HR (sy_g env) C0 h h') {a k : Nat} (ha : a ≠ 0) : wx h' a k = sy_g env (sr_val h a k) := by
  unfold wx sr_val
  cases e : mj_nth h a with
  | none =>
    have : mj_nth h' a = none := by
      rw [mj_nth_eq] at e ⊢
      rw [List.getElem?_eq_none_iff] at e ⊢
      rw [hh.1]; exact e
    rw [this]
    exact (sr_g0 env).symm
  | some c =>
    obtain ⟨c', e1, e2⟩ := hh.2.2 a c ha e
    rw [e1]
    rcases c with ⟨t, n, f⟩ | (⟨n, f⟩ | ⟨ci, fs⟩)
    · have e2 : c' = .inl (t, n, fun j => sy_g env (f j)) := e2
      subst e2
      rfl
    · obtain ⟨f', e2, -, -⟩ := e2
      subst e2
      exact (sr_g0 env).symm
    · have e2 : c' = .inr (.inr (ci, mg_s (sy_g env) fs)) := e2
      subst e2
      show (match mj_nth (fs.map (mg_v (sy_g env))) k with
        | some (.inl v) => v
        | _ => 0) = sy_g env (match mj_nth fs k with
        | some (.inl v) => v
        | _ => 2147483648)
      rw [mg_nth]
      cases e2 : mj_nth fs k with
      | none => exact (sr_g0 env).symm
      | some v =>
        rcases v with v | r
        · rfl
        · exact (sr_g0 env).symm
end
