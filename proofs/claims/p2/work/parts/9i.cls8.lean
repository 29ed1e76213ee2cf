/-! ===== the class, method by method, 8: copies, thoughts, the log, the image ===== -/
theorem cpy10 {f g : Nat → Int32} {k : Nat} (hk : k < 10) : mj_cpy f g (0 : Int32).toInt.toNat (0 : Int32).toInt.toNat (10 : Int32).toInt.toNat k = f k := by
  have : k = 0 ∨ k = 1 ∨ k = 2 ∨ k = 3 ∨ k = 4 ∨ k = 5 ∨ k = 6 ∨ k = 7 ∨ k = 8 ∨ k = 9 := by omega
  rcases this with h | h | h | h | h | h | h | h | h | h <;> subst h <;> rfl
theorem CI.cq {F q c a : Nat} {z s : wt_S} (h : CI F z s) (hq : wt_Q q) (hc : c = 1 ∨ c = 3) (ha : ∀ f, f < 10 → (c = 1 → (s a f).toInt ≤ 8) ∧ (c = 3 → 0 ≤ (s a f).toInt ∧ (s a f).toInt ≤ 16)) : CI F z (wt_uf s (q + c) (mj_cpy (s a) (s (q + c)) (0 : Int32).toInt.toNat (0 : Int32).toInt.toNat (10 : Int32).toInt.toNat)) := by
  obtain ⟨h1, h2, h3, h4, h5, h6, h7⟩ := h
  have hq0 : q = 5 ∨ q = 76 := hq
  refine ⟨fun c hc => ?_, fun q' hq' f hf => ?_, ?_, ?_, ?_, ?_, fun c hc => ?_⟩
  · obtain ⟨a1, a2, a3⟩ := h1 c hc
    have hc' : c = 11 ∨ c = 40 ∨ c = 81 := hc
    exact ⟨by rw [wt_uf_ne (by omega)]; exact a1, by rw [wt_uf_ne (by omega)]; exact a2, fun k hk => by rw [wt_uf_ne (by omega)]; exact a3 k hk⟩
  · have hq1 : q' = 5 ∨ q' = 76 := hq'
    obtain ⟨b1, b2⟩ := h2 q' hq' f hf
    have g := ha f hf
    rcases hc with hc | hc
    · subst hc
      refine ⟨by rw [wt_uf_ne (by omega)]; exact b1, ?_⟩
      by_cases e : q' = q
      · subst e
        rw [wt_uf_at, cpy10 hf]; exact g.1 rfl
      · rw [wt_uf_ne (by omega)]; exact b2
    · subst hc
      refine ⟨?_, by rw [wt_uf_ne (by omega)]; exact b2⟩
      by_cases e : q' = q
      · subst e
        rw [wt_uf_at, cpy10 hf]; exact g.2 rfl
      · rw [wt_uf_ne (by omega)]; exact b1
  · rw [wt_uf_ne (by omega)]; exact h3
  · rw [wt_uf_ne (by omega)]; exact h4
  · rw [wt_uf_ne (by omega)]; exact h5
  · rw [wt_uf_ne (by omega)]; exact h6
  · rw [wt_uf_ne (by omega)]; exact h7 c hc
theorem ok_as {α : Type} {P : α → wt_S → Prop} {F : Nat} {z s : wt_S} {a b : Nat} {p q n : Int32} {n0 n1 : Nat} {G : wt_S → Option (α × wt_S)} (hb : 0 ≤ n.toInt ∧ 0 ≤ q.toInt ∧ 0 ≤ p.toInt ∧ p.toInt + n.toInt ≤ n0 ∧ q.toInt + n.toInt ≤ n1) (h : CI F z (wt_uf s b (mj_cpy (s a) (s b) p.toInt.toNat q.toInt.toNat n.toInt.toNat))) (hG : ∀ s', CI F z s' → Ok P (G s')) : Ok P (wt_ac s a p b q n n0 n1 G) := by
  unfold wt_ac
  rw [if_pos hb]
  exact hG _ h
theorem oX3_takeOver {F : Nat} {z : wt_S} {b b2 : Nat} (hb : wt_C b) {s : wt_S} (h : CI F z s) : Ok (fun _ s' => CI F z s') (gX3_takeOver b b2 s) := by
  have l0 : (0 : Int32).toInt = 0 := rfl
  have m1 := wt_mzi (b := b)
  have m2 := wt_mzi (b := b2)
  unfold gX3_takeOver
  have hm : Ok (fun (r : Int32) s' => s' = s ∧ (0 ≤ r.toInt ∧ r.toInt ≤ wt_mz b ∧ r.toInt ≤ wt_mz b2)) (gJ9_min_7cf53 s (Int32.ofInt (Int.ofNat (wt_mz b))) (Int32.ofInt (Int.ofNat (wt_mz b2)))) := by
    unfold gJ9_min_7cf53
    exact ok_if (fun _ => ok_some ⟨rfl, by omega⟩) (fun _ => ok_some ⟨rfl, by omega⟩)
  refine ok_cp hm (fun v q => ?_)
  exact ok_ac h (by omega) (fun k => hs_b hb (by decide)) (fun s3 h3 => ok_some h3)
theorem oX5_takeOver {F : Nat} {z : wt_S} {b b2 : Nat} (hb : wt_C b) (hb2 : wt_C b2) {s : wt_S} (h : CI F z s) : Ok (fun _ s' => CI F z s') (gX5_takeOver b b2 s) := by
  unfold gX5_takeOver
  refine ok_ac h (by decide) (fun k => hs_b hb (by decide)) (fun s1 h1 => ?_)
  refine ok_ac h1 (by decide) (fun k => hs_b hb (by decide)) (fun s2 h2 => ?_)
  refine ok_ac h2 (by decide) (fun k => hs_b hb (by decide)) (fun s3 h3 => ?_)
  refine ok_ac h3 (by decide) (fun k => hs_b hb (by decide)) (fun s4 h4 => ?_)
  refine ok_ac h4 (by decide) (fun k => hs_b hb (by decide)) (fun s5 h5 => ?_)
  refine ok_ac h5 (by decide) (fun k => hs_b hb (by decide)) (fun s6 h6 => ?_)
  refine ok_ws (h6.un hb (h6.nm hb2)) (fun s7 h7 => ?_)
  refine ok_wc h7 (hs_b2 hb (by decide)) (fun s8 h8 => ?_)
  exact ok_wc h8 (hs_b2 hb (by decide)) (fun s9 h9 => ok_some h9)
theorem oX7_takeOver {F : Nat} {z : wt_S} {t t2 : Nat} (ht : wt_T t) (ht2 : wt_T t2) {s : wt_S} (h : CI F z s) : Ok (fun _ s' => CI F z s') (gX7_takeOver t t2 s) := by
  unfold gX7_takeOver
  refine ok_wc h (hs_t ht (by decide)) (fun s1 h1 => ?_)
  refine ok_wc h1 (hs_t ht (by decide)) (fun s2 h2 => ?_)
  refine ok_wc h2 (hs_t ht (by decide)) (fun s3 h3 => ?_)
  refine ok_ws (h3.ut (Nat.le_refl _) ht (h3.fr ht2)) (fun s4 h4 => ?_)
  refine ok_wc h4 (hs_t ht (by decide)) (fun s5 h5 => ?_)
  refine ok_wc h5 (hs_t ht (by decide)) (fun s6 h6 => ?_)
  refine ok_wc h6 (hs_t ht (by decide)) (fun s7 h7 => ?_)
  refine ok_wc h7 (hs_t ht (by decide)) (fun s8 h8 => ?_)
  refine ok_wc h8 (hs_t ht (by decide)) (fun s9 h9 => ?_)
  refine ok_wc h9 (hs_t ht (by decide)) (fun s10 h10 => ?_)
  refine ok_wc h10 (hs_t ht (by decide)) (fun s11 h11 => ?_)
  refine ok_wc h11 (hs_t ht (by decide)) (fun s12 h12 => ?_)
  refine ok_wc h12 (hs_t ht (by decide)) (fun s13 h13 => ?_)
  refine ok_wc h13 (hs_t ht (by decide)) (fun s14 h14 => ?_)
  refine ok_wc h14 (hs_t ht (by decide)) (fun s15 h15 => ?_)
  refine ok_wc h15 (hs_t ht (by decide)) (fun s16 h16 => ?_)
  exact ok_ac h16 (by decide) (fun k => hs_t1 ht) (fun s17 h17 => ok_some h17)
theorem oX1_takeOver {F : Nat} {z : wt_S} {b b2 : Nat} (hb : wt_C b) {s : wt_S} (h : CI F z s) : Ok (fun _ s' => CI F z s') (gX1_takeOver b b2 s) := by
  unfold gX1_takeOver
  refine ok_ac h (by decide) (fun k => hs_b hb (by decide)) (fun s1 h1 => ?_)
  exact ok_wc h1 (hs_b hb (by decide)) (fun s2 h2 => ok_some h2)
theorem oX9_takeOver_39 {F : Nat} {z : wt_S} {b b2 : Nat} (hb : wt_C b) (hb2 : wt_C b2) : ∀ (m fu : Nat) (s : wt_S) (l2 : Int32), m < fu → l2.toInt + m = 6 → 0 ≤ l2.toInt → CI F z s → Ok (fun _ s' => CI F z s') (gX9_takeOver_39 b b2 fu s l2) := by
  have l6 : (6 : Int32).toInt = 6 := rfl
  intro m
  induction m with
  | zero =>
    intro fu s l2 hf hl hl0 h
    cases fu with
    | zero => omega
    | succ n =>
      rw [gX9_takeOver_39]
      refine ok_if (fun _ => ?_) (fun c => by exfalso; omega)
      refine ok_cl (oX1_takeOver hb h) (fun _ s1 h1 => ?_)
      refine ok_ac h1 (by decide) (fun k => hs_b hb (by decide)) (fun s2 h2 => ?_)
      exact ok_wc h2 (hs_w hb) (fun s3 h3 => ok_some h3)
  | succ m ih =>
    intro fu s l2 hf hl hl0 h
    cases fu with
    | zero => omega
    | succ n =>
      rw [gX9_takeOver_39]
      refine ok_if (fun c => by exfalso; omega) (fun c => ?_)
      refine ok_ix (by omega) (by omega) (fun k4 k4l k4e => ?_)
      refine ok_ix (by omega) (by omega) (fun k5 k5l k5e => ?_)
      refine ok_cl (oX7_takeOver ⟨b, k4, hb, k4l, rfl⟩ ⟨b2, k5, hb2, k5l, rfl⟩ h) (fun _ s6 h6 => ?_)
      have e := i_inc (x := l2) (by omega)
      exact ih n s6 _ (by omega) (by omega) (by omega) h6
theorem oX9_takeOver {F : Nat} {z : wt_S} {b b2 : Nat} (hb : wt_C b) (hb2 : wt_C b2) {s : wt_S} (h : CI F z s) : Ok (fun _ s' => CI F z s') (gX9_takeOver b b2 s) := by
  have l0 : (0 : Int32).toInt = 0 := rfl
  unfold gX9_takeOver
  refine ok_as (by decide) (h.cs hb (h.sd hb2)) (fun s1 h1 => ?_)
  refine ok_cl (oX3_takeOver hb h1) (fun _ s2 h2 => ?_)
  refine ok_cl (oX5_takeOver hb hb2 h2) (fun _ s3 h3 => ?_)
  exact oX9_takeOver_39 hb hb2 6 wt_N s3 0 (by unfold wt_N; omega) (by omega) (by omega) h3
theorem oX6_takeOver {F : Nat} {z : wt_S} {q q2 : Nat} (hq : wt_Q q) (hq2 : wt_Q q2) {s : wt_S} (h : CI F z s) : Ok (fun _ s' => CI F z s') (gX6_takeOver q q2 s) := by
  unfold gX6_takeOver
  refine ok_as (by decide) (h.cq hq (Or.inl rfl) (fun f hf => ⟨fun _ => (h.ln hq2 hf).2, fun e => absurd e (by decide)⟩)) (fun s1 h1 => ?_)
  refine ok_ac h1 (by decide) (fun k => hs_q hq (by decide)) (fun s2 h2 => ?_)
  refine ok_as (by decide) (h2.cq hq (Or.inr rfl) (fun f hf => ⟨fun e => absurd e (by decide), fun _ => (h2.ln hq2 hf).1⟩)) (fun s3 h3 => ?_)
  refine ok_ac h3 (by decide) (fun k => hs_q hq (by decide)) (fun s4 h4 => ?_)
  exact ok_ac h4 (by decide) (fun k => hs_q hq (by decide)) (fun s5 h5 => ok_some h5)
theorem oX10_endless {F : Nat} {z : wt_S} (hF : F + 4001 ≤ 1999990000) {s : wt_S} (h : CI F z s) {i1 i2 i3 : Int32} : Ok (fun _ s' => CI (F + 4001) z s') (gX10_endless s i1 i2 i3) := by
  unfold gX10_endless gX10_endless_23
  refine ok_cp (oX6_told (by omega) (Or.inl rfl) h) (fun v q => ?_)
  have n : CI (F + 4001) z s := h.mono (by omega)
  refine ok_if (fun _ => ok_some n) (fun _ => ok_if (fun _ => ok_some n) (fun _ => ok_if (fun _ => ?_) (fun _ => ok_some n)))
  refine ok_cl (oX10_thinkEndless hF h) (fun a s3 h3 => ?_)
  refine ok_if (fun _ => ?_) (fun c => absurd h3.2 c)
  exact ok_if (fun _ => ok_if (fun _ => ok_if (fun _ => ok_some h3.1) (fun _ => ok_some h3.1)) (fun _ => ok_some h3.1)) (fun _ => ok_some h3.1)
theorem oX10_land_84 {F : Nat} {z : wt_S} (hF : F ≤ 2000000000) {t : Nat} (ht : wt_T t) {s : wt_S} (h : CI F z s) {l3 : Int32} : Ok (fun _ s' => CI F z s') (gX10_land_84 s l3 t) := by
  unfold gX10_land_84
  refine ok_if (fun _ => ok_some h) (fun _ => ok_if (fun _ => ok_some h) (fun _ => ok_if (fun _ => ok_some h) (fun _ => ok_if (fun _ => ok_some h) (fun _ => ok_if (fun _ => ?_) (fun _ => by exfalso; omega)))))
  exact ok_cp (oX9_wordsOf hF (Or.inr rfl) ht h) (fun v q => ok_some h)
theorem oX10_land_55 {t : Nat} {z : wt_S} {l2 l3 : Int32} (ht : wt_T t) : ∀ (m fu F : Nat) (s : wt_S) (l5 : Int32), m < fu → l5.toInt + m = l2.toInt → CI F z s → F + 2 * m ≤ 1999990000 → Ok (fun _ s' => CI (F + 2 * m) z s') (gX10_land_55 fu s l2 l3 t l5) := by
  intro m
  induction m with
  | zero =>
    intro fu F s l5 hf hl h hF
    cases fu with
    | zero => omega
    | succ n =>
      rw [gX10_land_55]
      exact ok_if (fun _ => oX10_land_84 (by omega) ht h) (fun c => by exfalso; omega)
  | succ m ih =>
    intro fu F s l5 hf hl h hF
    cases fu with
    | zero => omega
    | succ n =>
      rw [gX10_land_55]
      refine ok_if (fun _ => ok_im (oX10_land_84 (by omega) ht h) (fun _ _ e => e.mono (by omega))) (fun c => ?_)
      refine ok_cp (oX7_on (by omega) ht h) (fun v q => ?_)
      refine ok_if (fun _ => ok_im (oX10_land_84 (by omega) ht h) (fun _ _ e => e.mono (by omega))) (fun _ => ?_)
      refine ok_cl (oX2_makeStep (by omega) (Or.inr rfl) ht h) (fun _ s3 h3 => ?_)
      have b2 := l2.toInt_lt
      have e := i_inc (x := l5) (by simp at b2; omega)
      exact ok_im (ih n (F + 2) s3 _ (by omega) (by omega) h3 (by omega)) (fun _ _ e => e.mono (by omega))
theorem oX10_land {F : Nat} {z : wt_S} (hF : F + 400 ≤ 1999990000) {s : wt_S} (h : CI F z s) {i1 i2 i3 : Int32} : Ok (fun _ s' => CI (F + 400) z s') (gX10_land s i1 i2 i3) := by
  have l0 : (0 : Int32).toInt = 0 := rfl
  have l1 : (1 : Int32).toInt = 1 := rfl
  have l2 : (200 : Int32).toInt = 200 := rfl
  have n : CI (F + 400) z s := h.mono (by omega)
  unfold gX10_land
  refine ok_cp (oX10_isTask (by omega) h) (fun v ⟨_, g⟩ => ?_)
  refine ok_if (fun _ => ok_some n) (fun c => ?_)
  have g := g.resolve_left c
  refine ok_if (fun _ => ok_some n) (fun _ => ok_if (fun _ => ok_some n) (fun _ => ok_if (fun _ => ok_some n) (fun _ => ok_if (fun _ => ?_) (fun _ => ok_some n))))
  refine ok_cl (oX9_takeOver (Or.inr (Or.inl rfl)) (Or.inl rfl) h) (fun _ s3 h3 => ?_)
  refine ok_ix (by omega) (by omega) (fun k kl ke => ?_)
  exact ok_im (oX10_land_55 ⟨40, k, Or.inr (Or.inl rfl), kl, rfl⟩ i2.toInt.toNat wt_N F s3 0 (by unfold wt_N; omega) (by omega) h3 (by omega)) (fun _ _ e => e.mono (by omega))
theorem oX10_thinkAlone_81 {z : wt_S} : ∀ (m fu F : Nat) (s : wt_S) (l6 l7 : Int32), m < fu → l7.toInt + m = 2000 → CI F z s → F + 2 * m ≤ 1999990000 → Ok (fun _ s' => CI (F + 2 * m) z s') (gX10_thinkAlone_81 fu s 57 l6 l7) := by
  have l2 : (2000 : Int32).toInt = 2000 := rfl
  intro m
  induction m with
  | zero =>
    intro fu F s l6 l7 hf hl h hF
    cases fu with
    | zero => omega
    | succ n =>
      rw [gX10_thinkAlone_81]
      exact ok_if (fun _ => ok_some (h.mono (by omega))) (fun c => by exfalso; omega)
  | succ m ih =>
    intro fu F s l6 l7 hf hl h hF
    cases fu with
    | zero => omega
    | succ n =>
      rw [gX10_thinkAlone_81]
      refine ok_if (fun _ => ok_some (h.mono (by omega))) (fun c => ?_)
      refine ok_cp (oX7_on (by omega) wt_T57 h) (fun v q => ?_)
      refine ok_if (fun _ => ok_some (h.mono (by omega))) (fun _ => ?_)
      refine ok_cl (oX2_makeStep (by omega) (Or.inr rfl) wt_T57 h) (fun _ s3 h3 => ?_)
      refine ok_cp (oJ9_max_7cf53 (by omega) h3) (fun v5 _ => ?_)
      have e := i_inc (x := l7) (by omega)
      exact ok_im (ih n (F + 2) s3 _ _ (by omega) (by omega) h3 (by omega)) (fun _ _ e => e.mono (by omega))
theorem oX10_thinkAlone {F : Nat} {z : wt_S} (hF : F + 4001 ≤ 1999990000) {s : wt_S} (h : CI F z s) {i1 i2 i3 i4 : Int32} : Ok (fun _ s' => CI (F + 4001) z s') (gX10_thinkAlone s i1 i2 i3 i4) := by
  have l0 : (0 : Int32).toInt = 0 := rfl
  unfold gX10_thinkAlone
  refine ok_cl (oX9_clear (by omega) (Or.inr rfl) h) (fun _ s1 h1 => ?_)
  refine ok_as (by decide) (h1.cs (b := 40) (a := 12) (Or.inr (Or.inl rfl)) (h1.sd (b := 11) (Or.inl rfl))) (fun s2 h2 => ?_)
  refine ok_wc h2 hn40.1 (fun s3 h3 => ?_)
  refine ok_ix (by omega) (by omega) (fun k kl ke => ?_)
  have : k = 0 := by omega
  subst this
  refine ok_cl (oX2_begin (by omega) (Or.inr rfl) wt_T57 h3) (fun _ s6 h6 => ?_)
  exact ok_im (oX10_thinkAlone_81 2000 wt_N (F + 1) s6 _ 0 (by unfold wt_N; omega) (by omega) h6.1 (by omega)) (fun _ _ e => e.mono (by omega))
theorem oX10_leastFirstFor {F : Nat} {z : wt_S} {s : wt_S} (h : CI F z s) {i1 : Int32} : Ok (fun r s' => s' = s ∧ True) (gX10_leastFirstFor s i1) := by
  have e1 := h.2.2.1
  have e2 := h.2.2.2.1
  unfold gX10_leastFirstFor
  have en : wt_N = (wt_N - 5) + 5 := (Nat.sub_add_cancel (by unfold wt_N; omega)).symm
  rw [en, e1]
  generalize wt_N - 5 = n
  rw [gX10_leastFirstFor_6]
  refine ok_if (fun _ => ok_some ⟨rfl, trivial⟩) (fun _ => ok_if (fun _ => ?_) (fun _ => ok_some ⟨rfl, trivial⟩))
  rw [gX10_leastFirstFor_6]
  refine ok_if (fun _ => ok_some ⟨rfl, trivial⟩) (fun _ => ok_if (fun _ => ?_) (fun _ => ok_some ⟨rfl, trivial⟩))
  rw [gX10_leastFirstFor_6]
  refine ok_if (fun _ => ok_some ⟨rfl, trivial⟩) (fun _ => ok_if (fun _ => ?_) (fun _ => ok_some ⟨rfl, trivial⟩))
  rw [gX10_leastFirstFor_6]
  refine ok_if (fun _ => ok_some ⟨rfl, trivial⟩) (fun _ => ok_if (fun _ => ?_) (fun _ => ok_some ⟨rfl, trivial⟩))
  rw [gX10_leastFirstFor_6]
  refine ok_if (fun _ => ok_some ⟨rfl, trivial⟩) (fun c => ?_)
  rw [e2] at c
  exact absurd (by decide) c
theorem oX10_alone {F : Nat} {z : wt_S} (hF : F + 4001 ≤ 1999990000) {s : wt_S} (h : CI F z s) {i1 i2 i3 i4 : Int32} : Ok (fun _ s' => CI (F + 4001) z s') (gX10_alone s i1 i2 i3 i4) := by
  have l0 : (0 : Int32).toInt = 0 := rfl
  have n : CI (F + 4001) z s := h.mono (by omega)
  have hA : ∀ (x : Int32), Ok (fun _ s' => CI (F + 4001) z s') (gX10_alone_65 s i4 i1 i2 i3 x) := fun x => by
    unfold gX10_alone_65
    refine ok_cl (oX10_thinkAlone hF h) (fun v s1 h1 => ?_)
    refine ok_ix (by omega) (by omega) (fun k kl ke => ?_)
    refine ok_if (fun _ => ?_) (fun _ => ok_if (fun _ => ok_some h1) (fun _ => ok_if (fun _ => ok_some h1) (fun _ => ok_if (fun _ => ok_some h1) (fun _ => ok_if (fun _ => ok_some h1) (fun _ => ok_if (fun _ => ok_some h1) (fun _ => ok_if (fun _ => ok_some h1) (fun _ => by exfalso; omega)))))))
    exact ok_cp (oX10_leastFirstFor h1) (fun _ _ => ok_some h1)
  unfold gX10_alone
  refine ok_cp (oX6_told (by omega) (Or.inl rfl) h) (fun v q => ?_)
  exact ok_if (fun _ => ok_some n) (fun _ => ok_if (fun _ => ok_some n) (fun _ => ok_if (fun _ => ok_some n) (fun _ => ok_if (fun _ => ok_some n) (fun _ => ok_if (fun _ => ok_if (fun _ => hA _) (fun _ => hA _)) (fun _ => ok_some n)))))
