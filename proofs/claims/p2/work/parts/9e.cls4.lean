/-! ===== the class, method by method, 4: steps, rounds ===== -/
theorem n_ex {F M : Nat} (h : F + (M + 4003) ≤ 1999990000) : F + 2 + 4001 ≤ 1999990000 := Nat.le_trans (Nat.add_le_add_left (Nat.le_add_left 4003 M) F) h
theorem n_ex2 {F M : Nat} (h : F + (M + 24018) ≤ 1999990000) : F + 4003 * 6 ≤ 1999990000 := Nat.le_trans (Nat.add_le_add_left (Nat.le_add_left 24018 M) F) h
theorem hn40 : ¬ hsp 41 0 ∧ ¬ hsp 41 2 ∧ ¬ hsp 41 5 := by unfold hsp; omega
theorem oX10_thinkEndless_69 {z : wt_S} : ∀ (m fu F : Nat) (s : wt_S) (l4 : Int32), m < fu → l4.toInt + m = 2000 → CI F z s → F + 2 * m ≤ 1999990000 → Ok (fun r s' => CI (F + 2 * m) z s' ∧ r = 57) (gX10_thinkEndless_69 fu s 57 l4) := by
  have l2 : (2000 : Int32).toInt = 2000 := rfl
  intro m
  induction m with
  | zero =>
    intro fu F s l4 hf hl h hF
    cases fu with
    | zero => omega
    | succ n =>
      rw [gX10_thinkEndless_69]
      unfold gX10_thinkEndless_98
      exact ok_if (fun _ => ok_some ⟨h.mono (by omega), rfl⟩) (fun c => by exfalso; omega)
  | succ m ih =>
    intro fu F s l4 hf hl h hF
    cases fu with
    | zero => omega
    | succ n =>
      rw [gX10_thinkEndless_69]
      unfold gX10_thinkEndless_98
      refine ok_if (fun _ => ok_some ⟨h.mono (by omega), rfl⟩) (fun c => ?_)
      refine ok_cp (oX7_on (by omega) wt_T57 h) (fun v q => ?_)
      refine ok_if (fun _ => ok_some ⟨h.mono (by omega), rfl⟩) (fun _ => ?_)
      refine ok_cl (oX2_makeStep (by omega) (Or.inr rfl) wt_T57 h) (fun _ s3 h3 => ?_)
      have e := i_inc (x := l4) (by omega)
      exact ok_im (ih n (F + 2) s3 _ (by omega) (by omega) h3 (by omega)) (fun _ _ e => ⟨e.1.mono (by omega), e.2⟩)
theorem oX10_thinkEndless {F : Nat} {z : wt_S} (hF : F + 4001 ≤ 1999990000) {s : wt_S} (h : CI F z s) {i1 i2 : Int32} : Ok (fun r s' => CI (F + 4001) z s' ∧ r = 57) (gX10_thinkEndless s i1 i2) := by
  have l0 : (0 : Int32).toInt = 0 := rfl
  unfold gX10_thinkEndless
  refine ok_cl (oX9_clear (by omega) (Or.inr rfl) h) (fun _ s1 h1 => ?_)
  refine ok_wc h1 hn40.1 (fun s2 h2 => ?_)
  refine ok_wc h2 hn40.2.1 (fun s3 h3 => ?_)
  refine ok_wc h3 hn40.2.2 (fun s4 h4 => ?_)
  refine ok_ix (by omega) (by omega) (fun k kl ke => ?_)
  have : k = 0 := by omega
  subst this
  refine ok_cl (oX2_begin (by omega) (Or.inr rfl) wt_T57 h4) (fun _ s6 h6 => ?_)
  exact ok_im (oX10_thinkEndless_69 2000 wt_N (F + 1) s6 0 (by unfold wt_N; omega) (by omega) h6.1 (by omega)) (fun _ _ e => ⟨e.1.mono (by omega), e.2⟩)
theorem oX10_compareResults {F t t2 : Nat} {z : wt_S} {s : wt_S} (h : CI F z s) : Ok (fun _ s' => CI F z s') (gX10_compareResults t t2 s) := by
  unfold gX10_compareResults
  refine ok_if (fun _ => ok_some h) (fun _ => ok_if (fun _ => ok_some h) (fun _ => ?_))
  exact ok_wc h (by unfold hsp; omega) (fun s1 h1 => ok_some h1)
theorem oX10_step_67 {F t : Nat} {z : wt_S} (hF : F + 4001 ≤ 1999990000) {s : wt_S} (h : CI F z s) {l4 : Int32} : Ok (fun _ s' => CI (F + 4001) z s') (gX10_step_67 s t l4) := by
  unfold gX10_step_67
  refine ok_if (fun _ => ok_some (h.mono (by omega))) (fun _ => ok_if (fun _ => ok_some (h.mono (by omega))) (fun _ => ?_))
  refine ok_cl (oX10_thinkEndless hF h) (fun a s1 h1 => ?_)
  refine ok_if (fun _ => ?_) (fun c => absurd h1.2 c)
  exact ok_cl (oX10_compareResults h1.1) (fun _ s3 h3 => ok_some h3)
theorem oX10_step_37 {t : Nat} {z : wt_S} {l2 : Int32} (ht : wt_T t) : ∀ (m fu F : Nat) (s : wt_S) (l4 l5 : Int32), m < fu → l5.toInt + m = l2.toInt → CI F z s → F + 2 * m + 4001 ≤ 1999990000 → Ok (fun _ s' => CI (F + 2 * m + 4001) z s') (gX10_step_37 fu s l2 t l4 l5) := by
  intro m
  induction m with
  | zero =>
    intro fu F s l4 l5 hf hl h hF
    cases fu with
    | zero => omega
    | succ n =>
      rw [gX10_step_37]
      exact ok_if (fun _ => oX10_step_67 hF h) (fun c => by exfalso; omega)
  | succ m ih =>
    intro fu F s l4 l5 hf hl h hF
    cases fu with
    | zero => omega
    | succ n =>
      rw [gX10_step_37]
      refine ok_if (fun _ => ok_im (oX10_step_67 (by omega) h) (fun _ _ e => e.mono (by omega))) (fun c => ?_)
      refine ok_cp (oX7_on (by omega) ht h) (fun v q => ?_)
      refine ok_if (fun _ => ok_im (oX10_step_67 (by omega) h) (fun _ _ e => e.mono (by omega))) (fun _ => ?_)
      refine ok_cl (oX2_makeStep (by omega) (Or.inl rfl) ht h) (fun _ s3 h3 => ?_)
      have b2 := l2.toInt_lt
      have e := i_inc (x := l5) (by simp at b2; omega)
      exact ok_im (ih n (F + 2) s3 _ _ (by omega) (by omega) h3 (by omega)) (fun _ _ e => e.mono (by omega))
theorem oX10_step {F : Nat} {z : wt_S} (hF : F + 4401 ≤ 1999990000) {s : wt_S} (h : CI F z s) {i1 i2 : Int32} : Ok (fun _ s' => CI (F + 4401) z s') (gX10_step s i1 i2) := by
  have l0 : (0 : Int32).toInt = 0 := rfl
  have l1 : (1 : Int32).toInt = 1 := rfl
  have l2 : (200 : Int32).toInt = 200 := rfl
  unfold gX10_step
  refine ok_cp (oX10_isTask (by omega) h) (fun v ⟨_, g⟩ => ?_)
  refine ok_if (fun _ => ok_some (h.mono (by omega))) (fun c => ?_)
  have g := g.resolve_left c
  refine ok_if (fun _ => ok_some (h.mono (by omega))) (fun _ => ok_if (fun _ => ?_) (fun _ => ok_some (h.mono (by omega))))
  refine ok_ix (by omega) (by omega) (fun k kl ke => ?_)
  exact ok_im (oX10_step_37 ⟨11, k, Or.inl rfl, kl, rfl⟩ i2.toInt.toNat wt_N F s 0 0 (by unfold wt_N; omega) (by omega) h (by omega)) (fun _ _ e => e.mono (by omega))
theorem oX10_round_39 {G : Nat} {z : wt_S} {K : wt_S → Int32 → Int32 → Int32 → Option (Int32 × wt_S)} {l1 l3 : Int32} : ∀ (m fu F : Nat) (s : wt_S) (l2 l6 : Int32), m < fu → l6.toInt + m = 6 → 0 ≤ l6.toInt → CI F z s → F + 4003 * m ≤ 1999990000 → (∀ (F' : Nat) (s9 : wt_S) (x : Int32), CI F' z s9 → F' ≤ F + 4003 * m → Ok (fun _ s' => CI G z s') (K s9 l1 x (l3 + 1))) → Ok (fun _ s' => CI G z s') (gX10_round_39 K fu s l1 l2 l3 6 l6) := by
  have l6' : (6 : Int32).toInt = 6 := rfl
  intro m
  induction m with
  | zero =>
    intro fu F s l2 l6 hf hl hl0 h hF hK
    cases fu with
    | zero => omega
    | succ n =>
      rw [gX10_round_39]
      exact ok_if (fun _ => hK F s _ h (by omega)) (fun c => by exfalso; omega)
  | succ m ih =>
    intro fu F s l2 l6 hf hl hl0 h hF hK
    cases fu with
    | zero => omega
    | succ n =>
      rw [gX10_round_39]
      rw [Nat.mul_succ] at hF hK
      generalize 4003 * m = M at *
      refine ok_if (fun _ => hK F s _ h (by omega)) (fun c => ?_)
      refine ok_ix (by omega) (by omega) (fun k kl ke => ?_)
      have ht : wt_T (11 + 17 + 2 * k) := ⟨11, k, Or.inl rfl, kl, rfl⟩
      refine ok_cp (oX7_on (by omega) ht h) (fun v q => ?_)
      have e := i_inc (x := l6) (by omega)
      refine ok_if (fun _ => ih n F s _ _ (by omega) (by omega) (by omega) h (by omega) (fun F' s9 x h9 hle => hK F' s9 x h9 (by omega))) (fun _ => ?_)
      refine ok_cl (oX2_makeStep (by omega) (Or.inl rfl) ht h) (fun _ s4 h4 => ?_)
      refine ok_if (fun _ => ih n (F + 2) s4 _ _ (by omega) (by omega) (by omega) h4 (by omega) (fun F' s9 x h9 hle => hK F' s9 x h9 (by omega))) (fun _ => ?_)
      refine ok_cl (oX10_thinkEndless (n_ex hF) h4) (fun a s5 h5 => ?_)
      refine ok_if (fun _ => ?_) (fun c => absurd h5.2 c)
      refine ok_cl (oX10_compareResults h5.1) (fun _ s7 h7 => ?_)
      exact ih n (F + 2 + 4001) s7 _ _ (by omega) (by omega) (by omega) h7 (by omega) (fun F' s9 x h9 hle => hK F' s9 x h9 (by omega))
theorem oX10_round_17 {G : Nat} {z : wt_S} {l1 : Int32} : ∀ (m fu F : Nat) (s : wt_S) (l2 l3 : Int32), m < fu → l3.toInt + m = l1.toInt → CI F z s → F + 24018 * m ≤ 1999990000 → F + 24018 * m ≤ G → Ok (fun _ s' => CI G z s') (gX10_round_17 fu s l1 l2 l3) := by
  have l0 : (0 : Int32).toInt = 0 := rfl
  intro m
  induction m with
  | zero =>
    intro fu F s l2 l3 hf hl h hF hG
    cases fu with
    | zero => omega
    | succ n =>
      rw [gX10_round_17]
      exact ok_if (fun _ => ok_some (h.mono (by omega))) (fun c => by exfalso; omega)
  | succ m ih =>
    intro fu F s l2 l3 hf hl h hF hG
    cases fu with
    | zero => omega
    | succ n =>
      rw [gX10_round_17]
      rw [Nat.mul_succ] at hF hG
      generalize 24018 * m = M at *
      refine ok_if (fun _ => ok_some (h.mono (by omega))) (fun c => ?_)
      have b2 := l1.toInt_lt
      have e := i_inc (x := l3) (by simp at b2; omega)
      exact oX10_round_39 6 wt_N F s l2 0 (by unfold wt_N; omega) (by omega) (by omega) h (n_ex2 hF) (fun F' s9 x h9 hle => ih n F' s9 x _ (by omega) (by omega) h9 (by omega) (by omega))
theorem oX10_round {F : Nat} {z : wt_S} (hF : F + 2401800 ≤ 1999990000) {s : wt_S} (h : CI F z s) {i1 : Int32} : Ok (fun _ s' => CI (F + 2401800) z s') (gX10_round s i1) := by
  have l0 : (0 : Int32).toInt = 0 := rfl
  have l1 : (1 : Int32).toInt = 1 := rfl
  have l2 : (100 : Int32).toInt = 100 := rfl
  unfold gX10_round
  refine ok_if (fun _ => ok_some (h.mono (by omega))) (fun _ => ok_if (fun _ => ?_) (fun _ => ok_some (h.mono (by omega))))
  exact oX10_round_17 i1.toInt.toNat wt_N F s 0 0 (by unfold wt_N; omega) (by omega) h (by omega) (by omega)
