section
/-! ===== the class, method by method, 4: steps, rounds ===== -/
theorem n_ex {F M : Nat} (h : F + (M + 4003) ≤ 1999990000) : F + 2 + 4001 ≤ 1999990000 := Nat.le_trans (Nat.add_le_add_left (Nat.le_add_left 4003 M) F) h
theorem n_ex2 {F M : Nat} (h : F + (M + 24018) ≤ 1999990000) : F + 4003 * 6 ≤ 1999990000 := Nat.le_trans (Nat.add_le_add_left (Nat.le_add_left 24018 M) F) h
theorem hn40 : ¬ hsp 41 0 ∧ ¬ hsp 41 2 ∧ ¬ hsp 41 5 := by unfold hsp; omega
theorem oX10_thinkEndless_69 {z : wt_S} : ∀ (m fu F : Nat) (s : wt_S) (l4 : Int32), m < fu → l4.toInt + m = 2000 → CI F z s → F + 2 * m ≤ 1999990000 → Ok (fun r s' => CI (F + 2 * m) z s' ∧ r = 57) (gX10_thinkEndless_69 fu s 57 l4) := by
  have l2 : (2000 : Int32).toInt = 2000 := rfl
  intro m
  induction m with
  | zero =>
    intro fu F s l4 hf hl h hF
    cases fu with
    | zero => omega
    | succ n =>
      rw [gX10_thinkEndless_69]
      unfold gX10_thinkEndless_98
      exact ok_if (fun _ => ok_some ⟨h.mono (by omega), rfl⟩) (fun c => by exfalso; omega)
  | succ m ih =>
    intro fu F s l4 hf hl h hF
    cases fu with
    | zero => omega
    | succ n =>
      rw [gX10_thinkEndless_69]
      unfold gX10_thinkEndless_98
      refine ok_if (fun _ => ok_some ⟨h.mono (by omega), rfl⟩) (fun c => ?_)
      refine ok_cp (oX7_on (by omega) wt_T57 h) (fun v q => ?_)
      refine ok_if (fun _ => ok_some ⟨h.mono (by omega), rfl⟩) (fun _ => ?_)
      refine ok_cl (oX2_makeStep (by omega) (Or.inr rfl) wt_T57 h) (fun _ s3 h3 => ?_)
      have e := i_inc (x := l4) (by omega)
      exact ok_im (ih n (F + 2) s3 _ (by omega) (by omega) h3 (by omega)) (fun _ _ e => ⟨e.1.mono (by omega), e.2⟩)
theorem oX10_thinkEndless {F : Nat} {z : wt_S} (hF : F + 4001 ≤ 1999990000) {s : wt_S} (h : CI F z s) {i1 i2 : Int32} : Ok (fun r s' => CI (F + 4001) z s' ∧ r = 57) (gX10_thinkEndless s i1 i2) := by
  have l0 : (0 : Int32).toInt = 0 := rfl
  unfold gX10_thinkEndless
  refine ok_cl (oX9_clear (by omega) (Or.inr rfl) h) (fun _ s1 h1 => ?_)
  refine ok_wc h1 hn40.1 (fun s2 h2 => ?_)
  refine ok_wc h2 hn40.2.1 (fun s3 h3 => ?_)
  refine ok_wc h3 hn40.2.2 (fun s4 h4 => ?_)
  refine ok_ix (by omega) (by omega) (fun k kl ke => ?_)
  have : k = 0 := by omega
  subst this
  refine ok_cl (oX2_begin (by omega) (Or.inr rfl) wt_T57 h4) (fun _ s6 h6 => ?_)
  exact ok_im (oX10_thinkEndless_69 2000 wt_N (F + 1) s6 0 (by unfold wt_N; omega) (by omega) h6.1 (by omega)) (fun _ _ e => ⟨e.1.mono (by omega), e.2⟩)
theorem oX10_compareResults {F t t2 : Nat} {z : wt_S} {s : wt_S} (h : CI F z s) : Ok (fun _ s' => CI F z s') (gX10_compareResults t t2 s) := by
  unfold gX10_compareResults
  refine ok_if (fun _ => ok_some h) (fun _ => ok_if (fun _ => ok_some h) (fun _ => ?_))
  exact ok_wc h (by unfold hsp; omega) (fun s1 h1 => ok_some h1)
theorem oX10_step_67 {F t : Nat} {z : wt_S} (hF : F + 4001 ≤ 1999990000) {s : wt_S} (h : CI F z s) {l4 : Int32} : Ok (fun _ s' => CI (F + 4001) z s') (gX10_step_67 s t l4) := by
  unfold gX10_step_67
  refine ok_if (fun _ => ok_some (h.mono (by omega))) (fun _ => ok_if (fun _ => ok_some (h.mono (by omega))) (fun _ => ?_))
  refine ok_cl (oX10_thinkEndless hF h) (fun a s1 h1 => ?_)
  refine ok_if (fun _ => ?_) (fun c => absurd h1.2 c)
  exact ok_cl (oX10_compareResults h1.1) (fun _ s3 h3 => ok_some h3)
theorem oX10_step_37 {t : Nat} {z : wt_S} {l2 : Int32} (ht : wt_T t) : ∀ (m fu F : Nat) (s : wt_S) (l4 l5 : Int32), m < fu → l5.toInt + m = l2.toInt → CI F z s → F + 2 * m + 4001 ≤ 1999990000 → Ok (fun _ s' => CI (F + 2 * m + 4001) z s') (gX10_step_37 fu s l2 t l4 l5) := by
  intro m
  induction m with
  | zero =>
    intro fu F s l4 l5 hf hl h hF
    cases fu with
    | zero => omega
    | succ n =>
      rw [gX10_step_37]
      exact ok_if (fun _ => oX10_step_67 hF h) (fun c => by exfalso; omega)
  | succ m ih =>
    intro fu F s l4 l5 hf hl h hF
    cases fu with
    | zero => omega
    | succ n =>
      rw [gX10_step_37]
      refine ok_if (fun _ => ok_im (oX10_step_67 (by omega) h) (fun _ _ e => e.mono (by omega))) (fun c => ?_)
      refine ok_cp (oX7_on (by omega) ht h) (fun v q => ?_)
      refine ok_if (fun _ => ok_im (oX10_step_67 (by omega) h) (fun _ _ e => e.mono (by omega))) (fun _ => ?_)
      refine ok_cl (oX2_makeStep (by omega) (Or.inl rfl) ht h) (fun _ s3 h3 => ?_)
      have b2 := l2.toInt_lt
      have e := i_inc (x := l5) (by simp at b2; omega)
      exact ok_im (ih n (F + 2) s3 _ _ (by omega) (by omega) h3 (by omega)) (fun _ _ e => e.mono (by omega))
theorem oX10_step {F : Nat} {z : wt_S} (hF : F + 4401 ≤ 1999990000) {s : wt_S} (h : CI F z s) {i1 i2 : Int32} : Ok (fun _ s' => CI (F + 4401) z s') (gX10_step s i1 i2) := by
  have l0 : (0 : Int32).toInt = 0 := rfl
  have l1 : (1 : Int32).toInt = 1 := rfl
  have l2 : (200 : Int32).toInt = 200 := rfl
  unfold gX10_step
  refine ok_cp (oX10_isTask (by omega) h) (fun v ⟨_, g⟩ => ?_)
  refine ok_if (fun _ => ok_some (h.mono (by omega))) (fun c => ?_)
  have g := g.resolve_left c
  refine ok_if (fun _ => ok_some (h.mono (by omega))) (fun _ => ok_if (fun _ => ?_) (fun _ => ok_some (h.mono (by omega))))
  refine ok_ix (by omega) (by omega) (fun k kl ke => ?_)
  exact ok_im (oX10_step_37 ⟨11, k, Or.inl rfl, kl, rfl⟩ i2.toInt.toNat wt_N F s 0 0 (by unfold wt_N; omega) (by omega) h (by omega)) (fun _ _ e => e.mono (by omega))
theorem oX10_round_39 {G : Nat} {z : wt_S} {K : wt_S → Int32 → Int32 → Int32 → Option (Int32 × wt_S)} {l1 l3 : Int32} : ∀ (m fu F : Nat) (s : wt_S) (l2 l6 : Int32), m < fu → l6.toInt + m = 6 → 0 ≤ l6.toInt → CI F z s → F + 4003 * m ≤ 1999990000 → (∀ (F' : Nat) (s9 : wt_S) (x : Int32), CI F' z s9 → F' ≤ F + 4003 * m → Ok (fun _ s' => CI G z s') (K s9 l1 x (l3 + 1))) → Ok (fun _ s' => CI G z s') (gX10_round_39 K fu s l1 l2 l3 6 l6) := by
  have l6' : (6 : Int32).toInt = 6 := rfl
  intro m
  induction m with
  | zero =>
    intro fu F s l2 l6 hf hl hl0 h hF hK
    cases fu with
    | zero => omega
    | succ n =>
      rw [gX10_round_39]
      exact ok_if (fun _ => hK F s _ h (by omega)) (fun c => by exfalso; omega)
  | succ m ih =>
    intro fu F s l2 l6 hf hl hl0 h hF hK
    cases fu with
    | zero => omega
    | succ n =>
      rw [gX10_round_39]
      rw [Nat.mul_succ] at hF hK
      generalize 4003 * m = M at *
      refine ok_if (fun _ => hK F s _ h (by omega)) (fun c => ?_)
      refine ok_ix (by omega) (by omega) (fun k kl ke => ?_)
      have ht : wt_T (11 + 17 + 2 * k) := ⟨11, k, Or.inl rfl, kl, rfl⟩
      refine ok_cp (oX7_on (by omega) ht h) (fun v q => ?_)
      have e := i_inc (x := l6) (by omega)
      refine ok_if (fun _ => ih n F s _ _ (by omega) (by omega) (by omega) h (by omega) (fun F' s9 x h9 hle => hK F' s9 x h9 (by omega))) (fun _ => ?_)
      refine ok_cl (oX2_makeStep (by omega) (Or.inl rfl) ht h) (fun _ s4 h4 => ?_)
      refine ok_if (fun _ => ih n (F + 2) s4 _ _ (by omega) (by omega) (by omega) h4 (by omega) (fun F' s9 x h9 hle => hK F' s9 x h9 (by omega))) (fun _ => ?_)
      refine ok_cl (oX10_thinkEndless (n_ex hF) h4) (fun a s5 h5 => ?_)
      refine ok_if (fun _ => ?_) (fun c => absurd h5.2 c)
      refine ok_cl (oX10_compareResults h5.1) (fun _ s7 h7 => ?_)
      exact ih n (F + 2 + 4001) s7 _ _ (by omega) (by omega) (by omega) h7 (by omega) (fun F' s9 x h9 hle => hK F' s9 x h9 (by omega))
theorem oX10_round_17 {G : Nat} {z : wt_S} {l1 : Int32} : ∀ (m fu F : Nat) (s : wt_S) (l2 l3 : Int32), m < fu → l3.toInt + m = l1.toInt → CI F z s → F + 24018 * m ≤ 1999990000 → F + 24018 * m ≤ G → Ok (fun _ s' => CI G z s') (gX10_round_17 fu s l1 l2 l3) := by
  have l0 : (0 : Int32).toInt = 0 := rfl
  intro m
  induction m with
  | zero =>
    intro fu F s l2 l3 hf hl h hF hG
    cases fu with
    | zero => omega
    | succ n =>
      rw [gX10_round_17]
      exact ok_if (fun _ => ok_some (h.mono (by omega))) (fun c => by exfalso; omega)
  | succ m ih =>
    intro fu F s l2 l3 hf hl h hF hG
    cases fu with
    | zero => omega
    | succ n =>
      rw [gX10_round_17]
      rw [Nat.mul_succ] at hF hG
      generalize 24018 * m = M at *
      refine ok_if (fun _ => ok_some (h.mono (by omega))) (fun c => ?_)
      have b2 := l1.toInt_lt
      have e := i_inc (x := l3) (by simp at b2; omega)
      exact oX10_round_39 6 wt_N F s l2 0 (by unfold wt_N; omega) (by omega) (by omega) h (n_ex2 hF) (fun F' s9 x h9 hle => ih n F' s9 x _ (by omega) (by omega) h9 (by omega) (by omega))
theorem oX10_round {F : Nat} {z : wt_S} (hF : F + 2401800 ≤ 1999990000) {s : wt_S} (h : CI F z s) {i1 : Int32} : Ok (fun _ s' => CI (F + 2401800) z s') (gX10_round s i1) := by
  have l0 : (0 : Int32).toInt = 0 := rfl
  have l1 : (1 : Int32).toInt = 1 := rfl
  have l2 : (100 : Int32).toInt = 100 := rfl
  unfold gX10_round
  refine ok_if (fun _ => ok_some (h.mono (by omega))) (fun _ => ok_if (fun _ => ?_) (fun _ => ok_some (h.mono (by omega))))
  exact oX10_round_17 i1.toInt.toNat wt_N F s 0 0 (by unfold wt_N; omega) (by omega) h (by omega) (by omega)
end
section
/-! ===== the class, method by method, 5 (written by wip/p25/ok.py) ===== -/
theorem oX10_stop {F : Nat} {z : wt_S} (hF : F ≤ 2000000000)  {s : wt_S} (h : CI F z s) {i1 : Int32} : Ok (fun r s' => CI F z s' ∧ (r = 0 ∨ r = 1)) (gX10_stop s i1) := by
  obtain ⟨l_0, l_1, l_2, l_3, l_4, l_5, l_6, l_8, l_9, l_10, l_12, l_16, l_40, l_100, l_160, l_200, l_256, l_640, l_2000, l_2048, l_m1⟩ := lits
  unfold gX10_stop 
  refine ok_cp (oX10_isTask (by omega)  h) (fun v2 ⟨q1, g1⟩ => ?_)
  refine ok_if (fun _ => ?_) (fun z2 => ?_)
  · exact ok_some ⟨h.mono (by omega), (by first | assumption | exact Or.inl rfl | exact Or.inr rfl | exact hc.2 | omega | exact ⟨Or.inl rfl, Or.inl rfl⟩ | exact ⟨Or.inr rfl, Or.inr (by omega)⟩ | exact ⟨by assumption, by assumption⟩)⟩
  · have gg2 := g1.resolve_left z2
    refine ok_ix (by omega) (by omega) (fun k3 kl3 ke3 => ?_)
    refine ok_if (fun _ => ?_) (fun _ => ?_)
    · refine ok_ix (by omega) (by omega) (fun k4 kl4 ke4 => ?_)
      refine ok_cl (oX9_releasePieces (by omega) (by first | assumption | exact Or.inl rfl | exact Or.inr rfl | exact wt_T57 | exact hc.2 | exact ⟨_, _, wt_BC (by assumption), by assumption, rfl⟩ | exact ⟨_, _, by assumption, by assumption, rfl⟩ | exact ⟨11, _, Or.inl rfl, by assumption, rfl⟩ | exact ⟨40, _, Or.inr (Or.inl rfl), by assumption, rfl⟩ | exact Or.inr (Or.inl rfl) | exact Or.inr (Or.inr rfl)) (by first | assumption | exact Or.inl rfl | exact Or.inr rfl | exact wt_T57 | exact hc.2 | exact ⟨_, _, wt_BC (by assumption), by assumption, rfl⟩ | exact ⟨_, _, by assumption, by assumption, rfl⟩ | exact ⟨11, _, Or.inl rfl, by assumption, rfl⟩ | exact ⟨40, _, Or.inr (Or.inl rfl), by assumption, rfl⟩ | exact Or.inr (Or.inl rfl) | exact Or.inr (Or.inr rfl)) h) (fun _ s5 h5 => ?_)
      refine ok_ix (by omega) (by omega) (fun k6 kl6 ke6 => ?_)
      refine ok_cl (oX7_clear (by omega) (by first | assumption | exact Or.inl rfl | exact Or.inr rfl | exact wt_T57 | exact hc.2 | exact ⟨_, _, wt_BC (by assumption), by assumption, rfl⟩ | exact ⟨_, _, by assumption, by assumption, rfl⟩ | exact ⟨11, _, Or.inl rfl, by assumption, rfl⟩ | exact ⟨40, _, Or.inr (Or.inl rfl), by assumption, rfl⟩ | exact Or.inr (Or.inl rfl) | exact Or.inr (Or.inr rfl)) h5) (fun _ s7 h7 => ?_)
      exact ok_some ⟨h7.mono (by omega), (by first | assumption | exact Or.inl rfl | exact Or.inr rfl | exact hc.2 | omega | exact ⟨Or.inl rfl, Or.inl rfl⟩ | exact ⟨Or.inr rfl, Or.inr (by omega)⟩ | exact ⟨by assumption, by assumption⟩)⟩
    · exact ok_some ⟨h.mono (by omega), (by first | assumption | exact Or.inl rfl | exact Or.inr rfl | exact hc.2 | omega | exact ⟨Or.inl rfl, Or.inl rfl⟩ | exact ⟨Or.inr rfl, Or.inr (by omega)⟩ | exact ⟨by assumption, by assumption⟩)⟩
theorem oX10_quiet {F : Nat} {z : wt_S} (hF : F ≤ 2000000000)  {s : wt_S} (h : CI F z s) {i1 : Int32} : Ok (fun r s' => CI F z s' ∧ (r = 0 ∨ r = 1)) (gX10_quiet s i1) := by
  obtain ⟨l_0, l_1, l_2, l_3, l_4, l_5, l_6, l_8, l_9, l_10, l_12, l_16, l_40, l_100, l_160, l_200, l_256, l_640, l_2000, l_2048, l_m1⟩ := lits
  unfold gX10_quiet 
  refine ok_cp (oX10_isTask (by omega)  h) (fun v2 ⟨q1, g1⟩ => ?_)
  refine ok_if (fun _ => ?_) (fun z2 => ?_)
  · exact ok_some ⟨h.mono (by omega), (by first | assumption | exact Or.inl rfl | exact Or.inr rfl | exact hc.2 | omega | exact ⟨Or.inl rfl, Or.inl rfl⟩ | exact ⟨Or.inr rfl, Or.inr (by omega)⟩ | exact ⟨by assumption, by assumption⟩)⟩
  · have gg2 := g1.resolve_left z2
    refine ok_ix (by omega) (by omega) (fun k3 kl3 ke3 => ?_)
    refine ok_cp (oX7_on (by omega) (by first | assumption | exact Or.inl rfl | exact Or.inr rfl | exact wt_T57 | exact hc.2 | exact ⟨_, _, wt_BC (by assumption), by assumption, rfl⟩ | exact ⟨_, _, by assumption, by assumption, rfl⟩ | exact ⟨11, _, Or.inl rfl, by assumption, rfl⟩ | exact ⟨40, _, Or.inr (Or.inl rfl), by assumption, rfl⟩ | exact Or.inr (Or.inl rfl) | exact Or.inr (Or.inr rfl)) h) (fun v5 q4 => ?_)
    refine ok_if (fun _ => ?_) (fun _ => ?_)
    · exact ok_some ⟨h.mono (by omega), (by first | assumption | exact Or.inl rfl | exact Or.inr rfl | exact hc.2 | omega | exact ⟨Or.inl rfl, Or.inl rfl⟩ | exact ⟨Or.inr rfl, Or.inr (by omega)⟩ | exact ⟨by assumption, by assumption⟩)⟩
    · refine ok_ix (by omega) (by omega) (fun k6 kl5 ke5 => ?_)
      refine ok_cl (oX4_makeSmaller (by omega) (by first | assumption | exact Or.inl rfl | exact Or.inr rfl | exact wt_T57 | exact hc.2 | exact ⟨_, _, wt_BC (by assumption), by assumption, rfl⟩ | exact ⟨_, _, by assumption, by assumption, rfl⟩ | exact ⟨11, _, Or.inl rfl, by assumption, rfl⟩ | exact ⟨40, _, Or.inr (Or.inl rfl), by assumption, rfl⟩ | exact Or.inr (Or.inl rfl) | exact Or.inr (Or.inr rfl)) (by first | assumption | exact Or.inl rfl | exact Or.inr rfl | exact wt_T57 | exact hc.2 | exact ⟨_, _, wt_BC (by assumption), by assumption, rfl⟩ | exact ⟨_, _, by assumption, by assumption, rfl⟩ | exact ⟨11, _, Or.inl rfl, by assumption, rfl⟩ | exact ⟨40, _, Or.inr (Or.inl rfl), by assumption, rfl⟩ | exact Or.inr (Or.inl rfl) | exact Or.inr (Or.inr rfl)) h) (fun v8 s7 ⟨h6, q6⟩ => ?_)
      refine ok_if (fun _ => ?_) (fun _ => ?_)
      · exact ok_some ⟨h6.mono (by omega), (by first | assumption | exact Or.inl rfl | exact Or.inr rfl | exact hc.2 | omega | exact ⟨Or.inl rfl, Or.inl rfl⟩ | exact ⟨Or.inr rfl, Or.inr (by omega)⟩ | exact ⟨by assumption, by assumption⟩)⟩
      · exact ok_some ⟨h6.mono (by omega), (by first | assumption | exact Or.inl rfl | exact Or.inr rfl | exact hc.2 | omega | exact ⟨Or.inl rfl, Or.inl rfl⟩ | exact ⟨Or.inr rfl, Or.inr (by omega)⟩ | exact ⟨by assumption, by assumption⟩)⟩
theorem oX4_joinPieces_127 {F : Nat} {z : wt_S} (hF : F ≤ 2000000000) {b : Nat} (hb : wt_B b) {t : Nat} (ht : wt_T t) : ∀ (fu : Nat) (s : wt_S) (l2 : Int32) (l4 : Int32) (l5 : Int32), CI F z s → (0 ≤ l5.toInt ∧ l5.toInt ≤ 256) → (256 - l5.toInt).toNat < fu → Ok (fun r s' => CI F z s' ∧ (r = 0 ∨ r = 1)) (gX4_joinPieces_127 b t fu s l2 l4 l5) := by
  obtain ⟨l_0, l_1, l_2, l_3, l_4, l_5, l_6, l_8, l_9, l_10, l_12, l_16, l_40, l_100, l_160, l_200, l_256, l_640, l_2000, l_2048, l_m1⟩ := lits
  have hbC : wt_C b := wt_BC hb
  intro fu
  induction fu with
  | zero => intro s l2 l4 l5 h hc hm; exact absurd hm (Nat.not_lt_zero _)
  | succ n ih =>
    intro s l2 l4 l5 h hc hm
    rw [gX4_joinPieces_127]
    unfold gX4_joinPieces_164
    refine ok_if (fun _ => ?_) (fun _ => ?_)
    · refine ok_cl (oX9_releasePieces (by omega) (by first | assumption | exact Or.inl rfl | exact Or.inr rfl | exact wt_T57 | exact hc.2 | exact ⟨_, _, wt_BC (by assumption), by assumption, rfl⟩ | exact ⟨_, _, by assumption, by assumption, rfl⟩ | exact ⟨11, _, Or.inl rfl, by assumption, rfl⟩ | exact ⟨40, _, Or.inr (Or.inl rfl), by assumption, rfl⟩ | exact Or.inr (Or.inl rfl) | exact Or.inr (Or.inr rfl)) (by first | assumption | exact Or.inl rfl | exact Or.inr rfl | exact wt_T57 | exact hc.2 | exact ⟨_, _, wt_BC (by assumption), by assumption, rfl⟩ | exact ⟨_, _, by assumption, by assumption, rfl⟩ | exact ⟨11, _, Or.inl rfl, by assumption, rfl⟩ | exact ⟨40, _, Or.inr (Or.inl rfl), by assumption, rfl⟩ | exact Or.inr (Or.inl rfl) | exact Or.inr (Or.inr rfl)) h) (fun _ s1 h1 => ?_)
      refine ok_cl (oX5_use (by omega) (by first | assumption | exact Or.inl rfl | exact Or.inr rfl | exact wt_T57 | exact hc.2 | exact ⟨_, _, wt_BC (by assumption), by assumption, rfl⟩ | exact ⟨_, _, by assumption, by assumption, rfl⟩ | exact ⟨11, _, Or.inl rfl, by assumption, rfl⟩ | exact ⟨40, _, Or.inr (Or.inl rfl), by assumption, rfl⟩ | exact Or.inr (Or.inl rfl) | exact Or.inr (Or.inr rfl)) h1) (fun _ s2 h2 => ?_)
      refine ok_wc h2 (by first | exact hs_b (by assumption) (by decide) | exact hs_b2 (by assumption) (by decide) | exact hs_t (by assumption) (by decide) | exact hs_t1 (by assumption) | exact hs_q (by assumption) (by decide) | exact hs_w (by assumption) | exact hs_d (by decide) | exact hs_e (by decide)) (fun s3 h3 => ?_)
      refine ok_wc h3 (by first | exact hs_b (by assumption) (by decide) | exact hs_b2 (by assumption) (by decide) | exact hs_t (by assumption) (by decide) | exact hs_t1 (by assumption) | exact hs_q (by assumption) (by decide) | exact hs_w (by assumption) | exact hs_d (by decide) | exact hs_e (by decide)) (fun s4 h4 => ?_)
      refine ok_cl (oX9_add (by omega) (by first | assumption | exact Or.inl rfl | exact Or.inr rfl | exact wt_T57 | exact hc.2 | exact ⟨_, _, wt_BC (by assumption), by assumption, rfl⟩ | exact ⟨_, _, by assumption, by assumption, rfl⟩ | exact ⟨11, _, Or.inl rfl, by assumption, rfl⟩ | exact ⟨40, _, Or.inr (Or.inl rfl), by assumption, rfl⟩ | exact Or.inr (Or.inl rfl) | exact Or.inr (Or.inr rfl)) (by first | assumption | exact Or.inl rfl | exact Or.inr rfl | exact wt_T57 | exact hc.2 | exact ⟨_, _, wt_BC (by assumption), by assumption, rfl⟩ | exact ⟨_, _, by assumption, by assumption, rfl⟩ | exact ⟨11, _, Or.inl rfl, by assumption, rfl⟩ | exact ⟨40, _, Or.inr (Or.inl rfl), by assumption, rfl⟩ | exact Or.inr (Or.inl rfl) | exact Or.inr (Or.inr rfl)) h4) (fun _ s5 h5 => ?_)
      refine ok_cl (oX9_writeLog (by omega) (by first | assumption | exact Or.inl rfl | exact Or.inr rfl | exact wt_T57 | exact hc.2 | exact ⟨_, _, wt_BC (by assumption), by assumption, rfl⟩ | exact ⟨_, _, by assumption, by assumption, rfl⟩ | exact ⟨11, _, Or.inl rfl, by assumption, rfl⟩ | exact ⟨40, _, Or.inr (Or.inl rfl), by assumption, rfl⟩ | exact Or.inr (Or.inl rfl) | exact Or.inr (Or.inr rfl)) h5) (fun _ s6 h6 => ?_)
      exact ok_some ⟨h6.mono (by omega), (by first | assumption | exact Or.inl rfl | exact Or.inr rfl | exact hc.2 | omega | exact ⟨Or.inl rfl, Or.inl rfl⟩ | exact ⟨Or.inr rfl, Or.inr (by omega)⟩ | exact ⟨by assumption, by assumption⟩)⟩
    · refine ok_if (fun _ => ?_) (fun _ => ?_)
      · refine ok_cl (oX9_releasePieces (by omega) (by first | assumption | exact Or.inl rfl | exact Or.inr rfl | exact wt_T57 | exact hc.2 | exact ⟨_, _, wt_BC (by assumption), by assumption, rfl⟩ | exact ⟨_, _, by assumption, by assumption, rfl⟩ | exact ⟨11, _, Or.inl rfl, by assumption, rfl⟩ | exact ⟨40, _, Or.inr (Or.inl rfl), by assumption, rfl⟩ | exact Or.inr (Or.inl rfl) | exact Or.inr (Or.inr rfl)) (by first | assumption | exact Or.inl rfl | exact Or.inr rfl | exact wt_T57 | exact hc.2 | exact ⟨_, _, wt_BC (by assumption), by assumption, rfl⟩ | exact ⟨_, _, by assumption, by assumption, rfl⟩ | exact ⟨11, _, Or.inl rfl, by assumption, rfl⟩ | exact ⟨40, _, Or.inr (Or.inl rfl), by assumption, rfl⟩ | exact Or.inr (Or.inl rfl) | exact Or.inr (Or.inr rfl)) h) (fun _ s1 h7 => ?_)
        refine ok_cl (oX5_use (by omega) (by first | assumption | exact Or.inl rfl | exact Or.inr rfl | exact wt_T57 | exact hc.2 | exact ⟨_, _, wt_BC (by assumption), by assumption, rfl⟩ | exact ⟨_, _, by assumption, by assumption, rfl⟩ | exact ⟨11, _, Or.inl rfl, by assumption, rfl⟩ | exact ⟨40, _, Or.inr (Or.inl rfl), by assumption, rfl⟩ | exact Or.inr (Or.inl rfl) | exact Or.inr (Or.inr rfl)) h7) (fun _ s2 h8 => ?_)
        refine ok_wc h8 (by first | exact hs_b (by assumption) (by decide) | exact hs_b2 (by assumption) (by decide) | exact hs_t (by assumption) (by decide) | exact hs_t1 (by assumption) | exact hs_q (by assumption) (by decide) | exact hs_w (by assumption) | exact hs_d (by decide) | exact hs_e (by decide)) (fun s9 h9 => ?_)
        refine ok_wc h9 (by first | exact hs_b (by assumption) (by decide) | exact hs_b2 (by assumption) (by decide) | exact hs_t (by assumption) (by decide) | exact hs_t1 (by assumption) | exact hs_q (by assumption) (by decide) | exact hs_w (by assumption) | exact hs_d (by decide) | exact hs_e (by decide)) (fun s10 h10 => ?_)
        refine ok_cl (oX9_add (by omega) (by first | assumption | exact Or.inl rfl | exact Or.inr rfl | exact wt_T57 | exact hc.2 | exact ⟨_, _, wt_BC (by assumption), by assumption, rfl⟩ | exact ⟨_, _, by assumption, by assumption, rfl⟩ | exact ⟨11, _, Or.inl rfl, by assumption, rfl⟩ | exact ⟨40, _, Or.inr (Or.inl rfl), by assumption, rfl⟩ | exact Or.inr (Or.inl rfl) | exact Or.inr (Or.inr rfl)) (by first | assumption | exact Or.inl rfl | exact Or.inr rfl | exact wt_T57 | exact hc.2 | exact ⟨_, _, wt_BC (by assumption), by assumption, rfl⟩ | exact ⟨_, _, by assumption, by assumption, rfl⟩ | exact ⟨11, _, Or.inl rfl, by assumption, rfl⟩ | exact ⟨40, _, Or.inr (Or.inl rfl), by assumption, rfl⟩ | exact Or.inr (Or.inl rfl) | exact Or.inr (Or.inr rfl)) h10) (fun _ s5 h11 => ?_)
        refine ok_cl (oX9_writeLog (by omega) (by first | assumption | exact Or.inl rfl | exact Or.inr rfl | exact wt_T57 | exact hc.2 | exact ⟨_, _, wt_BC (by assumption), by assumption, rfl⟩ | exact ⟨_, _, by assumption, by assumption, rfl⟩ | exact ⟨11, _, Or.inl rfl, by assumption, rfl⟩ | exact ⟨40, _, Or.inr (Or.inl rfl), by assumption, rfl⟩ | exact Or.inr (Or.inl rfl) | exact Or.inr (Or.inr rfl)) h11) (fun _ s6 h12 => ?_)
        exact ok_some ⟨h12.mono (by omega), (by first | assumption | exact Or.inl rfl | exact Or.inr rfl | exact hc.2 | omega | exact ⟨Or.inl rfl, Or.inl rfl⟩ | exact ⟨Or.inr rfl, Or.inr (by omega)⟩ | exact ⟨by assumption, by assumption⟩)⟩
      · refine ok_cl (oX4_bringOver (by omega) (by first | assumption | exact Or.inl rfl | exact Or.inr rfl | exact wt_T57 | exact hc.2 | exact ⟨_, _, wt_BC (by assumption), by assumption, rfl⟩ | exact ⟨_, _, by assumption, by assumption, rfl⟩ | exact ⟨11, _, Or.inl rfl, by assumption, rfl⟩ | exact ⟨40, _, Or.inr (Or.inl rfl), by assumption, rfl⟩ | exact Or.inr (Or.inl rfl) | exact Or.inr (Or.inr rfl)) h) (fun _ s1 h13 => ?_)
        refine ok_cp (oX5_belowOf (by omega) (by first | assumption | exact Or.inl rfl | exact Or.inr rfl | exact wt_T57 | exact hc.2 | exact ⟨_, _, wt_BC (by assumption), by assumption, rfl⟩ | exact ⟨_, _, by assumption, by assumption, rfl⟩ | exact ⟨11, _, Or.inl rfl, by assumption, rfl⟩ | exact ⟨40, _, Or.inr (Or.inl rfl), by assumption, rfl⟩ | exact Or.inr (Or.inl rfl) | exact Or.inr (Or.inr rfl)) h13) (fun v3 q14 => ?_)
        have e15 := i_inc (x := l5) (by omega)
        exact ih _ _ _ _ h13 (by omega) (by omega)
theorem oX4_joinPieces_60 {F : Nat} {z : wt_S} (hF : F ≤ 2000000000) {b : Nat} (hb : wt_B b) {t : Nat} (ht : wt_T t) : ∀ (fu : Nat) (s : wt_S) (l2 : Int32) (l3 : Int32) (l4 : Int32) (l5 : Int32), CI F z s → (0 ≤ l5.toInt ∧ l5.toInt ≤ 256) → (256 - l5.toInt).toNat < fu → Ok (fun r s' => CI F z s' ∧ (r = 0 ∨ r = 1)) (gX4_joinPieces_60 b t fu s l2 l3 l4 l5) := by
  obtain ⟨l_0, l_1, l_2, l_3, l_4, l_5, l_6, l_8, l_9, l_10, l_12, l_16, l_40, l_100, l_160, l_200, l_256, l_640, l_2000, l_2048, l_m1⟩ := lits
  have hbC : wt_C b := wt_BC hb
  intro fu
  induction fu with
  | zero => intro s l2 l3 l4 l5 h hc hm; exact absurd hm (Nat.not_lt_zero _)
  | succ n ih =>
    intro s l2 l3 l4 l5 h hc hm
    rw [gX4_joinPieces_60]
    unfold gX4_joinPieces_113
    refine ok_if (fun _ => ?_) (fun _ => ?_)
    · refine ok_cl (oX4_turnPlaces (by omega) (by first | assumption | exact Or.inl rfl | exact Or.inr rfl | exact wt_T57 | exact hc.2 | exact ⟨_, _, wt_BC (by assumption), by assumption, rfl⟩ | exact ⟨_, _, by assumption, by assumption, rfl⟩ | exact ⟨11, _, Or.inl rfl, by assumption, rfl⟩ | exact ⟨40, _, Or.inr (Or.inl rfl), by assumption, rfl⟩ | exact Or.inr (Or.inl rfl) | exact Or.inr (Or.inr rfl)) (by first | assumption | exact Or.inl rfl | exact Or.inr rfl | exact wt_T57 | exact hc.2 | exact ⟨_, _, wt_BC (by assumption), by assumption, rfl⟩ | exact ⟨_, _, by assumption, by assumption, rfl⟩ | exact ⟨11, _, Or.inl rfl, by assumption, rfl⟩ | exact ⟨40, _, Or.inr (Or.inl rfl), by assumption, rfl⟩ | exact Or.inr (Or.inl rfl) | exact Or.inr (Or.inr rfl)) h) (fun _ s1 h1 => ?_)
      refine oX4_joinPieces_127 (by omega) (by first | assumption | exact Or.inl rfl | exact Or.inr rfl | exact wt_T57 | exact hc.2 | exact ⟨_, _, wt_BC (by assumption), by assumption, rfl⟩ | exact ⟨_, _, by assumption, by assumption, rfl⟩ | exact ⟨11, _, Or.inl rfl, by assumption, rfl⟩ | exact ⟨40, _, Or.inr (Or.inl rfl), by assumption, rfl⟩ | exact Or.inr (Or.inl rfl) | exact Or.inr (Or.inr rfl)) (by first | assumption | exact Or.inl rfl | exact Or.inr rfl | exact wt_T57 | exact hc.2 | exact ⟨_, _, wt_BC (by assumption), by assumption, rfl⟩ | exact ⟨_, _, by assumption, by assumption, rfl⟩ | exact ⟨11, _, Or.inl rfl, by assumption, rfl⟩ | exact ⟨40, _, Or.inr (Or.inl rfl), by assumption, rfl⟩ | exact Or.inr (Or.inl rfl) | exact Or.inr (Or.inr rfl)) wt_N _ _ _ _ h1 ?_ (by unfold wt_N; omega)
      · omega
    · refine ok_if (fun _ => ?_) (fun _ => ?_)
      · refine ok_cl (oX4_turnPlaces (by omega) (by first | assumption | exact Or.inl rfl | exact Or.inr rfl | exact wt_T57 | exact hc.2 | exact ⟨_, _, wt_BC (by assumption), by assumption, rfl⟩ | exact ⟨_, _, by assumption, by assumption, rfl⟩ | exact ⟨11, _, Or.inl rfl, by assumption, rfl⟩ | exact ⟨40, _, Or.inr (Or.inl rfl), by assumption, rfl⟩ | exact Or.inr (Or.inl rfl) | exact Or.inr (Or.inr rfl)) (by first | assumption | exact Or.inl rfl | exact Or.inr rfl | exact wt_T57 | exact hc.2 | exact ⟨_, _, wt_BC (by assumption), by assumption, rfl⟩ | exact ⟨_, _, by assumption, by assumption, rfl⟩ | exact ⟨11, _, Or.inl rfl, by assumption, rfl⟩ | exact ⟨40, _, Or.inr (Or.inl rfl), by assumption, rfl⟩ | exact Or.inr (Or.inl rfl) | exact Or.inr (Or.inr rfl)) h) (fun _ s1 h2 => ?_)
        refine oX4_joinPieces_127 (by omega) (by first | assumption | exact Or.inl rfl | exact Or.inr rfl | exact wt_T57 | exact hc.2 | exact ⟨_, _, wt_BC (by assumption), by assumption, rfl⟩ | exact ⟨_, _, by assumption, by assumption, rfl⟩ | exact ⟨11, _, Or.inl rfl, by assumption, rfl⟩ | exact ⟨40, _, Or.inr (Or.inl rfl), by assumption, rfl⟩ | exact Or.inr (Or.inl rfl) | exact Or.inr (Or.inr rfl)) (by first | assumption | exact Or.inl rfl | exact Or.inr rfl | exact wt_T57 | exact hc.2 | exact ⟨_, _, wt_BC (by assumption), by assumption, rfl⟩ | exact ⟨_, _, by assumption, by assumption, rfl⟩ | exact ⟨11, _, Or.inl rfl, by assumption, rfl⟩ | exact ⟨40, _, Or.inr (Or.inl rfl), by assumption, rfl⟩ | exact Or.inr (Or.inl rfl) | exact Or.inr (Or.inr rfl)) wt_N _ _ _ _ h2 ?_ (by unfold wt_N; omega)
        · omega
      · refine ok_cp (oX5_usedOf (by omega) (by first | assumption | exact Or.inl rfl | exact Or.inr rfl | exact wt_T57 | exact hc.2 | exact ⟨_, _, wt_BC (by assumption), by assumption, rfl⟩ | exact ⟨_, _, by assumption, by assumption, rfl⟩ | exact ⟨11, _, Or.inl rfl, by assumption, rfl⟩ | exact ⟨40, _, Or.inr (Or.inl rfl), by assumption, rfl⟩ | exact Or.inr (Or.inl rfl) | exact Or.inr (Or.inr rfl)) h) (fun v2 q3 => ?_)
        refine ok_cl (oX5_aimAt (by omega) (by first | assumption | exact Or.inl rfl | exact Or.inr rfl | exact wt_T57 | exact hc.2 | exact ⟨_, _, wt_BC (by assumption), by assumption, rfl⟩ | exact ⟨_, _, by assumption, by assumption, rfl⟩ | exact ⟨11, _, Or.inl rfl, by assumption, rfl⟩ | exact ⟨40, _, Or.inr (Or.inl rfl), by assumption, rfl⟩ | exact Or.inr (Or.inl rfl) | exact Or.inr (Or.inr rfl)) h) (fun _ s3 h4 => ?_)
        refine ok_cp (oX5_belowOf (by omega) (by first | assumption | exact Or.inl rfl | exact Or.inr rfl | exact wt_T57 | exact hc.2 | exact ⟨_, _, wt_BC (by assumption), by assumption, rfl⟩ | exact ⟨_, _, by assumption, by assumption, rfl⟩ | exact ⟨11, _, Or.inl rfl, by assumption, rfl⟩ | exact ⟨40, _, Or.inr (Or.inl rfl), by assumption, rfl⟩ | exact Or.inr (Or.inl rfl) | exact Or.inr (Or.inr rfl)) h4) (fun v5 q5 => ?_)
        have e6 := i_inc (x := l5) (by omega)
        exact ih _ _ _ _ _ h4 (by omega) (by omega)
theorem oX4_joinPieces {F : Nat} {z : wt_S} (hF : F ≤ 2000000000) {b : Nat} (hb : wt_B b) {t : Nat} (ht : wt_T t) {s : wt_S} (h : CI F z s) : Ok (fun r s' => CI F z s' ∧ (r = 0 ∨ r = 1)) (gX4_joinPieces b t s) := by
  obtain ⟨l_0, l_1, l_2, l_3, l_4, l_5, l_6, l_8, l_9, l_10, l_12, l_16, l_40, l_100, l_160, l_200, l_256, l_640, l_2000, l_2048, l_m1⟩ := lits
  have hbC : wt_C b := wt_BC hb
  unfold gX4_joinPieces 
  refine ok_cp (oX4_keptWords (by omega) (by first | assumption | exact Or.inl rfl | exact Or.inr rfl | exact wt_T57 | exact hc.2 | exact ⟨_, _, wt_BC (by assumption), by assumption, rfl⟩ | exact ⟨_, _, by assumption, by assumption, rfl⟩ | exact ⟨11, _, Or.inl rfl, by assumption, rfl⟩ | exact ⟨40, _, Or.inr (Or.inl rfl), by assumption, rfl⟩ | exact Or.inr (Or.inl rfl) | exact Or.inr (Or.inr rfl)) (by first | assumption | exact Or.inl rfl | exact Or.inr rfl | exact wt_T57 | exact hc.2 | exact ⟨_, _, wt_BC (by assumption), by assumption, rfl⟩ | exact ⟨_, _, by assumption, by assumption, rfl⟩ | exact ⟨11, _, Or.inl rfl, by assumption, rfl⟩ | exact ⟨40, _, Or.inr (Or.inl rfl), by assumption, rfl⟩ | exact Or.inr (Or.inl rfl) | exact Or.inr (Or.inr rfl)) h) (fun v2 q1 => ?_)
  refine ok_cp (oX4_doubled (by omega)  h) (fun v4 q2 => ?_)
  refine ok_cl (oX5_take (by omega) (by first | assumption | exact Or.inl rfl | exact Or.inr rfl | exact wt_T57 | exact hc.2 | exact ⟨_, _, wt_BC (by assumption), by assumption, rfl⟩ | exact ⟨_, _, by assumption, by assumption, rfl⟩ | exact ⟨11, _, Or.inl rfl, by assumption, rfl⟩ | exact ⟨40, _, Or.inr (Or.inl rfl), by assumption, rfl⟩ | exact Or.inr (Or.inl rfl) | exact Or.inr (Or.inr rfl)) h) (fun v6 s5 h3 => ?_)
  refine ok_if (fun _ => ?_) (fun _ => ?_)
  · refine ok_cp (oX5_placeOf (by omega) (by first | assumption | exact Or.inl rfl | exact Or.inr rfl | exact wt_T57 | exact hc.2 | exact ⟨_, _, wt_BC (by assumption), by assumption, rfl⟩ | exact ⟨_, _, by assumption, by assumption, rfl⟩ | exact ⟨11, _, Or.inl rfl, by assumption, rfl⟩ | exact ⟨40, _, Or.inr (Or.inl rfl), by assumption, rfl⟩ | exact Or.inr (Or.inl rfl) | exact Or.inr (Or.inr rfl)) h3) (fun v8 q4 => ?_)
    refine oX4_joinPieces_60 (by omega) (by first | assumption | exact Or.inl rfl | exact Or.inr rfl | exact wt_T57 | exact hc.2 | exact ⟨_, _, wt_BC (by assumption), by assumption, rfl⟩ | exact ⟨_, _, by assumption, by assumption, rfl⟩ | exact ⟨11, _, Or.inl rfl, by assumption, rfl⟩ | exact ⟨40, _, Or.inr (Or.inl rfl), by assumption, rfl⟩ | exact Or.inr (Or.inl rfl) | exact Or.inr (Or.inr rfl)) (by first | assumption | exact Or.inl rfl | exact Or.inr rfl | exact wt_T57 | exact hc.2 | exact ⟨_, _, wt_BC (by assumption), by assumption, rfl⟩ | exact ⟨_, _, by assumption, by assumption, rfl⟩ | exact ⟨11, _, Or.inl rfl, by assumption, rfl⟩ | exact ⟨40, _, Or.inr (Or.inl rfl), by assumption, rfl⟩ | exact Or.inr (Or.inl rfl) | exact Or.inr (Or.inr rfl)) wt_N _ _ _ _ _ h3 ?_ (by unfold wt_N; omega)
    · omega
  · exact ok_some ⟨h3.mono (by omega), (by first | assumption | exact Or.inl rfl | exact Or.inr rfl | exact hc.2 | omega | exact ⟨Or.inl rfl, Or.inl rfl⟩ | exact ⟨Or.inr rfl, Or.inr (by omega)⟩ | exact ⟨by assumption, by assumption⟩)⟩
theorem oX10_join {F : Nat} {z : wt_S} (hF : F ≤ 2000000000)  {s : wt_S} (h : CI F z s) {i1 : Int32} : Ok (fun r s' => CI F z s' ∧ (r = 0 ∨ r = 1)) (gX10_join s i1) := by
  obtain ⟨l_0, l_1, l_2, l_3, l_4, l_5, l_6, l_8, l_9, l_10, l_12, l_16, l_40, l_100, l_160, l_200, l_256, l_640, l_2000, l_2048, l_m1⟩ := lits
  unfold gX10_join 
  refine ok_cp (oX10_isTask (by omega)  h) (fun v2 ⟨q1, g1⟩ => ?_)
  refine ok_if (fun _ => ?_) (fun z2 => ?_)
  · exact ok_some ⟨h.mono (by omega), (by first | assumption | exact Or.inl rfl | exact Or.inr rfl | exact hc.2 | omega | exact ⟨Or.inl rfl, Or.inl rfl⟩ | exact ⟨Or.inr rfl, Or.inr (by omega)⟩ | exact ⟨by assumption, by assumption⟩)⟩
  · have gg2 := g1.resolve_left z2
    refine ok_ix (by omega) (by omega) (fun k3 kl3 ke3 => ?_)
    refine ok_cp (oX7_on (by omega) (by first | assumption | exact Or.inl rfl | exact Or.inr rfl | exact wt_T57 | exact hc.2 | exact ⟨_, _, wt_BC (by assumption), by assumption, rfl⟩ | exact ⟨_, _, by assumption, by assumption, rfl⟩ | exact ⟨11, _, Or.inl rfl, by assumption, rfl⟩ | exact ⟨40, _, Or.inr (Or.inl rfl), by assumption, rfl⟩ | exact Or.inr (Or.inl rfl) | exact Or.inr (Or.inr rfl)) h) (fun v5 q4 => ?_)
    refine ok_if (fun _ => ?_) (fun _ => ?_)
    · exact ok_some ⟨h.mono (by omega), (by first | assumption | exact Or.inl rfl | exact Or.inr rfl | exact hc.2 | omega | exact ⟨Or.inl rfl, Or.inl rfl⟩ | exact ⟨Or.inr rfl, Or.inr (by omega)⟩ | exact ⟨by assumption, by assumption⟩)⟩
    · refine ok_ix (by omega) (by omega) (fun k6 kl5 ke5 => ?_)
      refine ok_if (fun _ => ?_) (fun _ => ?_)
      · refine ok_ix (by omega) (by omega) (fun k7 kl6 ke6 => ?_)
        refine ok_cl (oX4_joinPieces (by omega) (by first | assumption | exact Or.inl rfl | exact Or.inr rfl | exact wt_T57 | exact hc.2 | exact ⟨_, _, wt_BC (by assumption), by assumption, rfl⟩ | exact ⟨_, _, by assumption, by assumption, rfl⟩ | exact ⟨11, _, Or.inl rfl, by assumption, rfl⟩ | exact ⟨40, _, Or.inr (Or.inl rfl), by assumption, rfl⟩ | exact Or.inr (Or.inl rfl) | exact Or.inr (Or.inr rfl)) (by first | assumption | exact Or.inl rfl | exact Or.inr rfl | exact wt_T57 | exact hc.2 | exact ⟨_, _, wt_BC (by assumption), by assumption, rfl⟩ | exact ⟨_, _, by assumption, by assumption, rfl⟩ | exact ⟨11, _, Or.inl rfl, by assumption, rfl⟩ | exact ⟨40, _, Or.inr (Or.inl rfl), by assumption, rfl⟩ | exact Or.inr (Or.inl rfl) | exact Or.inr (Or.inr rfl)) h) (fun v9 s8 ⟨h7, q7⟩ => ?_)
        refine ok_rz (by first | assumption | exact hc.2 | exact Or.inl rfl | exact Or.inr rfl) ?_
        exact ok_some ⟨h7.mono (by omega), (by first | assumption | exact Or.inl rfl | exact Or.inr rfl | exact hc.2 | omega | exact ⟨Or.inl rfl, Or.inl rfl⟩ | exact ⟨Or.inr rfl, Or.inr (by omega)⟩ | exact ⟨by assumption, by assumption⟩)⟩
      · exact ok_some ⟨h.mono (by omega), (by first | assumption | exact Or.inl rfl | exact Or.inr rfl | exact hc.2 | omega | exact ⟨Or.inl rfl, Or.inl rfl⟩ | exact ⟨Or.inr rfl, Or.inr (by omega)⟩ | exact ⟨by assumption, by assumption⟩)⟩
theorem oX5_settle {F : Nat} {z : wt_S} (hF : F ≤ 2000000000) {b : Nat} (hb : wt_B b) {s : wt_S} (h : CI F z s) {i1 : Int32} : Ok (fun r s' => CI F z s' ∧ (r = 0 ∨ r = 1)) (gX5_settle b s i1) := by
  obtain ⟨l_0, l_1, l_2, l_3, l_4, l_5, l_6, l_8, l_9, l_10, l_12, l_16, l_40, l_100, l_160, l_200, l_256, l_640, l_2000, l_2048, l_m1⟩ := lits
  have hbC : wt_C b := wt_BC hb
  have n7 := h.nm hbC
  unfold gX5_settle 
  refine ok_if (fun _ => ?_) (fun _ => ?_)
  · exact ok_some ⟨h.mono (by omega), (by first | assumption | exact Or.inl rfl | exact Or.inr rfl | exact hc.2 | omega | exact ⟨Or.inl rfl, Or.inl rfl⟩ | exact ⟨Or.inr rfl, Or.inr (by omega)⟩ | exact ⟨by assumption, by assumption⟩)⟩
  · refine ok_if (fun _ => ?_) (fun _ => ?_)
    · exact ok_some ⟨h.mono (by omega), (by first | assumption | exact Or.inl rfl | exact Or.inr rfl | exact hc.2 | omega | exact ⟨Or.inl rfl, Or.inl rfl⟩ | exact ⟨Or.inr rfl, Or.inr (by omega)⟩ | exact ⟨by assumption, by assumption⟩)⟩
    · refine ok_ix (by omega) (by omega) (fun k1 kl1 ke1 => ?_)
      refine ok_if (fun _ => ?_) (fun _ => ?_)
      · refine ok_ix (by omega) (by omega) (fun k2 kl2 ke2 => ?_)
        refine ok_ix (by omega) (by omega) (fun k3 kl3 ke3 => ?_)
        refine ok_ix (by omega) (by omega) (fun k5 kl4 ke4 => ?_)
        refine ok_wc h (by first | exact hs_b (by assumption) (by decide) | exact hs_b2 (by assumption) (by decide) | exact hs_t (by assumption) (by decide) | exact hs_t1 (by assumption) | exact hs_q (by assumption) (by decide) | exact hs_w (by assumption) | exact hs_d (by decide) | exact hs_e (by decide)) (fun s5 h5 => ?_)
        have n6 := h5.nm hbC
        exact ok_some ⟨h5.mono (by omega), (by first | assumption | exact Or.inl rfl | exact Or.inr rfl | exact hc.2 | omega | exact ⟨Or.inl rfl, Or.inl rfl⟩ | exact ⟨Or.inr rfl, Or.inr (by omega)⟩ | exact ⟨by assumption, by assumption⟩)⟩
      · exact ok_some ⟨h.mono (by omega), (by first | assumption | exact Or.inl rfl | exact Or.inr rfl | exact hc.2 | omega | exact ⟨Or.inl rfl, Or.inl rfl⟩ | exact ⟨Or.inr rfl, Or.inr (by omega)⟩ | exact ⟨by assumption, by assumption⟩)⟩
theorem oX4_gather_92 {F : Nat} {z : wt_S} (hF : F ≤ 2000000000) {b : Nat} (hb : wt_B b) : ∀ (fu : Nat) (s : wt_S) (l2 : Int32) (l3 : Int32), CI F z s → (0 ≤ l3.toInt ∧ l3.toInt ≤ 256) → (256 - l3.toInt).toNat < fu → Ok (fun r s' => CI F z s') (gX4_gather_92 b fu s l2 l3) := by
  obtain ⟨l_0, l_1, l_2, l_3, l_4, l_5, l_6, l_8, l_9, l_10, l_12, l_16, l_40, l_100, l_160, l_200, l_256, l_640, l_2000, l_2048, l_m1⟩ := lits
  have hbC : wt_C b := wt_BC hb
  intro fu
  induction fu with
  | zero => intro s l2 l3 h hc hm; exact absurd hm (Nat.not_lt_zero _)
  | succ n ih =>
    intro s l2 l3 h hc hm
    have n10 := h.nm hbC
    rw [gX4_gather_92]
    refine ok_if (fun _ => ?_) (fun _ => ?_)
    · exact ok_some (h.mono (by omega))
    · refine ok_cp (oX5_idAt (by omega) (by first | assumption | exact Or.inl rfl | exact Or.inr rfl | exact wt_T57 | exact hc.2 | exact ⟨_, _, wt_BC (by assumption), by assumption, rfl⟩ | exact ⟨_, _, by assumption, by assumption, rfl⟩ | exact ⟨11, _, Or.inl rfl, by assumption, rfl⟩ | exact ⟨40, _, Or.inr (Or.inl rfl), by assumption, rfl⟩ | exact Or.inr (Or.inl rfl) | exact Or.inr (Or.inr rfl)) h) (fun v2 q1 => ?_)
      refine ok_cl (oX4_bringOver (by omega) (by first | assumption | exact Or.inl rfl | exact Or.inr rfl | exact wt_T57 | exact hc.2 | exact ⟨_, _, wt_BC (by assumption), by assumption, rfl⟩ | exact ⟨_, _, by assumption, by assumption, rfl⟩ | exact ⟨11, _, Or.inl rfl, by assumption, rfl⟩ | exact ⟨40, _, Or.inr (Or.inl rfl), by assumption, rfl⟩ | exact Or.inr (Or.inl rfl) | exact Or.inr (Or.inr rfl)) h) (fun _ s3 h2 => ?_)
      have n3 := h2.nm hbC
      refine ok_cl (oX5_settle (by omega) (by first | assumption | exact Or.inl rfl | exact Or.inr rfl | exact wt_T57 | exact hc.2 | exact ⟨_, _, wt_BC (by assumption), by assumption, rfl⟩ | exact ⟨_, _, by assumption, by assumption, rfl⟩ | exact ⟨11, _, Or.inl rfl, by assumption, rfl⟩ | exact ⟨40, _, Or.inr (Or.inl rfl), by assumption, rfl⟩ | exact Or.inr (Or.inl rfl) | exact Or.inr (Or.inr rfl)) h2) (fun v5 s4 ⟨h4, q4⟩ => ?_)
      have n5 := h4.nm hbC
      refine ok_if (fun _ => ?_) (fun _ => ?_)
      · have e6 := i_inc (x := l3) (by omega)
        exact ih _ _ _ h4 (by omega) (by omega)
      · refine ok_cl (oX9_writeLog (by omega) (by first | assumption | exact Or.inl rfl | exact Or.inr rfl | exact wt_T57 | exact hc.2 | exact ⟨_, _, wt_BC (by assumption), by assumption, rfl⟩ | exact ⟨_, _, by assumption, by assumption, rfl⟩ | exact ⟨11, _, Or.inl rfl, by assumption, rfl⟩ | exact ⟨40, _, Or.inr (Or.inl rfl), by assumption, rfl⟩ | exact Or.inr (Or.inl rfl) | exact Or.inr (Or.inr rfl)) h4) (fun _ s6 h7 => ?_)
        have n8 := h7.nm hbC
        have e9 := i_inc (x := l3) (by omega)
        exact ih _ _ _ h7 (by omega) (by omega)
theorem oX4_gather_64 {F : Nat} {z : wt_S} (hF : F ≤ 2000000000) {b : Nat} (hb : wt_B b) : ∀ (fu : Nat) (s : wt_S) (l3 : Int32) (l4 : Int32), CI F z s → (l3.toInt = 6 ∧ 0 ≤ l4.toInt ∧ l4.toInt ≤ 6) → (6 - l4.toInt).toNat < fu → Ok (fun r s' => CI F z s') (gX4_gather_64 b fu s l3 l4) := by
  obtain ⟨l_0, l_1, l_2, l_3, l_4, l_5, l_6, l_8, l_9, l_10, l_12, l_16, l_40, l_100, l_160, l_200, l_256, l_640, l_2000, l_2048, l_m1⟩ := lits
  have hbC : wt_C b := wt_BC hb
  intro fu
  induction fu with
  | zero => intro s l3 l4 h hc hm; exact absurd hm (Nat.not_lt_zero _)
  | succ n ih =>
    intro s l3 l4 h hc hm
    have n5 := h.nm hbC
    rw [gX4_gather_64]
    refine ok_if (fun _ => ?_) (fun _ => ?_)
    · refine oX4_gather_92 (by omega) (by first | assumption | exact Or.inl rfl | exact Or.inr rfl | exact wt_T57 | exact hc.2 | exact ⟨_, _, wt_BC (by assumption), by assumption, rfl⟩ | exact ⟨_, _, by assumption, by assumption, rfl⟩ | exact ⟨11, _, Or.inl rfl, by assumption, rfl⟩ | exact ⟨40, _, Or.inr (Or.inl rfl), by assumption, rfl⟩ | exact Or.inr (Or.inl rfl) | exact Or.inr (Or.inr rfl)) wt_N _ _ _ h ?_ (by unfold wt_N; omega)
      · omega
    · refine ok_ix (by omega) (by omega) (fun k1 kl1 ke1 => ?_)
      refine ok_cl (oX4_turnPlaces (by omega) (by first | assumption | exact Or.inl rfl | exact Or.inr rfl | exact wt_T57 | exact hc.2 | exact ⟨_, _, wt_BC (by assumption), by assumption, rfl⟩ | exact ⟨_, _, by assumption, by assumption, rfl⟩ | exact ⟨11, _, Or.inl rfl, by assumption, rfl⟩ | exact ⟨40, _, Or.inr (Or.inl rfl), by assumption, rfl⟩ | exact Or.inr (Or.inl rfl) | exact Or.inr (Or.inr rfl)) (by first | assumption | exact Or.inl rfl | exact Or.inr rfl | exact wt_T57 | exact hc.2 | exact ⟨_, _, wt_BC (by assumption), by assumption, rfl⟩ | exact ⟨_, _, by assumption, by assumption, rfl⟩ | exact ⟨11, _, Or.inl rfl, by assumption, rfl⟩ | exact ⟨40, _, Or.inr (Or.inl rfl), by assumption, rfl⟩ | exact Or.inr (Or.inl rfl) | exact Or.inr (Or.inr rfl)) h) (fun _ s2 h2 => ?_)
      have n3 := h2.nm hbC
      have e4 := i_inc (x := l4) (by omega)
      exact ih _ _ _ h2 (by omega) (by omega)
theorem oX4_gather_4 {F : Nat} {z : wt_S} (hF : F ≤ 2000000000) {b : Nat} (hb : wt_B b) : ∀ (fu : Nat) (s : wt_S) (l1 : Int32) (l2 : Int32), CI F z s → (0 ≤ l2.toInt ∧ l2.toInt ≤ 256) → (256 - l2.toInt).toNat < fu → Ok (fun r s' => CI F z s') (gX4_gather_4 b fu s l1 l2) := by
  obtain ⟨l_0, l_1, l_2, l_3, l_4, l_5, l_6, l_8, l_9, l_10, l_12, l_16, l_40, l_100, l_160, l_200, l_256, l_640, l_2000, l_2048, l_m1⟩ := lits
  have hbC : wt_C b := wt_BC hb
  intro fu
  induction fu with
  | zero => intro s l1 l2 h hc hm; exact absurd hm (Nat.not_lt_zero _)
  | succ n ih =>
    intro s l1 l2 h hc hm
    have n6 := h.nm hbC
    rw [gX4_gather_4]
    refine ok_if (fun _ => ?_) (fun _ => ?_)
    · refine oX4_gather_64 (by omega) (by first | assumption | exact Or.inl rfl | exact Or.inr rfl | exact wt_T57 | exact hc.2 | exact ⟨_, _, wt_BC (by assumption), by assumption, rfl⟩ | exact ⟨_, _, by assumption, by assumption, rfl⟩ | exact ⟨11, _, Or.inl rfl, by assumption, rfl⟩ | exact ⟨40, _, Or.inr (Or.inl rfl), by assumption, rfl⟩ | exact Or.inr (Or.inl rfl) | exact Or.inr (Or.inr rfl)) wt_N _ _ _ h ?_ (by unfold wt_N; omega)
      · omega
    · refine ok_cp (oX5_idAt (by omega) (by first | assumption | exact Or.inl rfl | exact Or.inr rfl | exact wt_T57 | exact hc.2 | exact ⟨_, _, wt_BC (by assumption), by assumption, rfl⟩ | exact ⟨_, _, by assumption, by assumption, rfl⟩ | exact ⟨11, _, Or.inl rfl, by assumption, rfl⟩ | exact ⟨40, _, Or.inr (Or.inl rfl), by assumption, rfl⟩ | exact Or.inr (Or.inl rfl) | exact Or.inr (Or.inr rfl)) h) (fun v2 q1 => ?_)
      refine ok_cl (oX5_aimAt (by omega) (by first | assumption | exact Or.inl rfl | exact Or.inr rfl | exact wt_T57 | exact hc.2 | exact ⟨_, _, wt_BC (by assumption), by assumption, rfl⟩ | exact ⟨_, _, by assumption, by assumption, rfl⟩ | exact ⟨11, _, Or.inl rfl, by assumption, rfl⟩ | exact ⟨40, _, Or.inr (Or.inl rfl), by assumption, rfl⟩ | exact Or.inr (Or.inl rfl) | exact Or.inr (Or.inr rfl)) h) (fun _ s3 h2 => ?_)
      have n3 := h2.nm hbC
      refine ok_cp (oX5_wordsOf (by omega) (by first | assumption | exact Or.inl rfl | exact Or.inr rfl | exact wt_T57 | exact hc.2 | exact ⟨_, _, wt_BC (by assumption), by assumption, rfl⟩ | exact ⟨_, _, by assumption, by assumption, rfl⟩ | exact ⟨11, _, Or.inl rfl, by assumption, rfl⟩ | exact ⟨40, _, Or.inr (Or.inl rfl), by assumption, rfl⟩ | exact Or.inr (Or.inl rfl) | exact Or.inr (Or.inr rfl)) h2) (fun v5 q4 => ?_)
      have e5 := i_inc (x := l2) (by omega)
      exact ih _ _ _ h2 (by omega) (by omega)
theorem oX4_gather {F : Nat} {z : wt_S} (hF : F ≤ 2000000000) {b : Nat} (hb : wt_B b) {s : wt_S} (h : CI F z s) : Ok (fun r s' => CI F z s') (gX4_gather b s) := by
  obtain ⟨l_0, l_1, l_2, l_3, l_4, l_5, l_6, l_8, l_9, l_10, l_12, l_16, l_40, l_100, l_160, l_200, l_256, l_640, l_2000, l_2048, l_m1⟩ := lits
  have hbC : wt_C b := wt_BC hb
  have n1 := h.nm hbC
  unfold gX4_gather 
  refine oX4_gather_4 (by omega) (by first | assumption | exact Or.inl rfl | exact Or.inr rfl | exact wt_T57 | exact hc.2 | exact ⟨_, _, wt_BC (by assumption), by assumption, rfl⟩ | exact ⟨_, _, by assumption, by assumption, rfl⟩ | exact ⟨11, _, Or.inl rfl, by assumption, rfl⟩ | exact ⟨40, _, Or.inr (Or.inl rfl), by assumption, rfl⟩ | exact Or.inr (Or.inl rfl) | exact Or.inr (Or.inr rfl)) wt_N _ _ _ h ?_ (by unfold wt_N; omega)
  · omega
theorem oX10_compact {F : Nat} {z : wt_S} (hF : F ≤ 2000000000)  {s : wt_S} (h : CI F z s) : Ok (fun r s' => CI F z s') (gX10_compact s) := by
  obtain ⟨l_0, l_1, l_2, l_3, l_4, l_5, l_6, l_8, l_9, l_10, l_12, l_16, l_40, l_100, l_160, l_200, l_256, l_640, l_2000, l_2048, l_m1⟩ := lits
  unfold gX10_compact 
  refine ok_cl (oX4_gather (by omega) (by first | assumption | exact Or.inl rfl | exact Or.inr rfl | exact wt_T57 | exact hc.2 | exact ⟨_, _, wt_BC (by assumption), by assumption, rfl⟩ | exact ⟨_, _, by assumption, by assumption, rfl⟩ | exact ⟨11, _, Or.inl rfl, by assumption, rfl⟩ | exact ⟨40, _, Or.inr (Or.inl rfl), by assumption, rfl⟩ | exact Or.inr (Or.inl rfl) | exact Or.inr (Or.inr rfl)) h) (fun v2 s1 h1 => ?_)
  exact ok_some (h1.mono (by omega))
theorem oX10_deep {F : Nat} {z : wt_S} (hF : F ≤ 2000000000)  {s : wt_S} (h : CI F z s) {i1 : Int32} : Ok (fun r s' => s' = s ∧ (True)) (gX10_deep s i1) := by
  obtain ⟨l_0, l_1, l_2, l_3, l_4, l_5, l_6, l_8, l_9, l_10, l_12, l_16, l_40, l_100, l_160, l_200, l_256, l_640, l_2000, l_2048, l_m1⟩ := lits
  unfold gX10_deep 
  refine ok_cp (oX6_told (by omega) (by first | assumption | exact Or.inl rfl | exact Or.inr rfl | exact wt_T57 | exact hc.2 | exact ⟨_, _, wt_BC (by assumption), by assumption, rfl⟩ | exact ⟨_, _, by assumption, by assumption, rfl⟩ | exact ⟨11, _, Or.inl rfl, by assumption, rfl⟩ | exact ⟨40, _, Or.inr (Or.inl rfl), by assumption, rfl⟩ | exact Or.inr (Or.inl rfl) | exact Or.inr (Or.inr rfl)) h) (fun v2 q1 => ?_)
  refine ok_if (fun _ => ?_) (fun _ => ?_)
  · exact ok_some ⟨rfl, trivial⟩
  · refine ok_cp (oX6_deepOf (by omega) (by first | assumption | exact Or.inl rfl | exact Or.inr rfl | exact wt_T57 | exact hc.2 | exact ⟨_, _, wt_BC (by assumption), by assumption, rfl⟩ | exact ⟨_, _, by assumption, by assumption, rfl⟩ | exact ⟨11, _, Or.inl rfl, by assumption, rfl⟩ | exact ⟨40, _, Or.inr (Or.inl rfl), by assumption, rfl⟩ | exact Or.inr (Or.inl rfl) | exact Or.inr (Or.inr rfl)) h) (fun v4 q2 => ?_)
    exact ok_some ⟨rfl, trivial⟩
theorem oX10_need {F : Nat} {z : wt_S} (hF : F ≤ 2000000000)  {s : wt_S} (h : CI F z s) {i1 : Int32} : Ok (fun r s' => s' = s ∧ (True)) (gX10_need s i1) := by
  obtain ⟨l_0, l_1, l_2, l_3, l_4, l_5, l_6, l_8, l_9, l_10, l_12, l_16, l_40, l_100, l_160, l_200, l_256, l_640, l_2000, l_2048, l_m1⟩ := lits
  unfold gX10_need 
  refine ok_cp (oX6_told (by omega) (by first | assumption | exact Or.inl rfl | exact Or.inr rfl | exact wt_T57 | exact hc.2 | exact ⟨_, _, wt_BC (by assumption), by assumption, rfl⟩ | exact ⟨_, _, by assumption, by assumption, rfl⟩ | exact ⟨11, _, Or.inl rfl, by assumption, rfl⟩ | exact ⟨40, _, Or.inr (Or.inl rfl), by assumption, rfl⟩ | exact Or.inr (Or.inl rfl) | exact Or.inr (Or.inr rfl)) h) (fun v2 q1 => ?_)
  refine ok_if (fun _ => ?_) (fun _ => ?_)
  · exact ok_some ⟨rfl, trivial⟩
  · refine ok_cp (oX9_needOf (by omega) (by first | assumption | exact Or.inl rfl | exact Or.inr rfl | exact wt_T57 | exact hc.2 | exact ⟨_, _, wt_BC (by assumption), by assumption, rfl⟩ | exact ⟨_, _, by assumption, by assumption, rfl⟩ | exact ⟨11, _, Or.inl rfl, by assumption, rfl⟩ | exact ⟨40, _, Or.inr (Or.inl rfl), by assumption, rfl⟩ | exact Or.inr (Or.inl rfl) | exact Or.inr (Or.inr rfl)) h) (fun v4 q2 => ?_)
    exact ok_some ⟨rfl, trivial⟩
theorem oX5_indexOf_8 {F : Nat} {z : wt_S} (hF : F ≤ 2000000000) {b : Nat} (hb : wt_B b) : ∀ (fu : Nat) (s : wt_S) (l2 : Int32) (l3 : Int32), CI F z s → (0 ≤ l2.toInt ∧ l2.toInt ≤ 256) → (256 - l2.toInt).toNat < fu → Ok (fun r s' => s' = s ∧ (0 ≤ r.toInt ∧ r.toInt ≤ 256)) (gX5_indexOf_8 b fu s l2 l3) := by
  obtain ⟨l_0, l_1, l_2, l_3, l_4, l_5, l_6, l_8, l_9, l_10, l_12, l_16, l_40, l_100, l_160, l_200, l_256, l_640, l_2000, l_2048, l_m1⟩ := lits
  have hbC : wt_C b := wt_BC hb
  intro fu
  induction fu with
  | zero => intro s l2 l3 h hc hm; exact absurd hm (Nat.not_lt_zero _)
  | succ n ih =>
    intro s l2 l3 h hc hm
    have n3 := h.nm hbC
    rw [gX5_indexOf_8]
    refine ok_if (fun _ => ?_) (fun _ => ?_)
    · exact ok_some ⟨rfl, (by first | assumption | exact Or.inl rfl | exact Or.inr rfl | exact hc.2 | omega | exact ⟨Or.inl rfl, Or.inl rfl⟩ | exact ⟨Or.inr rfl, Or.inr (by omega)⟩ | exact ⟨by assumption, by assumption⟩)⟩
    · refine ok_if (fun _ => ?_) (fun _ => ?_)
      · exact ok_some ⟨rfl, (by first | assumption | exact Or.inl rfl | exact Or.inr rfl | exact hc.2 | omega | exact ⟨Or.inl rfl, Or.inl rfl⟩ | exact ⟨Or.inr rfl, Or.inr (by omega)⟩ | exact ⟨by assumption, by assumption⟩)⟩
      · refine ok_cp (oX5_belowOf (by omega) (by first | assumption | exact Or.inl rfl | exact Or.inr rfl | exact wt_T57 | exact hc.2 | exact ⟨_, _, wt_BC (by assumption), by assumption, rfl⟩ | exact ⟨_, _, by assumption, by assumption, rfl⟩ | exact ⟨11, _, Or.inl rfl, by assumption, rfl⟩ | exact ⟨40, _, Or.inr (Or.inl rfl), by assumption, rfl⟩ | exact Or.inr (Or.inl rfl) | exact Or.inr (Or.inr rfl)) h) (fun v2 q1 => ?_)
        have e2 := i_inc (x := l2) (by omega)
        exact ih _ _ _ h (by omega) (by omega)
theorem oX5_indexOf {F : Nat} {z : wt_S} (hF : F ≤ 2000000000) {b : Nat} (hb : wt_B b) {s : wt_S} (h : CI F z s) {i1 : Int32} : Ok (fun r s' => s' = s ∧ (0 ≤ r.toInt ∧ r.toInt ≤ 256)) (gX5_indexOf b s i1) := by
  obtain ⟨l_0, l_1, l_2, l_3, l_4, l_5, l_6, l_8, l_9, l_10, l_12, l_16, l_40, l_100, l_160, l_200, l_256, l_640, l_2000, l_2048, l_m1⟩ := lits
  have hbC : wt_C b := wt_BC hb
  have n2 := h.nm hbC
  unfold gX5_indexOf 
  refine ok_cp (oX5_belowOf (by omega) (by first | assumption | exact Or.inl rfl | exact Or.inr rfl | exact wt_T57 | exact hc.2 | exact ⟨_, _, wt_BC (by assumption), by assumption, rfl⟩ | exact ⟨_, _, by assumption, by assumption, rfl⟩ | exact ⟨11, _, Or.inl rfl, by assumption, rfl⟩ | exact ⟨40, _, Or.inr (Or.inl rfl), by assumption, rfl⟩ | exact Or.inr (Or.inl rfl) | exact Or.inr (Or.inr rfl)) h) (fun v2 q1 => ?_)
  refine oX5_indexOf_8 (by omega) (by first | assumption | exact Or.inl rfl | exact Or.inr rfl | exact wt_T57 | exact hc.2 | exact ⟨_, _, wt_BC (by assumption), by assumption, rfl⟩ | exact ⟨_, _, by assumption, by assumption, rfl⟩ | exact ⟨11, _, Or.inl rfl, by assumption, rfl⟩ | exact ⟨40, _, Or.inr (Or.inl rfl), by assumption, rfl⟩ | exact Or.inr (Or.inl rfl) | exact Or.inr (Or.inr rfl)) wt_N _ _ _ h ?_ (by unfold wt_N; omega)
  · omega
theorem oX9_piecesOf {F : Nat} {z : wt_S} (hF : F ≤ 2000000000) {b : Nat} (hb : wt_B b) {t : Nat} (ht : wt_T t) {s : wt_S} (h : CI F z s) : Ok (fun r s' => s' = s ∧ (True)) (gX9_piecesOf b t s) := by
  obtain ⟨l_0, l_1, l_2, l_3, l_4, l_5, l_6, l_8, l_9, l_10, l_12, l_16, l_40, l_100, l_160, l_200, l_256, l_640, l_2000, l_2048, l_m1⟩ := lits
  have hbC : wt_C b := wt_BC hb
  unfold gX9_piecesOf gX9_piecesOf_34
  refine ok_if (fun _ => ?_) (fun _ => ?_)
  · refine ok_cp (oX5_indexOf (by omega) (by first | assumption | exact Or.inl rfl | exact Or.inr rfl | exact wt_T57 | exact hc.2 | exact ⟨_, _, wt_BC (by assumption), by assumption, rfl⟩ | exact ⟨_, _, by assumption, by assumption, rfl⟩ | exact ⟨11, _, Or.inl rfl, by assumption, rfl⟩ | exact ⟨40, _, Or.inr (Or.inl rfl), by assumption, rfl⟩ | exact Or.inr (Or.inl rfl) | exact Or.inr (Or.inr rfl)) h) (fun v2 q1 => ?_)
    refine ok_if (fun _ => ?_) (fun _ => ?_)
    · exact ok_some ⟨rfl, trivial⟩
    · exact ok_some ⟨rfl, trivial⟩
  · exact ok_some ⟨rfl, trivial⟩
theorem oX9_wordsOf_20 {F : Nat} {z : wt_S} (hF : F ≤ 2000000000) {b : Nat} (hb : wt_B b) {t : Nat} (ht : wt_T t) : ∀ (fu : Nat) (s : wt_S) (l2 : Int32) (l3 : Int32) (l4 : Int32), CI F z s → (0 ≤ l4.toInt ∧ l4.toInt ≤ 256) → (256 - l4.toInt).toNat < fu → Ok (fun r s' => s' = s ∧ (True)) (gX9_wordsOf_20 b t fu s l2 l3 l4) := by
  obtain ⟨l_0, l_1, l_2, l_3, l_4, l_5, l_6, l_8, l_9, l_10, l_12, l_16, l_40, l_100, l_160, l_200, l_256, l_640, l_2000, l_2048, l_m1⟩ := lits
  have hbC : wt_C b := wt_BC hb
  intro fu
  induction fu with
  | zero => intro s l2 l3 l4 h hc hm; exact absurd hm (Nat.not_lt_zero _)
  | succ n ih =>
    intro s l2 l3 l4 h hc hm
    rw [gX9_wordsOf_20]
    refine ok_if (fun _ => ?_) (fun _ => ?_)
    · exact ok_some ⟨rfl, trivial⟩
    · refine ok_if (fun _ => ?_) (fun _ => ?_)
      · exact ok_some ⟨rfl, trivial⟩
      · refine ok_cp (oX5_wordsOf (by omega) (by first | assumption | exact Or.inl rfl | exact Or.inr rfl | exact wt_T57 | exact hc.2 | exact ⟨_, _, wt_BC (by assumption), by assumption, rfl⟩ | exact ⟨_, _, by assumption, by assumption, rfl⟩ | exact ⟨11, _, Or.inl rfl, by assumption, rfl⟩ | exact ⟨40, _, Or.inr (Or.inl rfl), by assumption, rfl⟩ | exact Or.inr (Or.inl rfl) | exact Or.inr (Or.inr rfl)) h) (fun v2 q1 => ?_)
        refine ok_cp (oX5_belowOf (by omega) (by first | assumption | exact Or.inl rfl | exact Or.inr rfl | exact wt_T57 | exact hc.2 | exact ⟨_, _, wt_BC (by assumption), by assumption, rfl⟩ | exact ⟨_, _, by assumption, by assumption, rfl⟩ | exact ⟨11, _, Or.inl rfl, by assumption, rfl⟩ | exact ⟨40, _, Or.inr (Or.inl rfl), by assumption, rfl⟩ | exact Or.inr (Or.inl rfl) | exact Or.inr (Or.inr rfl)) h) (fun v4 q2 => ?_)
        have e3 := i_inc (x := l4) (by omega)
        exact ih _ _ _ _ h (by omega) (by omega)
theorem oX9_wordsOf {F : Nat} {z : wt_S} (hF : F ≤ 2000000000) {b : Nat} (hb : wt_B b) {t : Nat} (ht : wt_T t) {s : wt_S} (h : CI F z s) : Ok (fun r s' => s' = s ∧ (True)) (gX9_wordsOf b t s) := by
  obtain ⟨l_0, l_1, l_2, l_3, l_4, l_5, l_6, l_8, l_9, l_10, l_12, l_16, l_40, l_100, l_160, l_200, l_256, l_640, l_2000, l_2048, l_m1⟩ := lits
  have hbC : wt_C b := wt_BC hb
  unfold gX9_wordsOf 
  refine ok_cp (oX5_wordsOf (by omega) (by first | assumption | exact Or.inl rfl | exact Or.inr rfl | exact wt_T57 | exact hc.2 | exact ⟨_, _, wt_BC (by assumption), by assumption, rfl⟩ | exact ⟨_, _, by assumption, by assumption, rfl⟩ | exact ⟨11, _, Or.inl rfl, by assumption, rfl⟩ | exact ⟨40, _, Or.inr (Or.inl rfl), by assumption, rfl⟩ | exact Or.inr (Or.inl rfl) | exact Or.inr (Or.inr rfl)) h) (fun v2 q1 => ?_)
  refine oX9_wordsOf_20 (by omega) (by first | assumption | exact Or.inl rfl | exact Or.inr rfl | exact wt_T57 | exact hc.2 | exact ⟨_, _, wt_BC (by assumption), by assumption, rfl⟩ | exact ⟨_, _, by assumption, by assumption, rfl⟩ | exact ⟨11, _, Or.inl rfl, by assumption, rfl⟩ | exact ⟨40, _, Or.inr (Or.inl rfl), by assumption, rfl⟩ | exact Or.inr (Or.inl rfl) | exact Or.inr (Or.inr rfl)) (by first | assumption | exact Or.inl rfl | exact Or.inr rfl | exact wt_T57 | exact hc.2 | exact ⟨_, _, wt_BC (by assumption), by assumption, rfl⟩ | exact ⟨_, _, by assumption, by assumption, rfl⟩ | exact ⟨11, _, Or.inl rfl, by assumption, rfl⟩ | exact ⟨40, _, Or.inr (Or.inl rfl), by assumption, rfl⟩ | exact Or.inr (Or.inl rfl) | exact Or.inr (Or.inr rfl)) wt_N _ _ _ _ h ?_ (by unfold wt_N; omega)
  · omega
theorem oX10_task {F : Nat} {z : wt_S} (hF : F ≤ 2000000000)  {s : wt_S} (h : CI F z s) {i1 i2 : Int32} : Ok (fun r s' => s' = s ∧ (True)) (gX10_task s i1 i2) := by
  obtain ⟨l_0, l_1, l_2, l_3, l_4, l_5, l_6, l_8, l_9, l_10, l_12, l_16, l_40, l_100, l_160, l_200, l_256, l_640, l_2000, l_2048, l_m1⟩ := lits
  unfold gX10_task 
  refine ok_cp (oX10_isTask (by omega)  h) (fun v2 ⟨q1, g1⟩ => ?_)
  refine ok_if (fun z2 => ?_) (fun _ => ?_)
  · have gg2 := g1.resolve_left z2
    refine ok_ix (by omega) (by omega) (fun k3 kl3 ke3 => ?_)
    refine ok_if (fun _ => ?_) (fun _ => ?_)
    · exact ok_some ⟨rfl, trivial⟩
    · refine ok_if (fun _ => ?_) (fun _ => ?_)
      · exact ok_some ⟨rfl, trivial⟩
      · refine ok_if (fun _ => ?_) (fun _ => ?_)
        · exact ok_some ⟨rfl, trivial⟩
        · refine ok_if (fun _ => ?_) (fun _ => ?_)
          · exact ok_some ⟨rfl, trivial⟩
          · refine ok_if (fun _ => ?_) (fun _ => ?_)
            · exact ok_some ⟨rfl, trivial⟩
            · refine ok_if (fun _ => ?_) (fun _ => ?_)
              · exact ok_some ⟨rfl, trivial⟩
              · refine ok_if (fun _ => ?_) (fun _ => ?_)
                · exact ok_some ⟨rfl, trivial⟩
                · refine ok_if (fun _ => ?_) (fun _ => ?_)
                  · refine ok_cp (oX9_piecesOf (by omega) (by first | assumption | exact Or.inl rfl | exact Or.inr rfl | exact wt_T57 | exact hc.2 | exact ⟨_, _, wt_BC (by assumption), by assumption, rfl⟩ | exact ⟨_, _, by assumption, by assumption, rfl⟩ | exact ⟨11, _, Or.inl rfl, by assumption, rfl⟩ | exact ⟨40, _, Or.inr (Or.inl rfl), by assumption, rfl⟩ | exact Or.inr (Or.inl rfl) | exact Or.inr (Or.inr rfl)) (by first | assumption | exact Or.inl rfl | exact Or.inr rfl | exact wt_T57 | exact hc.2 | exact ⟨_, _, wt_BC (by assumption), by assumption, rfl⟩ | exact ⟨_, _, by assumption, by assumption, rfl⟩ | exact ⟨11, _, Or.inl rfl, by assumption, rfl⟩ | exact ⟨40, _, Or.inr (Or.inl rfl), by assumption, rfl⟩ | exact Or.inr (Or.inl rfl) | exact Or.inr (Or.inr rfl)) h) (fun v5 q4 => ?_)
                    exact ok_some ⟨rfl, trivial⟩
                  · refine ok_if (fun _ => ?_) (fun _ => ?_)
                    · refine ok_cp (oX9_wordsOf (by omega) (by first | assumption | exact Or.inl rfl | exact Or.inr rfl | exact wt_T57 | exact hc.2 | exact ⟨_, _, wt_BC (by assumption), by assumption, rfl⟩ | exact ⟨_, _, by assumption, by assumption, rfl⟩ | exact ⟨11, _, Or.inl rfl, by assumption, rfl⟩ | exact ⟨40, _, Or.inr (Or.inl rfl), by assumption, rfl⟩ | exact Or.inr (Or.inl rfl) | exact Or.inr (Or.inr rfl)) (by first | assumption | exact Or.inl rfl | exact Or.inr rfl | exact wt_T57 | exact hc.2 | exact ⟨_, _, wt_BC (by assumption), by assumption, rfl⟩ | exact ⟨_, _, by assumption, by assumption, rfl⟩ | exact ⟨11, _, Or.inl rfl, by assumption, rfl⟩ | exact ⟨40, _, Or.inr (Or.inl rfl), by assumption, rfl⟩ | exact Or.inr (Or.inl rfl) | exact Or.inr (Or.inr rfl)) h) (fun v7 q5 => ?_)
                      exact ok_some ⟨rfl, trivial⟩
                    · refine ok_if (fun _ => ?_) (fun _ => ?_)
                      · exact ok_some ⟨rfl, trivial⟩
                      · refine ok_if (fun _ => ?_) (fun _ => ?_)
                        · exact ok_some ⟨rfl, trivial⟩
                        · refine ok_if (fun _ => ?_) (fun _ => ?_)
                          · exact ok_some ⟨rfl, trivial⟩
                          · refine ok_if (fun _ => ?_) (fun _ => ?_)
                            · exact ok_some ⟨rfl, trivial⟩
                            · refine ok_if (fun _ => ?_) (fun _ => ?_)
                              · exact ok_some ⟨rfl, trivial⟩
                              · refine ok_if (fun _ => ?_) (fun _ => ?_)
                                · exact ok_some ⟨rfl, trivial⟩
                                · refine ok_if (fun _ => ?_) (fun _ => ?_)
                                  · exact ok_some ⟨rfl, trivial⟩
                                  · refine ok_if (fun _ => ?_) (fun _ => ?_)
                                    · exact ok_some ⟨rfl, trivial⟩
                                    · refine ok_if (fun _ => ?_) (fun _ => ?_)
                                      · exact ok_some ⟨rfl, trivial⟩
                                      · refine ok_if (fun _ => ?_) (fun _ => ?_)
                                        · exact ok_some ⟨rfl, trivial⟩
                                        · refine ok_if (fun _ => ?_) (fun _ => ?_)
                                          · exact ok_some ⟨rfl, trivial⟩
                                          · exfalso
                                            omega
  · exact ok_some ⟨rfl, trivial⟩
theorem oX10_hasFrame {F : Nat} {z : wt_S} (hF : F ≤ 2000000000)  {s : wt_S} (h : CI F z s) {i1 i2 : Int32} : Ok (fun r s' => s' = s ∧ ((r = 0 ∨ r = 1) ∧ (r = 0 ∨ ((0 ≤ i1.toInt ∧ i1.toInt ≤ 5) ∧ 0 ≤ i2.toInt)))) (gX10_hasFrame s i1 i2) := by
  obtain ⟨l_0, l_1, l_2, l_3, l_4, l_5, l_6, l_8, l_9, l_10, l_12, l_16, l_40, l_100, l_160, l_200, l_256, l_640, l_2000, l_2048, l_m1⟩ := lits
  unfold gX10_hasFrame 
  refine ok_cp (oX10_isTask (by omega)  h) (fun v2 ⟨q1, g1⟩ => ?_)
  refine ok_if (fun _ => ?_) (fun z2 => ?_)
  · exact ok_some ⟨rfl, (by first | assumption | exact Or.inl rfl | exact Or.inr rfl | exact hc.2 | omega | exact ⟨Or.inl rfl, Or.inl rfl⟩ | exact ⟨Or.inr rfl, Or.inr (by omega)⟩ | exact ⟨by assumption, by assumption⟩)⟩
  · have gg2 := g1.resolve_left z2
    refine ok_if (fun _ => ?_) (fun _ => ?_)
    · exact ok_some ⟨rfl, (by first | assumption | exact Or.inl rfl | exact Or.inr rfl | exact hc.2 | omega | exact ⟨Or.inl rfl, Or.inl rfl⟩ | exact ⟨Or.inr rfl, Or.inr (by omega)⟩ | exact ⟨by assumption, by assumption⟩)⟩
    · refine ok_ix (by omega) (by omega) (fun k3 kl3 ke3 => ?_)
      refine ok_if (fun _ => ?_) (fun _ => ?_)
      · exact ok_some ⟨rfl, (by first | assumption | exact Or.inl rfl | exact Or.inr rfl | exact hc.2 | omega | exact ⟨Or.inl rfl, Or.inl rfl⟩ | exact ⟨Or.inr rfl, Or.inr (by omega)⟩ | exact ⟨by assumption, by assumption⟩)⟩
      · exact ok_some ⟨rfl, (by first | assumption | exact Or.inl rfl | exact Or.inr rfl | exact hc.2 | omega | exact ⟨Or.inl rfl, Or.inl rfl⟩ | exact ⟨Or.inr rfl, Or.inr (by omega)⟩ | exact ⟨by assumption, by assumption⟩)⟩
end
