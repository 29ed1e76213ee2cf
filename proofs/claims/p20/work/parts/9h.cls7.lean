section
/-! ===== the class, method by method, 7 (written by wip/p25/ok.py) ===== -/
theorem oX0_goToLast {F : Nat} {z : wt_S} (hF : F ≤ 2000000000) {t : Nat} (ht : wt_T t) {s : wt_S} (h : CI F z s) : Ok (fun r s' => CI F z s') (gX0_goToLast t s) := by
  obtain ⟨l_0, l_1, l_2, l_3, l_4, l_5, l_6, l_8, l_9, l_10, l_12, l_16, l_40, l_100, l_160, l_200, l_256, l_640, l_2000, l_2048, l_m1⟩ := lits
  unfold gX0_goToLast 
  refine ok_wc h (by first | exact hs_b (by assumption) (by decide) | exact hs_b2 (by assumption) (by decide) | exact hs_t (by assumption) (by decide) | exact hs_t1 (by assumption) | exact hs_q (by assumption) (by decide) | exact hs_w (by assumption) | exact hs_d (by decide) | exact hs_e (by decide)) (fun s1 h1 => ?_)
  refine ok_wc h1 (by first | exact hs_b (by assumption) (by decide) | exact hs_b2 (by assumption) (by decide) | exact hs_t (by assumption) (by decide) | exact hs_t1 (by assumption) | exact hs_q (by assumption) (by decide) | exact hs_w (by assumption) | exact hs_d (by decide) | exact hs_e (by decide)) (fun s2 h2 => ?_)
  refine ok_wc h2 (by first | exact hs_b (by assumption) (by decide) | exact hs_b2 (by assumption) (by decide) | exact hs_t (by assumption) (by decide) | exact hs_t1 (by assumption) | exact hs_q (by assumption) (by decide) | exact hs_w (by assumption) | exact hs_d (by decide) | exact hs_e (by decide)) (fun s3 h3 => ?_)
  exact ok_some (h3.mono (by omega))
theorem oX0_mark {F : Nat} {z : wt_S} (hF : F ≤ 2000000000)  {s : wt_S} (h : CI F z s) {i1 : Int32} : Ok (fun r s' => CI F z s') (gX0_mark s i1) := by
  obtain ⟨l_0, l_1, l_2, l_3, l_4, l_5, l_6, l_8, l_9, l_10, l_12, l_16, l_40, l_100, l_160, l_200, l_256, l_640, l_2000, l_2048, l_m1⟩ := lits
  unfold gX0_mark 
  refine ok_if (fun _ => ?_) (fun _ => ?_)
  · exact ok_some (h.mono (by omega))
  · refine ok_if (fun _ => ?_) (fun _ => ?_)
    · exact ok_some (h.mono (by omega))
    · refine ok_ix (by omega) (by omega) (fun k1 kl1 ke1 => ?_)
      refine ok_ix (by omega) (by omega) (fun k3 kl2 ke2 => ?_)
      refine ok_wc h (by first | exact hs_b (by assumption) (by decide) | exact hs_b2 (by assumption) (by decide) | exact hs_t (by assumption) (by decide) | exact hs_t1 (by assumption) | exact hs_q (by assumption) (by decide) | exact hs_w (by assumption) | exact hs_d (by decide) | exact hs_e (by decide)) (fun s3 h3 => ?_)
      exact ok_some (h3.mono (by omega))
theorem oX0_goToCaller {F : Nat} {z : wt_S} (hF : F ≤ 2000000000)  {s : wt_S} (h : CI F z s) : Ok (fun r s' => CI F z s') (gX0_goToCaller s) := by
  obtain ⟨l_0, l_1, l_2, l_3, l_4, l_5, l_6, l_8, l_9, l_10, l_12, l_16, l_40, l_100, l_160, l_200, l_256, l_640, l_2000, l_2048, l_m1⟩ := lits
  unfold gX0_goToCaller gX0_goToCaller_61
  refine ok_cp (oX5_placeOf (by omega) (by first | assumption | exact Or.inl rfl | exact Or.inr rfl | exact wt_T57 | exact hc.2 | exact ⟨_, _, wt_BC (by assumption), by assumption, rfl⟩ | exact ⟨_, _, by assumption, by assumption, rfl⟩ | exact ⟨11, _, Or.inl rfl, by assumption, rfl⟩ | exact ⟨40, _, Or.inr (Or.inl rfl), by assumption, rfl⟩ | exact Or.inr (Or.inl rfl) | exact Or.inr (Or.inr rfl)) h) (fun v2 q1 => ?_)
  refine ok_if (fun _ => ?_) (fun _ => ?_)
  · refine ok_cp (oX3_word (by omega) (by first | assumption | exact Or.inl rfl | exact Or.inr rfl | exact wt_T57 | exact hc.2 | exact ⟨_, _, wt_BC (by assumption), by assumption, rfl⟩ | exact ⟨_, _, by assumption, by assumption, rfl⟩ | exact ⟨11, _, Or.inl rfl, by assumption, rfl⟩ | exact ⟨40, _, Or.inr (Or.inl rfl), by assumption, rfl⟩ | exact Or.inr (Or.inl rfl) | exact Or.inr (Or.inr rfl)) h) (fun v2 q2 => ?_)
    refine ok_wc h (by first | exact hs_b (by assumption) (by decide) | exact hs_b2 (by assumption) (by decide) | exact hs_t (by assumption) (by decide) | exact hs_t1 (by assumption) | exact hs_q (by assumption) (by decide) | exact hs_w (by assumption) | exact hs_d (by decide) | exact hs_e (by decide)) (fun s3 h3 => ?_)
    refine ok_cp (oX6_frameWords (by omega) (by first | assumption | exact Or.inl rfl | exact Or.inr rfl | exact wt_T57 | exact hc.2 | exact ⟨_, _, wt_BC (by assumption), by assumption, rfl⟩ | exact ⟨_, _, by assumption, by assumption, rfl⟩ | exact ⟨11, _, Or.inl rfl, by assumption, rfl⟩ | exact ⟨40, _, Or.inr (Or.inl rfl), by assumption, rfl⟩ | exact Or.inr (Or.inl rfl) | exact Or.inr (Or.inr rfl)) h3) (fun v5 q4 => ?_)
    refine ok_wc h3 (by first | exact hs_b (by assumption) (by decide) | exact hs_b2 (by assumption) (by decide) | exact hs_t (by assumption) (by decide) | exact hs_t1 (by assumption) | exact hs_q (by assumption) (by decide) | exact hs_w (by assumption) | exact hs_d (by decide) | exact hs_e (by decide)) (fun s5 h5 => ?_)
    exact ok_some (h5.mono (by omega))
  · refine ok_cp (oX5_belowOf (by omega) (by first | assumption | exact Or.inl rfl | exact Or.inr rfl | exact wt_T57 | exact hc.2 | exact ⟨_, _, wt_BC (by assumption), by assumption, rfl⟩ | exact ⟨_, _, by assumption, by assumption, rfl⟩ | exact ⟨11, _, Or.inl rfl, by assumption, rfl⟩ | exact ⟨40, _, Or.inr (Or.inl rfl), by assumption, rfl⟩ | exact Or.inr (Or.inl rfl) | exact Or.inr (Or.inr rfl)) h) (fun v4 q6 => ?_)
    refine ok_if (fun _ => ?_) (fun _ => ?_)
    · refine ok_cp (oX3_word (by omega) (by first | assumption | exact Or.inl rfl | exact Or.inr rfl | exact wt_T57 | exact hc.2 | exact ⟨_, _, wt_BC (by assumption), by assumption, rfl⟩ | exact ⟨_, _, by assumption, by assumption, rfl⟩ | exact ⟨11, _, Or.inl rfl, by assumption, rfl⟩ | exact ⟨40, _, Or.inr (Or.inl rfl), by assumption, rfl⟩ | exact Or.inr (Or.inl rfl) | exact Or.inr (Or.inr rfl)) h) (fun v2 q7 => ?_)
      refine ok_wc h (by first | exact hs_b (by assumption) (by decide) | exact hs_b2 (by assumption) (by decide) | exact hs_t (by assumption) (by decide) | exact hs_t1 (by assumption) | exact hs_q (by assumption) (by decide) | exact hs_w (by assumption) | exact hs_d (by decide) | exact hs_e (by decide)) (fun s8 h8 => ?_)
      refine ok_cp (oX6_frameWords (by omega) (by first | assumption | exact Or.inl rfl | exact Or.inr rfl | exact wt_T57 | exact hc.2 | exact ⟨_, _, wt_BC (by assumption), by assumption, rfl⟩ | exact ⟨_, _, by assumption, by assumption, rfl⟩ | exact ⟨11, _, Or.inl rfl, by assumption, rfl⟩ | exact ⟨40, _, Or.inr (Or.inl rfl), by assumption, rfl⟩ | exact Or.inr (Or.inl rfl) | exact Or.inr (Or.inr rfl)) h8) (fun v5 q9 => ?_)
      refine ok_wc h8 (by first | exact hs_b (by assumption) (by decide) | exact hs_b2 (by assumption) (by decide) | exact hs_t (by assumption) (by decide) | exact hs_t1 (by assumption) | exact hs_q (by assumption) (by decide) | exact hs_w (by assumption) | exact hs_d (by decide) | exact hs_e (by decide)) (fun s10 h10 => ?_)
      exact ok_some (h10.mono (by omega))
    · refine ok_cp (oX5_belowOf (by omega) (by first | assumption | exact Or.inl rfl | exact Or.inr rfl | exact wt_T57 | exact hc.2 | exact ⟨_, _, wt_BC (by assumption), by assumption, rfl⟩ | exact ⟨_, _, by assumption, by assumption, rfl⟩ | exact ⟨11, _, Or.inl rfl, by assumption, rfl⟩ | exact ⟨40, _, Or.inr (Or.inl rfl), by assumption, rfl⟩ | exact Or.inr (Or.inl rfl) | exact Or.inr (Or.inr rfl)) h) (fun v6 q11 => ?_)
      refine ok_wc h (by first | exact hs_b (by assumption) (by decide) | exact hs_b2 (by assumption) (by decide) | exact hs_t (by assumption) (by decide) | exact hs_t1 (by assumption) | exact hs_q (by assumption) (by decide) | exact hs_w (by assumption) | exact hs_d (by decide) | exact hs_e (by decide)) (fun s12 h12 => ?_)
      refine ok_cp (oX5_topOf (by omega) (by first | assumption | exact Or.inl rfl | exact Or.inr rfl | exact wt_T57 | exact hc.2 | exact ⟨_, _, wt_BC (by assumption), by assumption, rfl⟩ | exact ⟨_, _, by assumption, by assumption, rfl⟩ | exact ⟨11, _, Or.inl rfl, by assumption, rfl⟩ | exact ⟨40, _, Or.inr (Or.inl rfl), by assumption, rfl⟩ | exact Or.inr (Or.inl rfl) | exact Or.inr (Or.inr rfl)) h12) (fun v9 q13 => ?_)
      refine ok_cp (oX3_word (by omega) (by first | assumption | exact Or.inl rfl | exact Or.inr rfl | exact wt_T57 | exact hc.2 | exact ⟨_, _, wt_BC (by assumption), by assumption, rfl⟩ | exact ⟨_, _, by assumption, by assumption, rfl⟩ | exact ⟨11, _, Or.inl rfl, by assumption, rfl⟩ | exact ⟨40, _, Or.inr (Or.inl rfl), by assumption, rfl⟩ | exact Or.inr (Or.inl rfl) | exact Or.inr (Or.inr rfl)) h12) (fun v2 q14 => ?_)
      refine ok_wc h12 (by first | exact hs_b (by assumption) (by decide) | exact hs_b2 (by assumption) (by decide) | exact hs_t (by assumption) (by decide) | exact hs_t1 (by assumption) | exact hs_q (by assumption) (by decide) | exact hs_w (by assumption) | exact hs_d (by decide) | exact hs_e (by decide)) (fun s15 h15 => ?_)
      refine ok_cp (oX6_frameWords (by omega) (by first | assumption | exact Or.inl rfl | exact Or.inr rfl | exact wt_T57 | exact hc.2 | exact ⟨_, _, wt_BC (by assumption), by assumption, rfl⟩ | exact ⟨_, _, by assumption, by assumption, rfl⟩ | exact ⟨11, _, Or.inl rfl, by assumption, rfl⟩ | exact ⟨40, _, Or.inr (Or.inl rfl), by assumption, rfl⟩ | exact Or.inr (Or.inl rfl) | exact Or.inr (Or.inr rfl)) h15) (fun v5 q16 => ?_)
      refine ok_wc h15 (by first | exact hs_b (by assumption) (by decide) | exact hs_b2 (by assumption) (by decide) | exact hs_t (by assumption) (by decide) | exact hs_t1 (by assumption) | exact hs_q (by assumption) (by decide) | exact hs_w (by assumption) | exact hs_d (by decide) | exact hs_e (by decide)) (fun s17 h17 => ?_)
      exact ok_some (h17.mono (by omega))
theorem oX0_markNumbers_16 {F : Nat} {z : wt_S} (hF : F ≤ 2000000000) {t : Nat} (ht : wt_T t) {K10 : wt_S → Int32 → Option (Unit × wt_S)} : ∀ (fu : Nat) (s : wt_S) (l2 : Int32) (l3 : Int32), CI F z s → (0 ≤ l3.toInt ∧ l3.toInt ≤ 8) → (8 - l3.toInt).toNat < fu → (∀ (s9 : wt_S) , CI F z s9 → Ok (fun r s' => CI F z s') (K10 s9 (l2 + (-1)))) → Ok (fun r s' => CI F z s') (gX0_markNumbers_16 t K10 fu s l2 l3) := by
  obtain ⟨l_0, l_1, l_2, l_3, l_4, l_5, l_6, l_8, l_9, l_10, l_12, l_16, l_40, l_100, l_160, l_200, l_256, l_640, l_2000, l_2048, l_m1⟩ := lits
  intro fu
  induction fu with
  | zero => intro s l2 l3 h hc hm hK; exact absurd hm (Nat.not_lt_zero _)
  | succ n ih =>
    intro s l2 l3 h hc hm hK
    have f9 := h.fr ht
    rw [gX0_markNumbers_16]
    refine ok_cp (oX6_sizeOf (by omega) (by first | assumption | exact Or.inl rfl | exact Or.inr rfl | exact wt_T57 | exact hc.2 | exact ⟨_, _, wt_BC (by assumption), by assumption, rfl⟩ | exact ⟨_, _, by assumption, by assumption, rfl⟩ | exact ⟨11, _, Or.inl rfl, by assumption, rfl⟩ | exact ⟨40, _, Or.inr (Or.inl rfl), by assumption, rfl⟩ | exact Or.inr (Or.inl rfl) | exact Or.inr (Or.inr rfl)) h) (fun v2 q1 => ?_)
    refine ok_if (fun _ => ?_) (fun _ => ?_)
    · refine ok_if (fun _ => ?_) (fun _ => ?_)
      · exact hK _ h
      · refine ok_cl (oX0_goToCaller (by omega)  h) (fun _ s3 h2 => ?_)
        have f3 := h2.fr ht
        exact hK _ h2
    · refine ok_cp (oX6_isPointer (by omega) (by first | assumption | exact Or.inl rfl | exact Or.inr rfl | exact wt_T57 | exact hc.2 | exact ⟨_, _, wt_BC (by assumption), by assumption, rfl⟩ | exact ⟨_, _, by assumption, by assumption, rfl⟩ | exact ⟨11, _, Or.inl rfl, by assumption, rfl⟩ | exact ⟨40, _, Or.inr (Or.inl rfl), by assumption, rfl⟩ | exact Or.inr (Or.inl rfl) | exact Or.inr (Or.inr rfl)) h) (fun v5 q4 => ?_)
      refine ok_if (fun _ => ?_) (fun _ => ?_)
      · have e5 := i_inc (x := l3) (by omega)
        exact ih _ _ _ h (by omega) (by omega) hK
      · refine ok_cl (oX0_mark (by omega)  h) (fun _ s6 h6 => ?_)
        have f7 := h6.fr ht
        have e8 := i_inc (x := l3) (by omega)
        exact ih _ _ _ h6 (by omega) (by omega) hK
theorem oX0_markNumbers_10 {F : Nat} {z : wt_S} (hF : F ≤ 2000000000) {t : Nat} (ht : wt_T t) : ∀ (fu : Nat) (s : wt_S) (l2 : Int32), CI F z s → (l2.toInt ≤ 2000000000) → (l2.toInt).toNat < fu → Ok (fun r s' => CI F z s') (gX0_markNumbers_10 t fu s l2) := by
  obtain ⟨l_0, l_1, l_2, l_3, l_4, l_5, l_6, l_8, l_9, l_10, l_12, l_16, l_40, l_100, l_160, l_200, l_256, l_640, l_2000, l_2048, l_m1⟩ := lits
  intro fu
  induction fu with
  | zero => intro s l2 h hc hm; exact absurd hm (Nat.not_lt_zero _)
  | succ n ih =>
    intro s l2 h hc hm
    have f2 := h.fr ht
    rw [gX0_markNumbers_10]
    refine ok_if (fun _ => ?_) (fun _ => ?_)
    · exact ok_some (h.mono (by omega))
    · refine oX0_markNumbers_16 (by omega) (by first | assumption | exact Or.inl rfl | exact Or.inr rfl | exact wt_T57 | exact hc.2 | exact ⟨_, _, wt_BC (by assumption), by assumption, rfl⟩ | exact ⟨_, _, by assumption, by assumption, rfl⟩ | exact ⟨11, _, Or.inl rfl, by assumption, rfl⟩ | exact ⟨40, _, Or.inr (Or.inl rfl), by assumption, rfl⟩ | exact Or.inr (Or.inl rfl) | exact Or.inr (Or.inr rfl)) wt_N _ _ _ h ?_ (by unfold wt_N; omega) ?_
      · omega
      · intro s9  h9
        exact ih _ _ h9 (i_dn hc hm (by assumption)).1 (i_dn hc hm (by assumption)).2
theorem oX0_markNumbers {F : Nat} {z : wt_S} (hF : F ≤ 2000000000) {t : Nat} (ht : wt_T t) {s : wt_S} (h : CI F z s) : Ok (fun r s' => CI F z s') (gX0_markNumbers t s) := by
  obtain ⟨l_0, l_1, l_2, l_3, l_4, l_5, l_6, l_8, l_9, l_10, l_12, l_16, l_40, l_100, l_160, l_200, l_256, l_640, l_2000, l_2048, l_m1⟩ := lits
  have f3 := h.fr ht
  unfold gX0_markNumbers 
  refine ok_cl (oX0_goToLast (by omega) (by first | assumption | exact Or.inl rfl | exact Or.inr rfl | exact wt_T57 | exact hc.2 | exact ⟨_, _, wt_BC (by assumption), by assumption, rfl⟩ | exact ⟨_, _, by assumption, by assumption, rfl⟩ | exact ⟨11, _, Or.inl rfl, by assumption, rfl⟩ | exact ⟨40, _, Or.inr (Or.inl rfl), by assumption, rfl⟩ | exact Or.inr (Or.inl rfl) | exact Or.inr (Or.inr rfl)) h) (fun _ s1 h1 => ?_)
  have f2 := h1.fr ht
  refine oX0_markNumbers_10 (by omega) (by first | assumption | exact Or.inl rfl | exact Or.inr rfl | exact wt_T57 | exact hc.2 | exact ⟨_, _, wt_BC (by assumption), by assumption, rfl⟩ | exact ⟨_, _, by assumption, by assumption, rfl⟩ | exact ⟨11, _, Or.inl rfl, by assumption, rfl⟩ | exact ⟨40, _, Or.inr (Or.inl rfl), by assumption, rfl⟩ | exact Or.inr (Or.inl rfl) | exact Or.inr (Or.inr rfl)) wt_N _ _ h1 ?_ (by unfold wt_N; omega)
  · omega
theorem oX0_marksAt {F : Nat} {z : wt_S} (hF : F ≤ 2000000000)  {s : wt_S} (h : CI F z s) {i1 : Int32} : Ok (fun r s' => s' = s ∧ (True)) (gX0_marksAt s i1) := by
  obtain ⟨l_0, l_1, l_2, l_3, l_4, l_5, l_6, l_8, l_9, l_10, l_12, l_16, l_40, l_100, l_160, l_200, l_256, l_640, l_2000, l_2048, l_m1⟩ := lits
  unfold gX0_marksAt 
  refine ok_if (fun _ => ?_) (fun _ => ?_)
  · exact ok_some ⟨rfl, trivial⟩
  · refine ok_if (fun _ => ?_) (fun _ => ?_)
    · exact ok_some ⟨rfl, trivial⟩
    · refine ok_ix (by omega) (by omega) (fun k1 kl1 ke1 => ?_)
      exact ok_some ⟨rfl, trivial⟩
theorem oX0_wrongPointers_4 {F : Nat} {z : wt_S} (hF : F ≤ 2000000000)  : ∀ (fu : Nat) (s : wt_S) (l1 : Int32) (l2 : Int32), CI F z s → (0 ≤ l2.toInt ∧ l2.toInt ≤ 8) → (8 - l2.toInt).toNat < fu → Ok (fun r s' => s' = s ∧ (True)) (gX0_wrongPointers_4  fu s l1 l2) := by
  obtain ⟨l_0, l_1, l_2, l_3, l_4, l_5, l_6, l_8, l_9, l_10, l_12, l_16, l_40, l_100, l_160, l_200, l_256, l_640, l_2000, l_2048, l_m1⟩ := lits
  intro fu
  induction fu with
  | zero => intro s l1 l2 h hc hm; exact absurd hm (Nat.not_lt_zero _)
  | succ n ih =>
    intro s l1 l2 h hc hm
    rw [gX0_wrongPointers_4]
    unfold gX0_wrongPointers_79
    refine ok_cp (oX6_sizeOf (by omega) (by first | assumption | exact Or.inl rfl | exact Or.inr rfl | exact wt_T57 | exact hc.2 | exact ⟨_, _, wt_BC (by assumption), by assumption, rfl⟩ | exact ⟨_, _, by assumption, by assumption, rfl⟩ | exact ⟨11, _, Or.inl rfl, by assumption, rfl⟩ | exact ⟨40, _, Or.inr (Or.inl rfl), by assumption, rfl⟩ | exact Or.inr (Or.inl rfl) | exact Or.inr (Or.inr rfl)) h) (fun v2 q1 => ?_)
    refine ok_if (fun _ => ?_) (fun _ => ?_)
    · exact ok_some ⟨rfl, trivial⟩
    · refine ok_cp (oX3_word (by omega) (by first | assumption | exact Or.inl rfl | exact Or.inr rfl | exact wt_T57 | exact hc.2 | exact ⟨_, _, wt_BC (by assumption), by assumption, rfl⟩ | exact ⟨_, _, by assumption, by assumption, rfl⟩ | exact ⟨11, _, Or.inl rfl, by assumption, rfl⟩ | exact ⟨40, _, Or.inr (Or.inl rfl), by assumption, rfl⟩ | exact Or.inr (Or.inl rfl) | exact Or.inr (Or.inr rfl)) h) (fun v4 q2 => ?_)
      refine ok_cp (oX6_isPointer (by omega) (by first | assumption | exact Or.inl rfl | exact Or.inr rfl | exact wt_T57 | exact hc.2 | exact ⟨_, _, wt_BC (by assumption), by assumption, rfl⟩ | exact ⟨_, _, by assumption, by assumption, rfl⟩ | exact ⟨11, _, Or.inl rfl, by assumption, rfl⟩ | exact ⟨40, _, Or.inr (Or.inl rfl), by assumption, rfl⟩ | exact Or.inr (Or.inl rfl) | exact Or.inr (Or.inr rfl)) h) (fun v6 q3 => ?_)
      refine ok_if (fun _ => ?_) (fun _ => ?_)
      · have e4 := i_inc (x := l2) (by omega)
        exact ih _ _ _ h (by omega) (by omega)
      · refine ok_if (fun _ => ?_) (fun _ => ?_)
        · have e5 := i_inc (x := l2) (by omega)
          exact ih _ _ _ h (by omega) (by omega)
        · refine ok_cp (oX0_marksAt (by omega)  h) (fun v8 q6 => ?_)
          refine ok_if (fun _ => ?_) (fun _ => ?_)
          · have e7 := i_inc (x := l2) (by omega)
            exact ih _ _ _ h (by omega) (by omega)
          · have e8 := i_inc (x := l2) (by omega)
            exact ih _ _ _ h (by omega) (by omega)
theorem oX0_wrongPointers {F : Nat} {z : wt_S} (hF : F ≤ 2000000000)  {s : wt_S} (h : CI F z s) : Ok (fun r s' => s' = s ∧ (True)) (gX0_wrongPointers s) := by
  obtain ⟨l_0, l_1, l_2, l_3, l_4, l_5, l_6, l_8, l_9, l_10, l_12, l_16, l_40, l_100, l_160, l_200, l_256, l_640, l_2000, l_2048, l_m1⟩ := lits
  unfold gX0_wrongPointers 
  refine oX0_wrongPointers_4 (by omega)  wt_N _ _ _ h ?_ (by unfold wt_N; omega)
  · omega
theorem oX0_wrongPlaces_55 {F : Nat} {z : wt_S} (hF : F ≤ 2000000000)  {K16 : wt_S → Int32 → Int32 → Int32 → Option (Int32 × wt_S)} : ∀ (fu : Nat) (s : wt_S) (l1 : Int32) (l3 : Int32) (l4 : Int32) (l6 : Int32), CI F z s → (l6.toInt ≤ 2000000000) → (l6.toInt).toNat < fu → (∀ (s9 : wt_S) (x1 : Int32), CI F z s9 → Ok (fun r s' => CI F z s') (K16 s9 x1 l3 (l4 + 1))) → Ok (fun r s' => CI F z s') (gX0_wrongPlaces_55 K16 fu s l1 l3 l4 l6) := by
  obtain ⟨l_0, l_1, l_2, l_3, l_4, l_5, l_6, l_8, l_9, l_10, l_12, l_16, l_40, l_100, l_160, l_200, l_256, l_640, l_2000, l_2048, l_m1⟩ := lits
  intro fu
  induction fu with
  | zero => intro s l1 l3 l4 l6 h hc hm hK; exact absurd hm (Nat.not_lt_zero _)
  | succ n ih =>
    intro s l1 l3 l4 l6 h hc hm hK
    rw [gX0_wrongPlaces_55]
    unfold gX0_wrongPlaces_93 gX0_wrongPlaces_110 gX0_wrongPlaces_118
    refine ok_if (fun _ => ?_) (fun _ => ?_)
    · exact hK _ _ h
    · refine ok_cp (oX0_wrongPointers (by omega)  h) (fun v2 q1 => ?_)
      refine ok_cp (oX3_word (by omega) (by first | assumption | exact Or.inl rfl | exact Or.inr rfl | exact wt_T57 | exact hc.2 | exact ⟨_, _, wt_BC (by assumption), by assumption, rfl⟩ | exact ⟨_, _, by assumption, by assumption, rfl⟩ | exact ⟨11, _, Or.inl rfl, by assumption, rfl⟩ | exact ⟨40, _, Or.inr (Or.inl rfl), by assumption, rfl⟩ | exact Or.inr (Or.inl rfl) | exact Or.inr (Or.inr rfl)) h) (fun v4 q2 => ?_)
      refine ok_if (fun _ => ?_) (fun _ => ?_)
      · refine ok_if (fun _ => ?_) (fun _ => ?_)
        · refine ok_if (fun _ => ?_) (fun _ => ?_)
          · exact ih _ _ _ _ _ h (i_dn hc hm (by assumption)).1 (i_dn hc hm (by assumption)).2 hK
          · exact ih _ _ _ _ _ h (i_dn hc hm (by assumption)).1 (i_dn hc hm (by assumption)).2 hK
        · refine ok_if (fun _ => ?_) (fun _ => ?_)
          · exact ih _ _ _ _ _ h (i_dn hc hm (by assumption)).1 (i_dn hc hm (by assumption)).2 hK
          · exact ih _ _ _ _ _ h (i_dn hc hm (by assumption)).1 (i_dn hc hm (by assumption)).2 hK
      · refine ok_cl (oX0_goToCaller (by omega)  h) (fun _ s5 h7 => ?_)
        refine ok_if (fun _ => ?_) (fun _ => ?_)
        · refine ok_if (fun _ => ?_) (fun _ => ?_)
          · exact ih _ _ _ _ _ h7 (i_dn hc hm (by assumption)).1 (i_dn hc hm (by assumption)).2 hK
          · exact ih _ _ _ _ _ h7 (i_dn hc hm (by assumption)).1 (i_dn hc hm (by assumption)).2 hK
        · refine ok_if (fun _ => ?_) (fun _ => ?_)
          · exact ih _ _ _ _ _ h7 (i_dn hc hm (by assumption)).1 (i_dn hc hm (by assumption)).2 hK
          · exact ih _ _ _ _ _ h7 (i_dn hc hm (by assumption)).1 (i_dn hc hm (by assumption)).2 hK
theorem oX0_wrongPlaces_16 {F : Nat} {z : wt_S} (hF : F ≤ 2000000000)  : ∀ (fu : Nat) (s : wt_S) (l1 : Int32) (l3 : Int32) (l4 : Int32), CI F z s → (l3.toInt = 6 ∧ 0 ≤ l4.toInt ∧ l4.toInt ≤ 6) → (6 - l4.toInt).toNat < fu → Ok (fun r s' => CI F z s') (gX0_wrongPlaces_16  fu s l1 l3 l4) := by
  obtain ⟨l_0, l_1, l_2, l_3, l_4, l_5, l_6, l_8, l_9, l_10, l_12, l_16, l_40, l_100, l_160, l_200, l_256, l_640, l_2000, l_2048, l_m1⟩ := lits
  intro fu
  induction fu with
  | zero => intro s l1 l3 l4 h hc hm; exact absurd hm (Nat.not_lt_zero _)
  | succ n ih =>
    intro s l1 l3 l4 h hc hm
    rw [gX0_wrongPlaces_16]
    refine ok_if (fun _ => ?_) (fun _ => ?_)
    · exact ok_some (h.mono (by omega))
    · refine ok_ix (by omega) (by omega) (fun k1 kl1 ke1 => ?_)
      refine ok_cl (oJ7_fill_53178 (fun k => by first | exact hs_b (by assumption) (by decide) | exact hs_b2 (by assumption) (by decide) | exact hs_t (by assumption) (by decide) | exact hs_t1 (by assumption) | exact hs_q (by assumption) (by decide) | exact hs_w (by assumption) | exact hs_d (by decide) | exact hs_e (by decide)) (by omega) h) (fun _ s2 h2 => ?_)
      refine ok_cl (oX0_markNumbers (by omega) (by first | assumption | exact Or.inl rfl | exact Or.inr rfl | exact wt_T57 | exact hc.2 | exact ⟨_, _, wt_BC (by assumption), by assumption, rfl⟩ | exact ⟨_, _, by assumption, by assumption, rfl⟩ | exact ⟨11, _, Or.inl rfl, by assumption, rfl⟩ | exact ⟨40, _, Or.inr (Or.inl rfl), by assumption, rfl⟩ | exact Or.inr (Or.inl rfl) | exact Or.inr (Or.inr rfl)) h2) (fun _ s3 h3 => ?_)
      refine ok_cl (oX0_goToLast (by omega) (by first | assumption | exact Or.inl rfl | exact Or.inr rfl | exact wt_T57 | exact hc.2 | exact ⟨_, _, wt_BC (by assumption), by assumption, rfl⟩ | exact ⟨_, _, by assumption, by assumption, rfl⟩ | exact ⟨11, _, Or.inl rfl, by assumption, rfl⟩ | exact ⟨40, _, Or.inr (Or.inl rfl), by assumption, rfl⟩ | exact Or.inr (Or.inl rfl) | exact Or.inr (Or.inr rfl)) h3) (fun _ s4 h4 => ?_)
      have d5 := h4.fr (t := 11 + 17 + 2 * k1) ⟨11, k1, Or.inl rfl, by assumption, rfl⟩
      refine oX0_wrongPlaces_55 (by omega)  wt_N _ _ _ _ _ h4 ?_ (by unfold wt_N; omega) ?_
      · omega
      · intro s9 x1 h9
        have e6 := i_inc (x := l4) (by omega)
        exact ih _ _ _ _ h9 (by omega) (by omega)
theorem oX0_wrongPlaces {F : Nat} {z : wt_S} (hF : F ≤ 2000000000)  {s : wt_S} (h : CI F z s) : Ok (fun r s' => CI F z s') (gX0_wrongPlaces s) := by
  obtain ⟨l_0, l_1, l_2, l_3, l_4, l_5, l_6, l_8, l_9, l_10, l_12, l_16, l_40, l_100, l_160, l_200, l_256, l_640, l_2000, l_2048, l_m1⟩ := lits
  unfold gX0_wrongPlaces 
  refine oX0_wrongPlaces_16 (by omega)  wt_N _ _ _ _ h ?_ (by unfold wt_N; omega)
  · omega
theorem oX0_markWords_41 {F : Nat} {z : wt_S} (hF : F ≤ 2000000000) {t : Nat} (ht : wt_T t) {K18 : wt_S → Int32 → Option (Unit × wt_S)} : ∀ (fu : Nat) (s : wt_S) (l3 : Int32) (l4 : Int32) (l5 : Int32), CI F z s → (0 ≤ l5.toInt ∧ l5.toInt ≤ 10 ∧ l4.toInt ≤ 10) → (10 - l5.toInt).toNat < fu → (∀ (s9 : wt_S) , CI F z s9 → Ok (fun r s' => CI F z s') (K18 s9 (l3 + (-1)))) → Ok (fun r s' => CI F z s') (gX0_markWords_41 t K18 fu s l3 l4 l5) := by
  obtain ⟨l_0, l_1, l_2, l_3, l_4, l_5, l_6, l_8, l_9, l_10, l_12, l_16, l_40, l_100, l_160, l_200, l_256, l_640, l_2000, l_2048, l_m1⟩ := lits
  intro fu
  induction fu with
  | zero => intro s l3 l4 l5 h hc hm hK; exact absurd hm (Nat.not_lt_zero _)
  | succ n ih =>
    intro s l3 l4 l5 h hc hm hK
    have f6 := h.fr ht
    rw [gX0_markWords_41]
    refine ok_if (fun _ => ?_) (fun _ => ?_)
    · refine ok_if (fun _ => ?_) (fun _ => ?_)
      · exact hK _ h
      · refine ok_cl (oX8_toCaller (by omega) (by first | assumption | exact Or.inl rfl | exact Or.inr rfl | exact wt_T57 | exact hc.2 | exact ⟨_, _, wt_BC (by assumption), by assumption, rfl⟩ | exact ⟨_, _, by assumption, by assumption, rfl⟩ | exact ⟨11, _, Or.inl rfl, by assumption, rfl⟩ | exact ⟨40, _, Or.inr (Or.inl rfl), by assumption, rfl⟩ | exact Or.inr (Or.inl rfl) | exact Or.inr (Or.inr rfl)) h) (fun _ s1 h1 => ?_)
        have f2 := h1.fr ht
        exact hK _ h1
    · refine ok_cl (oX0_mark (by omega)  h) (fun _ s2 h3 => ?_)
      have f4 := h3.fr ht
      have e5 := i_inc (x := l5) (by omega)
      exact ih _ _ _ _ h3 (by omega) (by omega) hK
theorem oX0_markWords_18 {F : Nat} {z : wt_S} (hF : F ≤ 2000000000) {t : Nat} (ht : wt_T t) : ∀ (fu : Nat) (s : wt_S) (l3 : Int32), CI F z s → (l3.toInt ≤ 2000000000) → (l3.toInt).toNat < fu → Ok (fun r s' => CI F z s') (gX0_markWords_18 t fu s l3) := by
  obtain ⟨l_0, l_1, l_2, l_3, l_4, l_5, l_6, l_8, l_9, l_10, l_12, l_16, l_40, l_100, l_160, l_200, l_256, l_640, l_2000, l_2048, l_m1⟩ := lits
  intro fu
  induction fu with
  | zero => intro s l3 h hc hm; exact absurd hm (Nat.not_lt_zero _)
  | succ n ih =>
    intro s l3 h hc hm
    have f3 := h.fr ht
    rw [gX0_markWords_18]
    refine ok_if (fun _ => ?_) (fun _ => ?_)
    · exact ok_some (h.mono (by omega))
    · refine ok_cp (oX6_frameWords (by omega) (by first | assumption | exact Or.inl rfl | exact Or.inr rfl | exact wt_T57 | exact hc.2 | exact ⟨_, _, wt_BC (by assumption), by assumption, rfl⟩ | exact ⟨_, _, by assumption, by assumption, rfl⟩ | exact ⟨11, _, Or.inl rfl, by assumption, rfl⟩ | exact ⟨40, _, Or.inr (Or.inl rfl), by assumption, rfl⟩ | exact Or.inr (Or.inl rfl) | exact Or.inr (Or.inr rfl)) h) (fun v2 q1 => ?_)
      refine oX0_markWords_41 (by omega) (by first | assumption | exact Or.inl rfl | exact Or.inr rfl | exact wt_T57 | exact hc.2 | exact ⟨_, _, wt_BC (by assumption), by assumption, rfl⟩ | exact ⟨_, _, by assumption, by assumption, rfl⟩ | exact ⟨11, _, Or.inl rfl, by assumption, rfl⟩ | exact ⟨40, _, Or.inr (Or.inl rfl), by assumption, rfl⟩ | exact Or.inr (Or.inl rfl) | exact Or.inr (Or.inr rfl)) wt_N _ _ _ _ h ?_ (by unfold wt_N; omega) ?_
      · omega
      · intro s9  h9
        exact ih _ _ h9 (i_dn hc hm (by assumption)).1 (i_dn hc hm (by assumption)).2
theorem oX0_markWords {F : Nat} {z : wt_S} (hF : F ≤ 2000000000) {t : Nat} (ht : wt_T t) {s : wt_S} (h : CI F z s) : Ok (fun r s' => CI F z s') (gX0_markWords t s) := by
  obtain ⟨l_0, l_1, l_2, l_3, l_4, l_5, l_6, l_8, l_9, l_10, l_12, l_16, l_40, l_100, l_160, l_200, l_256, l_640, l_2000, l_2048, l_m1⟩ := lits
  have f3 := h.fr ht
  unfold gX0_markWords 
  refine ok_cl (oX8_toLast (by omega) (by first | assumption | exact Or.inl rfl | exact Or.inr rfl | exact wt_T57 | exact hc.2 | exact ⟨_, _, wt_BC (by assumption), by assumption, rfl⟩ | exact ⟨_, _, by assumption, by assumption, rfl⟩ | exact ⟨11, _, Or.inl rfl, by assumption, rfl⟩ | exact ⟨40, _, Or.inr (Or.inl rfl), by assumption, rfl⟩ | exact Or.inr (Or.inl rfl) | exact Or.inr (Or.inr rfl)) (by first | assumption | exact Or.inl rfl | exact Or.inr rfl | exact wt_T57 | exact hc.2 | exact ⟨_, _, wt_BC (by assumption), by assumption, rfl⟩ | exact ⟨_, _, by assumption, by assumption, rfl⟩ | exact ⟨11, _, Or.inl rfl, by assumption, rfl⟩ | exact ⟨40, _, Or.inr (Or.inl rfl), by assumption, rfl⟩ | exact Or.inr (Or.inl rfl) | exact Or.inr (Or.inr rfl)) h) (fun _ s1 h1 => ?_)
  have f2 := h1.fr ht
  refine oX0_markWords_18 (by omega) (by first | assumption | exact Or.inl rfl | exact Or.inr rfl | exact wt_T57 | exact hc.2 | exact ⟨_, _, wt_BC (by assumption), by assumption, rfl⟩ | exact ⟨_, _, by assumption, by assumption, rfl⟩ | exact ⟨11, _, Or.inl rfl, by assumption, rfl⟩ | exact ⟨40, _, Or.inr (Or.inl rfl), by assumption, rfl⟩ | exact Or.inr (Or.inl rfl) | exact Or.inr (Or.inr rfl)) wt_N _ _ h1 ?_ (by unfold wt_N; omega)
  · omega
theorem oX0_liesWell_94 {F : Nat} {z : wt_S} (hF : F ≤ 2000000000) {t : Nat} (ht : wt_T t) : ∀ (fu : Nat) (s : wt_S) (l3 : Int32) (l4 : Int32) (l6 : Int32) (l7 : Int32), CI F z s → ((0 ≤ l7.toInt ∧ l7.toInt ≤ 10 ∧ l4.toInt ≤ 10) ∧ (l6 = 0 ∨ l6 = 1)) → (10 - l7.toInt).toNat < fu → Ok (fun r s' => s' = s ∧ (r = 0 ∨ r = 1)) (gX0_liesWell_94 t fu s l3 l4 l6 l7) := by
  obtain ⟨l_0, l_1, l_2, l_3, l_4, l_5, l_6, l_8, l_9, l_10, l_12, l_16, l_40, l_100, l_160, l_200, l_256, l_640, l_2000, l_2048, l_m1⟩ := lits
  intro fu
  induction fu with
  | zero => intro s l3 l4 l6 l7 h hc hm; exact absurd hm (Nat.not_lt_zero _)
  | succ n ih =>
    intro s l3 l4 l6 l7 h hc hm
    rw [gX0_liesWell_94]
    unfold gX0_liesWell_122 gX0_liesWell_123
    refine ok_if (fun _ => ?_) (fun _ => ?_)
    · refine ok_rz (by first | assumption | exact hc.2 | exact Or.inl rfl | exact Or.inr rfl) ?_
      exact ok_some ⟨rfl, (by first | assumption | exact Or.inl rfl | exact Or.inr rfl | exact hc.2 | omega | exact ⟨Or.inl rfl, Or.inl rfl⟩ | exact ⟨Or.inr rfl, Or.inr (by omega)⟩ | exact ⟨by assumption, by assumption⟩)⟩
    · refine ok_if (fun _ => ?_) (fun _ => ?_)
      · have e1 := i_inc (x := l7) (by omega)
        exact ih _ _ _ _ _ h (by first | omega | exact ⟨by omega, by first | assumption | exact Or.inl rfl | exact Or.inr rfl | omega⟩ | exact ⟨by omega, hc.2⟩) (by omega)
      · refine ok_cp (oX0_marksAt (by omega)  h) (fun v2 q2 => ?_)
        refine ok_if (fun _ => ?_) (fun _ => ?_)
        · have e3 := i_inc (x := l7) (by omega)
          exact ih _ _ _ _ _ h (by first | omega | exact ⟨by omega, by first | assumption | exact Or.inl rfl | exact Or.inr rfl | omega⟩ | exact ⟨by omega, hc.2⟩) (by omega)
        · have e4 := i_inc (x := l7) (by omega)
          exact ih _ _ _ _ _ h (by first | omega | exact ⟨by omega, by first | assumption | exact Or.inl rfl | exact Or.inr rfl | omega⟩ | exact ⟨by omega, hc.2⟩) (by omega)
theorem oX0_liesWell {F : Nat} {z : wt_S} (hF : F ≤ 2000000000) {t : Nat} (ht : wt_T t) {s : wt_S} (h : CI F z s) : Ok (fun r s' => s' = s ∧ (r = 0 ∨ r = 1)) (gX0_liesWell t s) := by
  obtain ⟨l_0, l_1, l_2, l_3, l_4, l_5, l_6, l_8, l_9, l_10, l_12, l_16, l_40, l_100, l_160, l_200, l_256, l_640, l_2000, l_2048, l_m1⟩ := lits
  unfold gX0_liesWell gX0_liesWell_88 gX0_liesWell_89
  refine ok_cp (oX6_frameWords (by omega) (by first | assumption | exact Or.inl rfl | exact Or.inr rfl | exact wt_T57 | exact hc.2 | exact ⟨_, _, wt_BC (by assumption), by assumption, rfl⟩ | exact ⟨_, _, by assumption, by assumption, rfl⟩ | exact ⟨11, _, Or.inl rfl, by assumption, rfl⟩ | exact ⟨40, _, Or.inr (Or.inl rfl), by assumption, rfl⟩ | exact Or.inr (Or.inl rfl) | exact Or.inr (Or.inr rfl)) h) (fun v2 q1 => ?_)
  refine ok_cp (oX5_holding (by omega) (by first | assumption | exact Or.inl rfl | exact Or.inr rfl | exact wt_T57 | exact hc.2 | exact ⟨_, _, wt_BC (by assumption), by assumption, rfl⟩ | exact ⟨_, _, by assumption, by assumption, rfl⟩ | exact ⟨11, _, Or.inl rfl, by assumption, rfl⟩ | exact ⟨40, _, Or.inr (Or.inl rfl), by assumption, rfl⟩ | exact Or.inr (Or.inl rfl) | exact Or.inr (Or.inr rfl)) h) (fun v4 q2 => ?_)
  refine ok_cp (oX5_ownerOf (by omega) (by first | assumption | exact Or.inl rfl | exact Or.inr rfl | exact wt_T57 | exact hc.2 | exact ⟨_, _, wt_BC (by assumption), by assumption, rfl⟩ | exact ⟨_, _, by assumption, by assumption, rfl⟩ | exact ⟨11, _, Or.inl rfl, by assumption, rfl⟩ | exact ⟨40, _, Or.inr (Or.inl rfl), by assumption, rfl⟩ | exact Or.inr (Or.inl rfl) | exact Or.inr (Or.inr rfl)) h) (fun v6 q3 => ?_)
  refine ok_if (fun _ => ?_) (fun _ => ?_)
  · refine oX0_liesWell_94 (by omega) (by first | assumption | exact Or.inl rfl | exact Or.inr rfl | exact wt_T57 | exact hc.2 | exact ⟨_, _, wt_BC (by assumption), by assumption, rfl⟩ | exact ⟨_, _, by assumption, by assumption, rfl⟩ | exact ⟨11, _, Or.inl rfl, by assumption, rfl⟩ | exact ⟨40, _, Or.inr (Or.inl rfl), by assumption, rfl⟩ | exact Or.inr (Or.inl rfl) | exact Or.inr (Or.inr rfl)) wt_N _ _ _ _ _ h ?_ (by unfold wt_N; omega)
    · first | omega | exact ⟨by omega, by first | assumption | exact Or.inl rfl | exact Or.inr rfl | omega⟩ | exact ⟨by omega, by first | assumption | exact Or.inl rfl | exact Or.inr rfl | exact wt_T57 | exact hc.2 | exact ⟨_, _, wt_BC (by assumption), by assumption, rfl⟩ | exact ⟨_, _, by assumption, by assumption, rfl⟩ | exact ⟨11, _, Or.inl rfl, by assumption, rfl⟩ | exact ⟨40, _, Or.inr (Or.inl rfl), by assumption, rfl⟩ | exact Or.inr (Or.inl rfl) | exact Or.inr (Or.inr rfl)⟩
  · refine ok_cp (oX5_placeOf (by omega) (by first | assumption | exact Or.inl rfl | exact Or.inr rfl | exact wt_T57 | exact hc.2 | exact ⟨_, _, wt_BC (by assumption), by assumption, rfl⟩ | exact ⟨_, _, by assumption, by assumption, rfl⟩ | exact ⟨11, _, Or.inl rfl, by assumption, rfl⟩ | exact ⟨40, _, Or.inr (Or.inl rfl), by assumption, rfl⟩ | exact Or.inr (Or.inl rfl) | exact Or.inr (Or.inr rfl)) h) (fun v8 q4 => ?_)
    refine ok_if (fun _ => ?_) (fun _ => ?_)
    · refine oX0_liesWell_94 (by omega) (by first | assumption | exact Or.inl rfl | exact Or.inr rfl | exact wt_T57 | exact hc.2 | exact ⟨_, _, wt_BC (by assumption), by assumption, rfl⟩ | exact ⟨_, _, by assumption, by assumption, rfl⟩ | exact ⟨11, _, Or.inl rfl, by assumption, rfl⟩ | exact ⟨40, _, Or.inr (Or.inl rfl), by assumption, rfl⟩ | exact Or.inr (Or.inl rfl) | exact Or.inr (Or.inr rfl)) wt_N _ _ _ _ _ h ?_ (by unfold wt_N; omega)
      · first | omega | exact ⟨by omega, by first | assumption | exact Or.inl rfl | exact Or.inr rfl | omega⟩ | exact ⟨by omega, by first | assumption | exact Or.inl rfl | exact Or.inr rfl | exact wt_T57 | exact hc.2 | exact ⟨_, _, wt_BC (by assumption), by assumption, rfl⟩ | exact ⟨_, _, by assumption, by assumption, rfl⟩ | exact ⟨11, _, Or.inl rfl, by assumption, rfl⟩ | exact ⟨40, _, Or.inr (Or.inl rfl), by assumption, rfl⟩ | exact Or.inr (Or.inl rfl) | exact Or.inr (Or.inr rfl)⟩
    · refine ok_cp (oX5_endOf (by omega) (by first | assumption | exact Or.inl rfl | exact Or.inr rfl | exact wt_T57 | exact hc.2 | exact ⟨_, _, wt_BC (by assumption), by assumption, rfl⟩ | exact ⟨_, _, by assumption, by assumption, rfl⟩ | exact ⟨11, _, Or.inl rfl, by assumption, rfl⟩ | exact ⟨40, _, Or.inr (Or.inl rfl), by assumption, rfl⟩ | exact Or.inr (Or.inl rfl) | exact Or.inr (Or.inr rfl)) h) (fun v10 q5 => ?_)
      refine ok_if (fun _ => ?_) (fun _ => ?_)
      · refine oX0_liesWell_94 (by omega) (by first | assumption | exact Or.inl rfl | exact Or.inr rfl | exact wt_T57 | exact hc.2 | exact ⟨_, _, wt_BC (by assumption), by assumption, rfl⟩ | exact ⟨_, _, by assumption, by assumption, rfl⟩ | exact ⟨11, _, Or.inl rfl, by assumption, rfl⟩ | exact ⟨40, _, Or.inr (Or.inl rfl), by assumption, rfl⟩ | exact Or.inr (Or.inl rfl) | exact Or.inr (Or.inr rfl)) wt_N _ _ _ _ _ h ?_ (by unfold wt_N; omega)
        · first | omega | exact ⟨by omega, by first | assumption | exact Or.inl rfl | exact Or.inr rfl | omega⟩ | exact ⟨by omega, by first | assumption | exact Or.inl rfl | exact Or.inr rfl | exact wt_T57 | exact hc.2 | exact ⟨_, _, wt_BC (by assumption), by assumption, rfl⟩ | exact ⟨_, _, by assumption, by assumption, rfl⟩ | exact ⟨11, _, Or.inl rfl, by assumption, rfl⟩ | exact ⟨40, _, Or.inr (Or.inl rfl), by assumption, rfl⟩ | exact Or.inr (Or.inl rfl) | exact Or.inr (Or.inr rfl)⟩
      · refine oX0_liesWell_94 (by omega) (by first | assumption | exact Or.inl rfl | exact Or.inr rfl | exact wt_T57 | exact hc.2 | exact ⟨_, _, wt_BC (by assumption), by assumption, rfl⟩ | exact ⟨_, _, by assumption, by assumption, rfl⟩ | exact ⟨11, _, Or.inl rfl, by assumption, rfl⟩ | exact ⟨40, _, Or.inr (Or.inl rfl), by assumption, rfl⟩ | exact Or.inr (Or.inl rfl) | exact Or.inr (Or.inr rfl)) wt_N _ _ _ _ _ h ?_ (by unfold wt_N; omega)
        · first | omega | exact ⟨by omega, by first | assumption | exact Or.inl rfl | exact Or.inr rfl | omega⟩ | exact ⟨by omega, by first | assumption | exact Or.inl rfl | exact Or.inr rfl | exact wt_T57 | exact hc.2 | exact ⟨_, _, wt_BC (by assumption), by assumption, rfl⟩ | exact ⟨_, _, by assumption, by assumption, rfl⟩ | exact ⟨11, _, Or.inl rfl, by assumption, rfl⟩ | exact ⟨40, _, Or.inr (Or.inl rfl), by assumption, rfl⟩ | exact Or.inr (Or.inl rfl) | exact Or.inr (Or.inr rfl)⟩
theorem oX0_wrongFrames_90 {F : Nat} {z : wt_S} (hF : F ≤ 2000000000)  {K59 : wt_S → Int32 → Int32 → Int32 → Option (Int32 × wt_S)} : ∀ (fu : Nat) (s : wt_S) (l1 : Int32) (l3 : Int32) (l4 : Int32) (t5 : Nat) (l6 : Int32), CI F z s → (l6.toInt ≤ 2000000000 ∧ wt_T t5) → (l6.toInt).toNat < fu → (∀ (s9 : wt_S) (x1 : Int32), CI F z s9 → Ok (fun r s' => CI F z s') (K59 s9 x1 l3 (l4 + 1))) → Ok (fun r s' => CI F z s') (gX0_wrongFrames_90 K59 fu s l1 l3 l4 t5 l6) := by
  obtain ⟨l_0, l_1, l_2, l_3, l_4, l_5, l_6, l_8, l_9, l_10, l_12, l_16, l_40, l_100, l_160, l_200, l_256, l_640, l_2000, l_2048, l_m1⟩ := lits
  intro fu
  induction fu with
  | zero => intro s l1 l3 l4 t5 l6 h hc hm hK; exact absurd hm (Nat.not_lt_zero _)
  | succ n ih =>
    intro s l1 l3 l4 t5 l6 h hc hm hK
    rw [gX0_wrongFrames_90]
    unfold gX0_wrongFrames_110
    refine ok_if (fun _ => ?_) (fun _ => ?_)
    · exact hK _ _ h
    · refine ok_cp (oX0_liesWell (by omega) (by first | assumption | exact Or.inl rfl | exact Or.inr rfl | exact wt_T57 | exact hc.2 | exact ⟨_, _, wt_BC (by assumption), by assumption, rfl⟩ | exact ⟨_, _, by assumption, by assumption, rfl⟩ | exact ⟨11, _, Or.inl rfl, by assumption, rfl⟩ | exact ⟨40, _, Or.inr (Or.inl rfl), by assumption, rfl⟩ | exact Or.inr (Or.inl rfl) | exact Or.inr (Or.inr rfl)) h) (fun v2 q1 => ?_)
      refine ok_if (fun _ => ?_) (fun _ => ?_)
      · refine ok_if (fun _ => ?_) (fun _ => ?_)
        · obtain ⟨w2, ew2, e2⟩ := i_decw (x := l6) (by omega)
          rw [← ew2]
          exact ih _ _ _ _ _ _ h (by first | omega | exact ⟨by omega, by first | assumption | exact Or.inl rfl | exact Or.inr rfl | omega⟩ | exact ⟨by omega, hc.2⟩) (by omega) hK
        · refine ok_cl (oX8_toCaller (by omega) (by first | assumption | exact Or.inl rfl | exact Or.inr rfl | exact wt_T57 | exact hc.2 | exact ⟨_, _, wt_BC (by assumption), by assumption, rfl⟩ | exact ⟨_, _, by assumption, by assumption, rfl⟩ | exact ⟨11, _, Or.inl rfl, by assumption, rfl⟩ | exact ⟨40, _, Or.inr (Or.inl rfl), by assumption, rfl⟩ | exact Or.inr (Or.inl rfl) | exact Or.inr (Or.inr rfl)) h) (fun _ s1 h3 => ?_)
          obtain ⟨w4, ew4, e4⟩ := i_decw (x := l6) (by omega)
          rw [← ew4]
          exact ih _ _ _ _ _ _ h3 (by first | omega | exact ⟨by omega, by first | assumption | exact Or.inl rfl | exact Or.inr rfl | omega⟩ | exact ⟨by omega, hc.2⟩) (by omega) hK
      · refine ok_if (fun _ => ?_) (fun _ => ?_)
        · obtain ⟨w5, ew5, e5⟩ := i_decw (x := l6) (by omega)
          rw [← ew5]
          exact ih _ _ _ _ _ _ h (by first | omega | exact ⟨by omega, by first | assumption | exact Or.inl rfl | exact Or.inr rfl | omega⟩ | exact ⟨by omega, hc.2⟩) (by omega) hK
        · refine ok_cl (oX8_toCaller (by omega) (by first | assumption | exact Or.inl rfl | exact Or.inr rfl | exact wt_T57 | exact hc.2 | exact ⟨_, _, wt_BC (by assumption), by assumption, rfl⟩ | exact ⟨_, _, by assumption, by assumption, rfl⟩ | exact ⟨11, _, Or.inl rfl, by assumption, rfl⟩ | exact ⟨40, _, Or.inr (Or.inl rfl), by assumption, rfl⟩ | exact Or.inr (Or.inl rfl) | exact Or.inr (Or.inr rfl)) h) (fun _ s1 h6 => ?_)
          obtain ⟨w7, ew7, e7⟩ := i_decw (x := l6) (by omega)
          rw [← ew7]
          exact ih _ _ _ _ _ _ h6 (by first | omega | exact ⟨by omega, by first | assumption | exact Or.inl rfl | exact Or.inr rfl | omega⟩ | exact ⟨by omega, hc.2⟩) (by omega) hK
theorem oX0_wrongFrames_59 {F : Nat} {z : wt_S} (hF : F ≤ 2000000000)  : ∀ (fu : Nat) (s : wt_S) (l1 : Int32) (l3 : Int32) (l4 : Int32), CI F z s → (l3.toInt = 6 ∧ 0 ≤ l4.toInt ∧ l4.toInt ≤ 6) → (6 - l4.toInt).toNat < fu → Ok (fun r s' => CI F z s') (gX0_wrongFrames_59  fu s l1 l3 l4) := by
  obtain ⟨l_0, l_1, l_2, l_3, l_4, l_5, l_6, l_8, l_9, l_10, l_12, l_16, l_40, l_100, l_160, l_200, l_256, l_640, l_2000, l_2048, l_m1⟩ := lits
  intro fu
  induction fu with
  | zero => intro s l1 l3 l4 h hc hm; exact absurd hm (Nat.not_lt_zero _)
  | succ n ih =>
    intro s l1 l3 l4 h hc hm
    rw [gX0_wrongFrames_59]
    refine ok_if (fun _ => ?_) (fun _ => ?_)
    · exact ok_some (h.mono (by omega))
    · refine ok_ix (by omega) (by omega) (fun k1 kl1 ke1 => ?_)
      refine ok_cl (oX8_toLast (by omega) (by first | assumption | exact Or.inl rfl | exact Or.inr rfl | exact wt_T57 | exact hc.2 | exact ⟨_, _, wt_BC (by assumption), by assumption, rfl⟩ | exact ⟨_, _, by assumption, by assumption, rfl⟩ | exact ⟨11, _, Or.inl rfl, by assumption, rfl⟩ | exact ⟨40, _, Or.inr (Or.inl rfl), by assumption, rfl⟩ | exact Or.inr (Or.inl rfl) | exact Or.inr (Or.inr rfl)) (by first | assumption | exact Or.inl rfl | exact Or.inr rfl | exact wt_T57 | exact hc.2 | exact ⟨_, _, wt_BC (by assumption), by assumption, rfl⟩ | exact ⟨_, _, by assumption, by assumption, rfl⟩ | exact ⟨11, _, Or.inl rfl, by assumption, rfl⟩ | exact ⟨40, _, Or.inr (Or.inl rfl), by assumption, rfl⟩ | exact Or.inr (Or.inl rfl) | exact Or.inr (Or.inr rfl)) h) (fun _ s2 h2 => ?_)
      have d3 := h2.fr (t := 11 + 17 + 2 * k1) ⟨11, k1, Or.inl rfl, by assumption, rfl⟩
      refine oX0_wrongFrames_90 (by omega)  wt_N _ _ _ _ _ _ h2 ?_ (by unfold wt_N; omega) ?_
      · first | omega | exact ⟨by omega, by first | assumption | exact Or.inl rfl | exact Or.inr rfl | omega⟩ | exact ⟨by omega, by first | assumption | exact Or.inl rfl | exact Or.inr rfl | exact wt_T57 | exact hc.2 | exact ⟨_, _, wt_BC (by assumption), by assumption, rfl⟩ | exact ⟨_, _, by assumption, by assumption, rfl⟩ | exact ⟨11, _, Or.inl rfl, by assumption, rfl⟩ | exact ⟨40, _, Or.inr (Or.inl rfl), by assumption, rfl⟩ | exact Or.inr (Or.inl rfl) | exact Or.inr (Or.inr rfl)⟩
      · intro s9 x1 h9
        have e4 := i_inc (x := l4) (by omega)
        exact ih _ _ _ _ h9 (by omega) (by omega)
theorem oX0_wrongFrames_21 {F : Nat} {z : wt_S} (hF : F ≤ 2000000000)  : ∀ (fu : Nat) (s : wt_S) (l2 : Int32) (l3 : Int32), CI F z s → (l2.toInt = 6 ∧ 0 ≤ l3.toInt ∧ l3.toInt ≤ 6) → (6 - l3.toInt).toNat < fu → Ok (fun r s' => CI F z s') (gX0_wrongFrames_21  fu s l2 l3) := by
  obtain ⟨l_0, l_1, l_2, l_3, l_4, l_5, l_6, l_8, l_9, l_10, l_12, l_16, l_40, l_100, l_160, l_200, l_256, l_640, l_2000, l_2048, l_m1⟩ := lits
  intro fu
  induction fu with
  | zero => intro s l2 l3 h hc hm; exact absurd hm (Nat.not_lt_zero _)
  | succ n ih =>
    intro s l2 l3 h hc hm
    rw [gX0_wrongFrames_21]
    refine ok_if (fun _ => ?_) (fun _ => ?_)
    · refine oX0_wrongFrames_59 (by omega)  wt_N _ _ _ _ h ?_ (by unfold wt_N; omega)
      · omega
    · refine ok_ix (by omega) (by omega) (fun k1 kl1 ke1 => ?_)
      refine ok_cl (oX0_markWords (by omega) (by first | assumption | exact Or.inl rfl | exact Or.inr rfl | exact wt_T57 | exact hc.2 | exact ⟨_, _, wt_BC (by assumption), by assumption, rfl⟩ | exact ⟨_, _, by assumption, by assumption, rfl⟩ | exact ⟨11, _, Or.inl rfl, by assumption, rfl⟩ | exact ⟨40, _, Or.inr (Or.inl rfl), by assumption, rfl⟩ | exact Or.inr (Or.inl rfl) | exact Or.inr (Or.inr rfl)) h) (fun _ s2 h2 => ?_)
      have e3 := i_inc (x := l3) (by omega)
      exact ih _ _ _ h2 (by omega) (by omega)
theorem oX0_wrongFrames {F : Nat} {z : wt_S} (hF : F ≤ 2000000000)  {s : wt_S} (h : CI F z s) : Ok (fun r s' => CI F z s') (gX0_wrongFrames s) := by
  obtain ⟨l_0, l_1, l_2, l_3, l_4, l_5, l_6, l_8, l_9, l_10, l_12, l_16, l_40, l_100, l_160, l_200, l_256, l_640, l_2000, l_2048, l_m1⟩ := lits
  unfold gX0_wrongFrames 
  refine ok_cl (oJ7_fill_53178 (fun k => by first | exact hs_b (by assumption) (by decide) | exact hs_b2 (by assumption) (by decide) | exact hs_t (by assumption) (by decide) | exact hs_t1 (by assumption) | exact hs_q (by assumption) (by decide) | exact hs_w (by assumption) | exact hs_d (by decide) | exact hs_e (by decide)) (by omega) h) (fun _ s1 h1 => ?_)
  refine oX0_wrongFrames_21 (by omega)  wt_N _ _ _ h1 ?_ (by unfold wt_N; omega)
  · omega
theorem oX10_never {F : Nat} {z : wt_S} (hF : F ≤ 2000000000)  {s : wt_S} (h : CI F z s) {i1 : Int32} : Ok (fun r s' => CI F z s') (gX10_never s i1) := by
  obtain ⟨l_0, l_1, l_2, l_3, l_4, l_5, l_6, l_8, l_9, l_10, l_12, l_16, l_40, l_100, l_160, l_200, l_256, l_640, l_2000, l_2048, l_m1⟩ := lits
  unfold gX10_never 
  refine ok_if (fun _ => ?_) (fun _ => ?_)
  · exact ok_some (h.mono (by omega))
  · refine ok_if (fun _ => ?_) (fun _ => ?_)
    · refine ok_if (fun _ => ?_) (fun _ => ?_)
      · refine ok_if (fun _ => ?_) (fun _ => ?_)
        · refine ok_cl (oX0_wrongFrames (by omega)  h) (fun v2 s1 h1 => ?_)
          exact ok_some (h1.mono (by omega))
        · refine ok_cl (oX0_wrongPlaces (by omega)  h) (fun v4 s3 h2 => ?_)
          exact ok_some (h2.mono (by omega))
      · exact ok_some (h.mono (by omega))
    · exact ok_some (h.mono (by omega))
theorem oX10_count {F : Nat} {z : wt_S} (hF : F ≤ 2000000000)  {s : wt_S} (h : CI F z s) {i1 : Int32} : Ok (fun r s' => s' = s ∧ (True)) (gX10_count s i1) := by
  obtain ⟨l_0, l_1, l_2, l_3, l_4, l_5, l_6, l_8, l_9, l_10, l_12, l_16, l_40, l_100, l_160, l_200, l_256, l_640, l_2000, l_2048, l_m1⟩ := lits
  unfold gX10_count 
  refine ok_if (fun _ => ?_) (fun _ => ?_)
  · exact ok_some ⟨rfl, trivial⟩
  · refine ok_if (fun _ => ?_) (fun _ => ?_)
    · exact ok_some ⟨rfl, trivial⟩
    · refine ok_ix (by omega) (by omega) (fun k1 kl1 ke1 => ?_)
      exact ok_some ⟨rfl, trivial⟩
theorem oX5_greatestGap_4 {F : Nat} {z : wt_S} (hF : F ≤ 2000000000) {b : Nat} (hb : wt_B b) : ∀ (fu : Nat) (s : wt_S) (l1 : Int32) (l2 : Int32), CI F z s → (0 ≤ l2.toInt ∧ l2.toInt ≤ 257) → (257 - l2.toInt).toNat < fu → Ok (fun r s' => s' = s ∧ (True)) (gX5_greatestGap_4 b fu s l1 l2) := by
  obtain ⟨l_0, l_1, l_2, l_3, l_4, l_5, l_6, l_8, l_9, l_10, l_12, l_16, l_40, l_100, l_160, l_200, l_256, l_640, l_2000, l_2048, l_m1⟩ := lits
  have hbC : wt_C b := wt_BC hb
  intro fu
  induction fu with
  | zero => intro s l1 l2 h hc hm; exact absurd hm (Nat.not_lt_zero _)
  | succ n ih =>
    intro s l1 l2 h hc hm
    have n5 := h.nm hbC
    rw [gX5_greatestGap_4]
    refine ok_if (fun _ => ?_) (fun _ => ?_)
    · exact ok_some ⟨rfl, trivial⟩
    · refine ok_cp (oX5_gapTo (by omega) (by first | assumption | exact Or.inl rfl | exact Or.inr rfl | exact wt_T57 | exact hc.2 | exact ⟨_, _, wt_BC (by assumption), by assumption, rfl⟩ | exact ⟨_, _, by assumption, by assumption, rfl⟩ | exact ⟨11, _, Or.inl rfl, by assumption, rfl⟩ | exact ⟨40, _, Or.inr (Or.inl rfl), by assumption, rfl⟩ | exact Or.inr (Or.inl rfl) | exact Or.inr (Or.inr rfl)) h) (fun v2 q1 => ?_)
      refine ok_cp (oX5_gapFrom (by omega) (by first | assumption | exact Or.inl rfl | exact Or.inr rfl | exact wt_T57 | exact hc.2 | exact ⟨_, _, wt_BC (by assumption), by assumption, rfl⟩ | exact ⟨_, _, by assumption, by assumption, rfl⟩ | exact ⟨11, _, Or.inl rfl, by assumption, rfl⟩ | exact ⟨40, _, Or.inr (Or.inl rfl), by assumption, rfl⟩ | exact Or.inr (Or.inl rfl) | exact Or.inr (Or.inr rfl)) h) (fun v4 q2 => ?_)
      refine ok_cp (oJ9_max_7cf53 (by omega)  h) (fun v6 q3 => ?_)
      have e4 := i_inc (x := l2) (by omega)
      exact ih _ _ _ h (by omega) (by omega)
theorem oX5_greatestGap {F : Nat} {z : wt_S} (hF : F ≤ 2000000000) {b : Nat} (hb : wt_B b) {s : wt_S} (h : CI F z s) : Ok (fun r s' => s' = s ∧ (True)) (gX5_greatestGap b s) := by
  obtain ⟨l_0, l_1, l_2, l_3, l_4, l_5, l_6, l_8, l_9, l_10, l_12, l_16, l_40, l_100, l_160, l_200, l_256, l_640, l_2000, l_2048, l_m1⟩ := lits
  have hbC : wt_C b := wt_BC hb
  have n1 := h.nm hbC
  unfold gX5_greatestGap 
  refine oX5_greatestGap_4 (by omega) (by first | assumption | exact Or.inl rfl | exact Or.inr rfl | exact wt_T57 | exact hc.2 | exact ⟨_, _, wt_BC (by assumption), by assumption, rfl⟩ | exact ⟨_, _, by assumption, by assumption, rfl⟩ | exact ⟨11, _, Or.inl rfl, by assumption, rfl⟩ | exact ⟨40, _, Or.inr (Or.inl rfl), by assumption, rfl⟩ | exact Or.inr (Or.inl rfl) | exact Or.inr (Or.inr rfl)) wt_N _ _ _ h ?_ (by unfold wt_N; omega)
  · omega
theorem oX9_sidesTaken_13 {F : Nat} {z : wt_S} (hF : F ≤ 2000000000) {b : Nat} (hb : wt_B b) : ∀ (fu : Nat) (s : wt_S) (l1 : Int32) (l3 : Int32) (l4 : Int32), CI F z s → (l3.toInt = 6 ∧ 0 ≤ l4.toInt ∧ l4.toInt ≤ 6) → (6 - l4.toInt).toNat < fu → Ok (fun r s' => s' = s ∧ (True)) (gX9_sidesTaken_13 b fu s l1 l3 l4) := by
  obtain ⟨l_0, l_1, l_2, l_3, l_4, l_5, l_6, l_8, l_9, l_10, l_12, l_16, l_40, l_100, l_160, l_200, l_256, l_640, l_2000, l_2048, l_m1⟩ := lits
  have hbC : wt_C b := wt_BC hb
  intro fu
  induction fu with
  | zero => intro s l1 l3 l4 h hc hm; exact absurd hm (Nat.not_lt_zero _)
  | succ n ih =>
    intro s l1 l3 l4 h hc hm
    rw [gX9_sidesTaken_13]
    unfold gX9_sidesTaken_40
    refine ok_if (fun _ => ?_) (fun _ => ?_)
    · exact ok_some ⟨rfl, trivial⟩
    · refine ok_ix (by omega) (by omega) (fun k1 kl1 ke1 => ?_)
      refine ok_if (fun _ => ?_) (fun _ => ?_)
      · have e2 := i_inc (x := l4) (by omega)
        exact ih _ _ _ _ h (by omega) (by omega)
      · have e3 := i_inc (x := l4) (by omega)
        exact ih _ _ _ _ h (by omega) (by omega)
theorem oX9_sidesTaken {F : Nat} {z : wt_S} (hF : F ≤ 2000000000) {b : Nat} (hb : wt_B b) {s : wt_S} (h : CI F z s) : Ok (fun r s' => s' = s ∧ (True)) (gX9_sidesTaken b s) := by
  obtain ⟨l_0, l_1, l_2, l_3, l_4, l_5, l_6, l_8, l_9, l_10, l_12, l_16, l_40, l_100, l_160, l_200, l_256, l_640, l_2000, l_2048, l_m1⟩ := lits
  have hbC : wt_C b := wt_BC hb
  unfold gX9_sidesTaken 
  refine oX9_sidesTaken_13 (by omega) (by first | assumption | exact Or.inl rfl | exact Or.inr rfl | exact wt_T57 | exact hc.2 | exact ⟨_, _, wt_BC (by assumption), by assumption, rfl⟩ | exact ⟨_, _, by assumption, by assumption, rfl⟩ | exact ⟨11, _, Or.inl rfl, by assumption, rfl⟩ | exact ⟨40, _, Or.inr (Or.inl rfl), by assumption, rfl⟩ | exact Or.inr (Or.inl rfl) | exact Or.inr (Or.inr rfl)) wt_N _ _ _ _ h ?_ (by unfold wt_N; omega)
  · omega
theorem oX6_toldFunctions_13 {F : Nat} {z : wt_S} (hF : F ≤ 2000000000) {q : Nat} (hq : wt_Q q) : ∀ (fu : Nat) (s : wt_S) (l1 : Int32) (l3 : Int32) (l4 : Int32), CI F z s → (l3.toInt = 10 ∧ 0 ≤ l4.toInt ∧ l4.toInt ≤ 10) → (10 - l4.toInt).toNat < fu → Ok (fun r s' => s' = s ∧ (True)) (gX6_toldFunctions_13 q fu s l1 l3 l4) := by
  obtain ⟨l_0, l_1, l_2, l_3, l_4, l_5, l_6, l_8, l_9, l_10, l_12, l_16, l_40, l_100, l_160, l_200, l_256, l_640, l_2000, l_2048, l_m1⟩ := lits
  intro fu
  induction fu with
  | zero => intro s l1 l3 l4 h hc hm; exact absurd hm (Nat.not_lt_zero _)
  | succ n ih =>
    intro s l1 l3 l4 h hc hm
    rw [gX6_toldFunctions_13]
    unfold gX6_toldFunctions_36
    refine ok_if (fun _ => ?_) (fun _ => ?_)
    · exact ok_some ⟨rfl, trivial⟩
    · refine ok_ix (by omega) (by omega) (fun k1 kl1 ke1 => ?_)
      have f1 := h.ln hq kl1
      refine ok_if (fun _ => ?_) (fun _ => ?_)
      · have e2 := i_inc (x := l4) (by omega)
        exact ih _ _ _ _ h (by omega) (by omega)
      · have e3 := i_inc (x := l4) (by omega)
        exact ih _ _ _ _ h (by omega) (by omega)
theorem oX6_toldFunctions {F : Nat} {z : wt_S} (hF : F ≤ 2000000000) {q : Nat} (hq : wt_Q q) {s : wt_S} (h : CI F z s) : Ok (fun r s' => s' = s ∧ (True)) (gX6_toldFunctions q s) := by
  obtain ⟨l_0, l_1, l_2, l_3, l_4, l_5, l_6, l_8, l_9, l_10, l_12, l_16, l_40, l_100, l_160, l_200, l_256, l_640, l_2000, l_2048, l_m1⟩ := lits
  unfold gX6_toldFunctions 
  refine oX6_toldFunctions_13 (by omega) (by first | assumption | exact Or.inl rfl | exact Or.inr rfl | exact wt_T57 | exact hc.2 | exact ⟨_, _, wt_BC (by assumption), by assumption, rfl⟩ | exact ⟨_, _, by assumption, by assumption, rfl⟩ | exact ⟨11, _, Or.inl rfl, by assumption, rfl⟩ | exact ⟨40, _, Or.inr (Or.inl rfl), by assumption, rfl⟩ | exact Or.inr (Or.inl rfl) | exact Or.inr (Or.inr rfl)) wt_N _ _ _ _ h ?_ (by unfold wt_N; omega)
  · omega
theorem oX6_toldLines_13 {F : Nat} {z : wt_S} (hF : F ≤ 2000000000) {q : Nat} (hq : wt_Q q) : ∀ (fu : Nat) (s : wt_S) (l1 : Int32) (l3 : Int32) (l4 : Int32), CI F z s → (l3.toInt = 10 ∧ 0 ≤ l4.toInt ∧ l4.toInt ≤ 10) → (10 - l4.toInt).toNat < fu → Ok (fun r s' => s' = s ∧ (True)) (gX6_toldLines_13 q fu s l1 l3 l4) := by
  obtain ⟨l_0, l_1, l_2, l_3, l_4, l_5, l_6, l_8, l_9, l_10, l_12, l_16, l_40, l_100, l_160, l_200, l_256, l_640, l_2000, l_2048, l_m1⟩ := lits
  intro fu
  induction fu with
  | zero => intro s l1 l3 l4 h hc hm; exact absurd hm (Nat.not_lt_zero _)
  | succ n ih =>
    intro s l1 l3 l4 h hc hm
    rw [gX6_toldLines_13]
    refine ok_if (fun _ => ?_) (fun _ => ?_)
    · exact ok_some ⟨rfl, trivial⟩
    · refine ok_ix (by omega) (by omega) (fun k1 kl1 ke1 => ?_)
      have f1 := h.ln hq kl1
      have e2 := i_inc (x := l4) (by omega)
      exact ih _ _ _ _ h (by omega) (by omega)
theorem oX6_toldLines {F : Nat} {z : wt_S} (hF : F ≤ 2000000000) {q : Nat} (hq : wt_Q q) {s : wt_S} (h : CI F z s) : Ok (fun r s' => s' = s ∧ (True)) (gX6_toldLines q s) := by
  obtain ⟨l_0, l_1, l_2, l_3, l_4, l_5, l_6, l_8, l_9, l_10, l_12, l_16, l_40, l_100, l_160, l_200, l_256, l_640, l_2000, l_2048, l_m1⟩ := lits
  unfold gX6_toldLines 
  refine oX6_toldLines_13 (by omega) (by first | assumption | exact Or.inl rfl | exact Or.inr rfl | exact wt_T57 | exact hc.2 | exact ⟨_, _, wt_BC (by assumption), by assumption, rfl⟩ | exact ⟨_, _, by assumption, by assumption, rfl⟩ | exact ⟨11, _, Or.inl rfl, by assumption, rfl⟩ | exact ⟨40, _, Or.inr (Or.inl rfl), by assumption, rfl⟩ | exact Or.inr (Or.inl rfl) | exact Or.inr (Or.inr rfl)) wt_N _ _ _ _ h ?_ (by unfold wt_N; omega)
  · omega
theorem oX10_look {F : Nat} {z : wt_S} (hF : F ≤ 2000000000)  {s : wt_S} (h : CI F z s) {i1 : Int32} : Ok (fun r s' => s' = s ∧ (True)) (gX10_look s i1) := by
  obtain ⟨l_0, l_1, l_2, l_3, l_4, l_5, l_6, l_8, l_9, l_10, l_12, l_16, l_40, l_100, l_160, l_200, l_256, l_640, l_2000, l_2048, l_m1⟩ := lits
  unfold gX10_look gX10_look_20
  refine ok_if (fun _ => ?_) (fun _ => ?_)
  · refine ok_if (fun _ => ?_) (fun _ => ?_)
    · exact ok_some ⟨rfl, trivial⟩
    · refine ok_if (fun _ => ?_) (fun _ => ?_)
      · exact ok_some ⟨rfl, trivial⟩
      · refine ok_if (fun _ => ?_) (fun _ => ?_)
        · exact ok_some ⟨rfl, trivial⟩
        · refine ok_if (fun _ => ?_) (fun _ => ?_)
          · refine ok_cp (oX5_greatestGap (by omega) (by first | assumption | exact Or.inl rfl | exact Or.inr rfl | exact wt_T57 | exact hc.2 | exact ⟨_, _, wt_BC (by assumption), by assumption, rfl⟩ | exact ⟨_, _, by assumption, by assumption, rfl⟩ | exact ⟨11, _, Or.inl rfl, by assumption, rfl⟩ | exact ⟨40, _, Or.inr (Or.inl rfl), by assumption, rfl⟩ | exact Or.inr (Or.inl rfl) | exact Or.inr (Or.inr rfl)) h) (fun v2 q1 => ?_)
            exact ok_some ⟨rfl, trivial⟩
          · refine ok_if (fun _ => ?_) (fun _ => ?_)
            · refine ok_cp (oX9_sidesTaken (by omega) (by first | assumption | exact Or.inl rfl | exact Or.inr rfl | exact wt_T57 | exact hc.2 | exact ⟨_, _, wt_BC (by assumption), by assumption, rfl⟩ | exact ⟨_, _, by assumption, by assumption, rfl⟩ | exact ⟨11, _, Or.inl rfl, by assumption, rfl⟩ | exact ⟨40, _, Or.inr (Or.inl rfl), by assumption, rfl⟩ | exact Or.inr (Or.inl rfl) | exact Or.inr (Or.inr rfl)) h) (fun v4 q2 => ?_)
              exact ok_some ⟨rfl, trivial⟩
            · refine ok_if (fun _ => ?_) (fun _ => ?_)
              · refine ok_cp (oX9_tasksThatAre (by omega) (by first | assumption | exact Or.inl rfl | exact Or.inr rfl | exact wt_T57 | exact hc.2 | exact ⟨_, _, wt_BC (by assumption), by assumption, rfl⟩ | exact ⟨_, _, by assumption, by assumption, rfl⟩ | exact ⟨11, _, Or.inl rfl, by assumption, rfl⟩ | exact ⟨40, _, Or.inr (Or.inl rfl), by assumption, rfl⟩ | exact Or.inr (Or.inl rfl) | exact Or.inr (Or.inr rfl)) h) (fun v6 q3 => ?_)
                exact ok_some ⟨rfl, trivial⟩
              · refine ok_if (fun _ => ?_) (fun _ => ?_)
                · refine ok_cp (oX9_tasksThatAre (by omega) (by first | assumption | exact Or.inl rfl | exact Or.inr rfl | exact wt_T57 | exact hc.2 | exact ⟨_, _, wt_BC (by assumption), by assumption, rfl⟩ | exact ⟨_, _, by assumption, by assumption, rfl⟩ | exact ⟨11, _, Or.inl rfl, by assumption, rfl⟩ | exact ⟨40, _, Or.inr (Or.inl rfl), by assumption, rfl⟩ | exact Or.inr (Or.inl rfl) | exact Or.inr (Or.inr rfl)) h) (fun v8 q4 => ?_)
                  exact ok_some ⟨rfl, trivial⟩
                · refine ok_if (fun _ => ?_) (fun _ => ?_)
                  · refine ok_cp (oX6_toldFunctions (by omega) (by first | assumption | exact Or.inl rfl | exact Or.inr rfl | exact wt_T57 | exact hc.2 | exact ⟨_, _, wt_BC (by assumption), by assumption, rfl⟩ | exact ⟨_, _, by assumption, by assumption, rfl⟩ | exact ⟨11, _, Or.inl rfl, by assumption, rfl⟩ | exact ⟨40, _, Or.inr (Or.inl rfl), by assumption, rfl⟩ | exact Or.inr (Or.inl rfl) | exact Or.inr (Or.inr rfl)) h) (fun v10 q5 => ?_)
                    exact ok_some ⟨rfl, trivial⟩
                  · refine ok_if (fun _ => ?_) (fun _ => ?_)
                    · refine ok_cp (oX6_toldLines (by omega) (by first | assumption | exact Or.inl rfl | exact Or.inr rfl | exact wt_T57 | exact hc.2 | exact ⟨_, _, wt_BC (by assumption), by assumption, rfl⟩ | exact ⟨_, _, by assumption, by assumption, rfl⟩ | exact ⟨11, _, Or.inl rfl, by assumption, rfl⟩ | exact ⟨40, _, Or.inr (Or.inl rfl), by assumption, rfl⟩ | exact Or.inr (Or.inl rfl) | exact Or.inr (Or.inr rfl)) h) (fun v12 q6 => ?_)
                      exact ok_some ⟨rfl, trivial⟩
                    · refine ok_if (fun _ => ?_) (fun _ => ?_)
                      · exact ok_some ⟨rfl, trivial⟩
                      · exfalso
                        omega
  · refine ok_if (fun _ => ?_) (fun _ => ?_)
    · refine ok_if (fun _ => ?_) (fun _ => ?_)
      · exact ok_some ⟨rfl, trivial⟩
      · refine ok_if (fun _ => ?_) (fun _ => ?_)
        · exact ok_some ⟨rfl, trivial⟩
        · refine ok_if (fun _ => ?_) (fun _ => ?_)
          · exact ok_some ⟨rfl, trivial⟩
          · refine ok_if (fun _ => ?_) (fun _ => ?_)
            · refine ok_cp (oX5_greatestGap (by omega) (by first | assumption | exact Or.inl rfl | exact Or.inr rfl | exact wt_T57 | exact hc.2 | exact ⟨_, _, wt_BC (by assumption), by assumption, rfl⟩ | exact ⟨_, _, by assumption, by assumption, rfl⟩ | exact ⟨11, _, Or.inl rfl, by assumption, rfl⟩ | exact ⟨40, _, Or.inr (Or.inl rfl), by assumption, rfl⟩ | exact Or.inr (Or.inl rfl) | exact Or.inr (Or.inr rfl)) h) (fun v2 q7 => ?_)
              exact ok_some ⟨rfl, trivial⟩
            · refine ok_if (fun _ => ?_) (fun _ => ?_)
              · refine ok_cp (oX9_sidesTaken (by omega) (by first | assumption | exact Or.inl rfl | exact Or.inr rfl | exact wt_T57 | exact hc.2 | exact ⟨_, _, wt_BC (by assumption), by assumption, rfl⟩ | exact ⟨_, _, by assumption, by assumption, rfl⟩ | exact ⟨11, _, Or.inl rfl, by assumption, rfl⟩ | exact ⟨40, _, Or.inr (Or.inl rfl), by assumption, rfl⟩ | exact Or.inr (Or.inl rfl) | exact Or.inr (Or.inr rfl)) h) (fun v4 q8 => ?_)
                exact ok_some ⟨rfl, trivial⟩
              · refine ok_if (fun _ => ?_) (fun _ => ?_)
                · refine ok_cp (oX9_tasksThatAre (by omega) (by first | assumption | exact Or.inl rfl | exact Or.inr rfl | exact wt_T57 | exact hc.2 | exact ⟨_, _, wt_BC (by assumption), by assumption, rfl⟩ | exact ⟨_, _, by assumption, by assumption, rfl⟩ | exact ⟨11, _, Or.inl rfl, by assumption, rfl⟩ | exact ⟨40, _, Or.inr (Or.inl rfl), by assumption, rfl⟩ | exact Or.inr (Or.inl rfl) | exact Or.inr (Or.inr rfl)) h) (fun v6 q9 => ?_)
                  exact ok_some ⟨rfl, trivial⟩
                · refine ok_if (fun _ => ?_) (fun _ => ?_)
                  · refine ok_cp (oX9_tasksThatAre (by omega) (by first | assumption | exact Or.inl rfl | exact Or.inr rfl | exact wt_T57 | exact hc.2 | exact ⟨_, _, wt_BC (by assumption), by assumption, rfl⟩ | exact ⟨_, _, by assumption, by assumption, rfl⟩ | exact ⟨11, _, Or.inl rfl, by assumption, rfl⟩ | exact ⟨40, _, Or.inr (Or.inl rfl), by assumption, rfl⟩ | exact Or.inr (Or.inl rfl) | exact Or.inr (Or.inr rfl)) h) (fun v8 q10 => ?_)
                    exact ok_some ⟨rfl, trivial⟩
                  · refine ok_if (fun _ => ?_) (fun _ => ?_)
                    · refine ok_cp (oX6_toldFunctions (by omega) (by first | assumption | exact Or.inl rfl | exact Or.inr rfl | exact wt_T57 | exact hc.2 | exact ⟨_, _, wt_BC (by assumption), by assumption, rfl⟩ | exact ⟨_, _, by assumption, by assumption, rfl⟩ | exact ⟨11, _, Or.inl rfl, by assumption, rfl⟩ | exact ⟨40, _, Or.inr (Or.inl rfl), by assumption, rfl⟩ | exact Or.inr (Or.inl rfl) | exact Or.inr (Or.inr rfl)) h) (fun v10 q11 => ?_)
                      exact ok_some ⟨rfl, trivial⟩
                    · refine ok_if (fun _ => ?_) (fun _ => ?_)
                      · refine ok_cp (oX6_toldLines (by omega) (by first | assumption | exact Or.inl rfl | exact Or.inr rfl | exact wt_T57 | exact hc.2 | exact ⟨_, _, wt_BC (by assumption), by assumption, rfl⟩ | exact ⟨_, _, by assumption, by assumption, rfl⟩ | exact ⟨11, _, Or.inl rfl, by assumption, rfl⟩ | exact ⟨40, _, Or.inr (Or.inl rfl), by assumption, rfl⟩ | exact Or.inr (Or.inl rfl) | exact Or.inr (Or.inr rfl)) h) (fun v12 q12 => ?_)
                        exact ok_some ⟨rfl, trivial⟩
                      · refine ok_if (fun _ => ?_) (fun _ => ?_)
                        · exact ok_some ⟨rfl, trivial⟩
                        · exfalso
                          omega
    · refine ok_ix (by omega) (by omega) (fun k1 kl13 ke13 => ?_)
      exact ok_some ⟨rfl, trivial⟩
end
