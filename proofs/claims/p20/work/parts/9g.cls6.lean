section
/-! ===== the class, method by method, 6 (written by wip/p25/ok.py) ===== -/
theorem i_decw {x : Int32} (h : -2147483648 < x.toInt) : ∃ w, w = x + (-1) ∧ w.toInt = x.toInt - 1 := ⟨_, rfl, i_dec h⟩
theorem oX8_toFrame_12 {F : Nat} {z : wt_S} (hF : F ≤ 2000000000) {b : Nat} (hb : wt_B b) {t : Nat} (ht : wt_T t) : ∀ (fu : Nat) (s : wt_S) (l2 : Int32) (l3 : Int32), CI F z s → (0 ≤ l2.toInt ∧ l3.toInt ≤ 2000000000) → (l3.toInt - l2.toInt).toNat < fu → Ok (fun r s' => CI F z s') (gX8_toFrame_12 b t fu s l2 l3) := by
  obtain ⟨l_0, l_1, l_2, l_3, l_4, l_5, l_6, l_8, l_9, l_10, l_12, l_16, l_40, l_100, l_160, l_200, l_256, l_640, l_2000, l_2048, l_m1⟩ := lits
  have hbC : wt_C b := wt_BC hb
  intro fu
  induction fu with
  | zero => intro s l2 l3 h hc hm; exact absurd hm (Nat.not_lt_zero _)
  | succ n ih =>
    intro s l2 l3 h hc hm
    have f4 := h.fr ht
    rw [gX8_toFrame_12]
    refine ok_if (fun _ => ?_) (fun _ => ?_)
    · exact ok_some (h.mono (by omega))
    · refine ok_cl (oX8_toCaller (by omega) (by first | assumption | exact Or.inl rfl | exact Or.inr rfl | exact wt_T57 | exact hc.2 | exact ⟨_, _, wt_BC (by assumption), by assumption, rfl⟩ | exact ⟨_, _, by assumption, by assumption, rfl⟩ | exact ⟨11, _, Or.inl rfl, by assumption, rfl⟩ | exact ⟨40, _, Or.inr (Or.inl rfl), by assumption, rfl⟩ | exact Or.inr (Or.inl rfl) | exact Or.inr (Or.inr rfl)) h) (fun _ s1 h1 => ?_)
      have f2 := h1.fr ht
      obtain ⟨w3, ew3, e3⟩ := i_decw (x := l3) (by omega)
      rw [← ew3]
      exact ih _ _ _ h1 (by omega) (by omega)
theorem oX8_toFrame {F : Nat} {z : wt_S} (hF : F ≤ 2000000000) {b : Nat} (hb : wt_B b) {t : Nat} (ht : wt_T t) {s : wt_S} (h : CI F z s) {i1 : Int32} (hi : 0 ≤ i1.toInt) : Ok (fun r s' => CI F z s') (gX8_toFrame b t s i1) := by
  obtain ⟨l_0, l_1, l_2, l_3, l_4, l_5, l_6, l_8, l_9, l_10, l_12, l_16, l_40, l_100, l_160, l_200, l_256, l_640, l_2000, l_2048, l_m1⟩ := lits
  have hbC : wt_C b := wt_BC hb
  have f4 := h.fr ht
  unfold gX8_toFrame 
  refine ok_cl (oX8_toLast (by omega) (by first | assumption | exact Or.inl rfl | exact Or.inr rfl | exact wt_T57 | exact hc.2 | exact ⟨_, _, wt_BC (by assumption), by assumption, rfl⟩ | exact ⟨_, _, by assumption, by assumption, rfl⟩ | exact ⟨11, _, Or.inl rfl, by assumption, rfl⟩ | exact ⟨40, _, Or.inr (Or.inl rfl), by assumption, rfl⟩ | exact Or.inr (Or.inl rfl) | exact Or.inr (Or.inr rfl)) (by first | assumption | exact Or.inl rfl | exact Or.inr rfl | exact wt_T57 | exact hc.2 | exact ⟨_, _, wt_BC (by assumption), by assumption, rfl⟩ | exact ⟨_, _, by assumption, by assumption, rfl⟩ | exact ⟨11, _, Or.inl rfl, by assumption, rfl⟩ | exact ⟨40, _, Or.inr (Or.inl rfl), by assumption, rfl⟩ | exact Or.inr (Or.inl rfl) | exact Or.inr (Or.inr rfl)) h) (fun _ s1 h1 => ?_)
  have f2 := h1.fr ht
  have d3 := i_dec2 (x := (s1 t 4)) (by omega)
  refine oX8_toFrame_12 (by omega) (by first | assumption | exact Or.inl rfl | exact Or.inr rfl | exact wt_T57 | exact hc.2 | exact ⟨_, _, wt_BC (by assumption), by assumption, rfl⟩ | exact ⟨_, _, by assumption, by assumption, rfl⟩ | exact ⟨11, _, Or.inl rfl, by assumption, rfl⟩ | exact ⟨40, _, Or.inr (Or.inl rfl), by assumption, rfl⟩ | exact Or.inr (Or.inl rfl) | exact Or.inr (Or.inr rfl)) (by first | assumption | exact Or.inl rfl | exact Or.inr rfl | exact wt_T57 | exact hc.2 | exact ⟨_, _, wt_BC (by assumption), by assumption, rfl⟩ | exact ⟨_, _, by assumption, by assumption, rfl⟩ | exact ⟨11, _, Or.inl rfl, by assumption, rfl⟩ | exact ⟨40, _, Or.inr (Or.inl rfl), by assumption, rfl⟩ | exact Or.inr (Or.inl rfl) | exact Or.inr (Or.inr rfl)) wt_N _ _ _ h1 ?_ (by unfold wt_N; omega)
  · omega
theorem oX5_holding {F : Nat} {z : wt_S} (hF : F ≤ 2000000000) {b : Nat} (hb : wt_B b) {s : wt_S} (h : CI F z s) {i1 : Int32} : Ok (fun r s' => s' = s ∧ (True)) (gX5_holding b s i1) := by
  obtain ⟨l_0, l_1, l_2, l_3, l_4, l_5, l_6, l_8, l_9, l_10, l_12, l_16, l_40, l_100, l_160, l_200, l_256, l_640, l_2000, l_2048, l_m1⟩ := lits
  have hbC : wt_C b := wt_BC hb
  have n3 := h.nm hbC
  unfold gX5_holding 
  refine ok_cp (oX5_rankOf (by omega) (by first | assumption | exact Or.inl rfl | exact Or.inr rfl | exact wt_T57 | exact hc.2 | exact ⟨_, _, wt_BC (by assumption), by assumption, rfl⟩ | exact ⟨_, _, by assumption, by assumption, rfl⟩ | exact ⟨11, _, Or.inl rfl, by assumption, rfl⟩ | exact ⟨40, _, Or.inr (Or.inl rfl), by assumption, rfl⟩ | exact Or.inr (Or.inl rfl) | exact Or.inr (Or.inr rfl)) h) (fun v2 q1 => ?_)
  refine ok_cp (oX5_idAt (by omega) (by first | assumption | exact Or.inl rfl | exact Or.inr rfl | exact wt_T57 | exact hc.2 | exact ⟨_, _, wt_BC (by assumption), by assumption, rfl⟩ | exact ⟨_, _, by assumption, by assumption, rfl⟩ | exact ⟨11, _, Or.inl rfl, by assumption, rfl⟩ | exact ⟨40, _, Or.inr (Or.inl rfl), by assumption, rfl⟩ | exact Or.inr (Or.inl rfl) | exact Or.inr (Or.inr rfl)) h) (fun v4 q2 => ?_)
  exact ok_some ⟨rfl, trivial⟩
theorem oX10_frame {F : Nat} {z : wt_S} (hF : F ≤ 2000000000)  {s : wt_S} (h : CI F z s) {i1 i2 i3 : Int32} : Ok (fun r s' => CI F z s') (gX10_frame s i1 i2 i3) := by
  obtain ⟨l_0, l_1, l_2, l_3, l_4, l_5, l_6, l_8, l_9, l_10, l_12, l_16, l_40, l_100, l_160, l_200, l_256, l_640, l_2000, l_2048, l_m1⟩ := lits
  unfold gX10_frame 
  refine ok_cp (oX10_hasFrame (by omega)  h) (fun v2 ⟨q1, g1⟩ => ?_)
  refine ok_if (fun z2 => ?_) (fun _ => ?_)
  · have gg2 := g1.resolve_left z2
    refine ok_ix (by omega) (by omega) (fun k3 kl3 ke3 => ?_)
    refine ok_cl (oX8_toFrame (by omega) (by first | assumption | exact Or.inl rfl | exact Or.inr rfl | exact wt_T57 | exact hc.2 | exact ⟨_, _, wt_BC (by assumption), by assumption, rfl⟩ | exact ⟨_, _, by assumption, by assumption, rfl⟩ | exact ⟨11, _, Or.inl rfl, by assumption, rfl⟩ | exact ⟨40, _, Or.inr (Or.inl rfl), by assumption, rfl⟩ | exact Or.inr (Or.inl rfl) | exact Or.inr (Or.inr rfl)) (by first | assumption | exact Or.inl rfl | exact Or.inr rfl | exact wt_T57 | exact hc.2 | exact ⟨_, _, wt_BC (by assumption), by assumption, rfl⟩ | exact ⟨_, _, by assumption, by assumption, rfl⟩ | exact ⟨11, _, Or.inl rfl, by assumption, rfl⟩ | exact ⟨40, _, Or.inr (Or.inl rfl), by assumption, rfl⟩ | exact Or.inr (Or.inl rfl) | exact Or.inr (Or.inr rfl)) h (by omega)) (fun _ s4 h4 => ?_)
    refine ok_cp (oX3_word (by omega) (by first | assumption | exact Or.inl rfl | exact Or.inr rfl | exact wt_T57 | exact hc.2 | exact ⟨_, _, wt_BC (by assumption), by assumption, rfl⟩ | exact ⟨_, _, by assumption, by assumption, rfl⟩ | exact ⟨11, _, Or.inl rfl, by assumption, rfl⟩ | exact ⟨40, _, Or.inr (Or.inl rfl), by assumption, rfl⟩ | exact Or.inr (Or.inl rfl) | exact Or.inr (Or.inr rfl)) h4) (fun v6 q5 => ?_)
    refine ok_if (fun _ => ?_) (fun _ => ?_)
    · exact ok_some (h4.mono (by omega))
    · refine ok_if (fun _ => ?_) (fun _ => ?_)
      · exact ok_some (h4.mono (by omega))
      · refine ok_if (fun _ => ?_) (fun _ => ?_)
        · exact ok_some (h4.mono (by omega))
        · refine ok_if (fun _ => ?_) (fun _ => ?_)
          · refine ok_cp (oX5_holding (by omega) (by first | assumption | exact Or.inl rfl | exact Or.inr rfl | exact wt_T57 | exact hc.2 | exact ⟨_, _, wt_BC (by assumption), by assumption, rfl⟩ | exact ⟨_, _, by assumption, by assumption, rfl⟩ | exact ⟨11, _, Or.inl rfl, by assumption, rfl⟩ | exact ⟨40, _, Or.inr (Or.inl rfl), by assumption, rfl⟩ | exact Or.inr (Or.inl rfl) | exact Or.inr (Or.inr rfl)) h4) (fun v8 q6 => ?_)
            refine ok_cp (oX5_indexOf (by omega) (by first | assumption | exact Or.inl rfl | exact Or.inr rfl | exact wt_T57 | exact hc.2 | exact ⟨_, _, wt_BC (by assumption), by assumption, rfl⟩ | exact ⟨_, _, by assumption, by assumption, rfl⟩ | exact ⟨11, _, Or.inl rfl, by assumption, rfl⟩ | exact ⟨40, _, Or.inr (Or.inl rfl), by assumption, rfl⟩ | exact Or.inr (Or.inl rfl) | exact Or.inr (Or.inr rfl)) h4) (fun v10 q7 => ?_)
            exact ok_some (h4.mono (by omega))
          · refine ok_if (fun _ => ?_) (fun _ => ?_)
            · refine ok_if (fun _ => ?_) (fun _ => ?_)
              · exact ok_some (h4.mono (by omega))
              · exact ok_some (h4.mono (by omega))
            · refine ok_if (fun _ => ?_) (fun _ => ?_)
              · exact ok_some (h4.mono (by omega))
              · refine ok_if (fun _ => ?_) (fun _ => ?_)
                · refine ok_if (fun _ => ?_) (fun _ => ?_)
                  · exact ok_some (h4.mono (by omega))
                  · exact ok_some (h4.mono (by omega))
                · refine ok_if (fun _ => ?_) (fun _ => ?_)
                  · refine ok_cp (oX3_word (by omega) (by first | assumption | exact Or.inl rfl | exact Or.inr rfl | exact wt_T57 | exact hc.2 | exact ⟨_, _, wt_BC (by assumption), by assumption, rfl⟩ | exact ⟨_, _, by assumption, by assumption, rfl⟩ | exact ⟨11, _, Or.inl rfl, by assumption, rfl⟩ | exact ⟨40, _, Or.inr (Or.inl rfl), by assumption, rfl⟩ | exact Or.inr (Or.inl rfl) | exact Or.inr (Or.inr rfl)) h4) (fun v12 q8 => ?_)
                    exact ok_some (h4.mono (by omega))
                  · refine ok_if (fun _ => ?_) (fun _ => ?_)
                    · exact ok_some (h4.mono (by omega))
                    · exfalso
                      omega
  · exact ok_some (h.mono (by omega))
theorem oX8_toPlace_13 {F : Nat} {z : wt_S} (hF : F ≤ 2000000000) {b : Nat} (hb : wt_B b) {t : Nat} (ht : wt_T t) : ∀ (fu : Nat) (s : wt_S) (l2 : Int32) (l4 : Int32), CI F z s → (l4.toInt ≤ 2000000000) → (l4.toInt + 1).toNat < fu → Ok (fun r s' => CI F z s') (gX8_toPlace_13 b t fu s l2 l4) := by
  obtain ⟨l_0, l_1, l_2, l_3, l_4, l_5, l_6, l_8, l_9, l_10, l_12, l_16, l_40, l_100, l_160, l_200, l_256, l_640, l_2000, l_2048, l_m1⟩ := lits
  have hbC : wt_C b := wt_BC hb
  intro fu
  induction fu with
  | zero => intro s l2 l4 h hc hm; exact absurd hm (Nat.not_lt_zero _)
  | succ n ih =>
    intro s l2 l4 h hc hm
    have f10 := h.fr ht
    rw [gX8_toPlace_13]
    unfold gX8_toPlace_46
    refine ok_if (fun _ => ?_) (fun _ => ?_)
    · exact ok_some (h.mono (by omega))
    · refine ok_if (fun _ => ?_) (fun _ => ?_)
      · refine ok_if (fun _ => ?_) (fun _ => ?_)
        · obtain ⟨w1, ew1, e1⟩ := i_decw (x := l4) (by omega)
          rw [← ew1]
          exact ih _ _ _ h (by omega) (by omega)
        · refine ok_cl (oX8_toCaller (by omega) (by first | assumption | exact Or.inl rfl | exact Or.inr rfl | exact wt_T57 | exact hc.2 | exact ⟨_, _, wt_BC (by assumption), by assumption, rfl⟩ | exact ⟨_, _, by assumption, by assumption, rfl⟩ | exact ⟨11, _, Or.inl rfl, by assumption, rfl⟩ | exact ⟨40, _, Or.inr (Or.inl rfl), by assumption, rfl⟩ | exact Or.inr (Or.inl rfl) | exact Or.inr (Or.inr rfl)) h) (fun _ s1 h2 => ?_)
          have f3 := h2.fr ht
          obtain ⟨w4, ew4, e4⟩ := i_decw (x := l4) (by omega)
          rw [← ew4]
          exact ih _ _ _ h2 (by omega) (by omega)
      · refine ok_cp (oX6_frameWords (by omega) (by first | assumption | exact Or.inl rfl | exact Or.inr rfl | exact wt_T57 | exact hc.2 | exact ⟨_, _, wt_BC (by assumption), by assumption, rfl⟩ | exact ⟨_, _, by assumption, by assumption, rfl⟩ | exact ⟨11, _, Or.inl rfl, by assumption, rfl⟩ | exact ⟨40, _, Or.inr (Or.inl rfl), by assumption, rfl⟩ | exact Or.inr (Or.inl rfl) | exact Or.inr (Or.inr rfl)) h) (fun v2 q5 => ?_)
        refine ok_if (fun _ => ?_) (fun _ => ?_)
        · refine ok_if (fun _ => ?_) (fun _ => ?_)
          · obtain ⟨w6, ew6, e6⟩ := i_decw (x := l4) (by omega)
            rw [← ew6]
            exact ih _ _ _ h (by omega) (by omega)
          · refine ok_cl (oX8_toCaller (by omega) (by first | assumption | exact Or.inl rfl | exact Or.inr rfl | exact wt_T57 | exact hc.2 | exact ⟨_, _, wt_BC (by assumption), by assumption, rfl⟩ | exact ⟨_, _, by assumption, by assumption, rfl⟩ | exact ⟨11, _, Or.inl rfl, by assumption, rfl⟩ | exact ⟨40, _, Or.inr (Or.inl rfl), by assumption, rfl⟩ | exact Or.inr (Or.inl rfl) | exact Or.inr (Or.inr rfl)) h) (fun _ s1 h7 => ?_)
            have f8 := h7.fr ht
            obtain ⟨w9, ew9, e9⟩ := i_decw (x := l4) (by omega)
            rw [← ew9]
            exact ih _ _ _ h7 (by omega) (by omega)
        · exact ok_some (h.mono (by omega))
theorem oX8_toPlace {F : Nat} {z : wt_S} (hF : F ≤ 2000000000) {b : Nat} (hb : wt_B b) {t : Nat} (ht : wt_T t) {s : wt_S} (h : CI F z s) {i1 : Int32} : Ok (fun r s' => CI F z s') (gX8_toPlace b t s i1) := by
  obtain ⟨l_0, l_1, l_2, l_3, l_4, l_5, l_6, l_8, l_9, l_10, l_12, l_16, l_40, l_100, l_160, l_200, l_256, l_640, l_2000, l_2048, l_m1⟩ := lits
  have hbC : wt_C b := wt_BC hb
  have f4 := h.fr ht
  unfold gX8_toPlace 
  refine ok_cl (oX8_toLast (by omega) (by first | assumption | exact Or.inl rfl | exact Or.inr rfl | exact wt_T57 | exact hc.2 | exact ⟨_, _, wt_BC (by assumption), by assumption, rfl⟩ | exact ⟨_, _, by assumption, by assumption, rfl⟩ | exact ⟨11, _, Or.inl rfl, by assumption, rfl⟩ | exact ⟨40, _, Or.inr (Or.inl rfl), by assumption, rfl⟩ | exact Or.inr (Or.inl rfl) | exact Or.inr (Or.inr rfl)) (by first | assumption | exact Or.inl rfl | exact Or.inr rfl | exact wt_T57 | exact hc.2 | exact ⟨_, _, wt_BC (by assumption), by assumption, rfl⟩ | exact ⟨_, _, by assumption, by assumption, rfl⟩ | exact ⟨11, _, Or.inl rfl, by assumption, rfl⟩ | exact ⟨40, _, Or.inr (Or.inl rfl), by assumption, rfl⟩ | exact Or.inr (Or.inl rfl) | exact Or.inr (Or.inr rfl)) h) (fun _ s1 h1 => ?_)
  have f2 := h1.fr ht
  have d3 := i_dec2 (x := (s1 t 4)) (by omega)
  refine oX8_toPlace_13 (by omega) (by first | assumption | exact Or.inl rfl | exact Or.inr rfl | exact wt_T57 | exact hc.2 | exact ⟨_, _, wt_BC (by assumption), by assumption, rfl⟩ | exact ⟨_, _, by assumption, by assumption, rfl⟩ | exact ⟨11, _, Or.inl rfl, by assumption, rfl⟩ | exact ⟨40, _, Or.inr (Or.inl rfl), by assumption, rfl⟩ | exact Or.inr (Or.inl rfl) | exact Or.inr (Or.inr rfl)) (by first | assumption | exact Or.inl rfl | exact Or.inr rfl | exact wt_T57 | exact hc.2 | exact ⟨_, _, wt_BC (by assumption), by assumption, rfl⟩ | exact ⟨_, _, by assumption, by assumption, rfl⟩ | exact ⟨11, _, Or.inl rfl, by assumption, rfl⟩ | exact ⟨40, _, Or.inr (Or.inl rfl), by assumption, rfl⟩ | exact Or.inr (Or.inl rfl) | exact Or.inr (Or.inr rfl)) wt_N _ _ _ h1 ?_ (by unfold wt_N; omega)
  · omega
theorem oX10_slot {F : Nat} {z : wt_S} (hF : F ≤ 2000000000)  {s : wt_S} (h : CI F z s) {i1 i2 i3 i4 : Int32} : Ok (fun r s' => CI F z s') (gX10_slot s i1 i2 i3 i4) := by
  obtain ⟨l_0, l_1, l_2, l_3, l_4, l_5, l_6, l_8, l_9, l_10, l_12, l_16, l_40, l_100, l_160, l_200, l_256, l_640, l_2000, l_2048, l_m1⟩ := lits
  unfold gX10_slot gX10_slot_182 gX10_slot_183 gX10_slot_20
  refine ok_cp (oX10_hasFrame (by omega)  h) (fun v2 ⟨q1, g1⟩ => ?_)
  refine ok_if (fun _ => ?_) (fun z2 => ?_)
  · exact ok_some (h.mono (by omega))
  · have gg2 := g1.resolve_left z2
    refine ok_if (fun _ => ?_) (fun _ => ?_)
    · exact ok_some (h.mono (by omega))
    · refine ok_if (fun _ => ?_) (fun _ => ?_)
      · refine ok_ix (by omega) (by omega) (fun k3 kl3 ke3 => ?_)
        refine ok_cl (oX8_toFrame (by omega) (by first | assumption | exact Or.inl rfl | exact Or.inr rfl | exact wt_T57 | exact hc.2 | exact ⟨_, _, wt_BC (by assumption), by assumption, rfl⟩ | exact ⟨_, _, by assumption, by assumption, rfl⟩ | exact ⟨11, _, Or.inl rfl, by assumption, rfl⟩ | exact ⟨40, _, Or.inr (Or.inl rfl), by assumption, rfl⟩ | exact Or.inr (Or.inl rfl) | exact Or.inr (Or.inr rfl)) (by first | assumption | exact Or.inl rfl | exact Or.inr rfl | exact wt_T57 | exact hc.2 | exact ⟨_, _, wt_BC (by assumption), by assumption, rfl⟩ | exact ⟨_, _, by assumption, by assumption, rfl⟩ | exact ⟨11, _, Or.inl rfl, by assumption, rfl⟩ | exact ⟨40, _, Or.inr (Or.inl rfl), by assumption, rfl⟩ | exact Or.inr (Or.inl rfl) | exact Or.inr (Or.inr rfl)) h (by omega)) (fun _ s4 h4 => ?_)
        refine ok_cp (oX6_hasSlot (by omega) (by first | assumption | exact Or.inl rfl | exact Or.inr rfl | exact wt_T57 | exact hc.2 | exact ⟨_, _, wt_BC (by assumption), by assumption, rfl⟩ | exact ⟨_, _, by assumption, by assumption, rfl⟩ | exact ⟨11, _, Or.inl rfl, by assumption, rfl⟩ | exact ⟨40, _, Or.inr (Or.inl rfl), by assumption, rfl⟩ | exact Or.inr (Or.inl rfl) | exact Or.inr (Or.inr rfl)) h4) (fun v6 q5 => ?_)
        refine ok_if (fun _ => ?_) (fun _ => ?_)
        · refine ok_cp (oX6_isPointer (by omega) (by first | assumption | exact Or.inl rfl | exact Or.inr rfl | exact wt_T57 | exact hc.2 | exact ⟨_, _, wt_BC (by assumption), by assumption, rfl⟩ | exact ⟨_, _, by assumption, by assumption, rfl⟩ | exact ⟨11, _, Or.inl rfl, by assumption, rfl⟩ | exact ⟨40, _, Or.inr (Or.inl rfl), by assumption, rfl⟩ | exact Or.inr (Or.inl rfl) | exact Or.inr (Or.inr rfl)) h4) (fun v8 q6 => ?_)
          refine ok_cp (oX3_word (by omega) (by first | assumption | exact Or.inl rfl | exact Or.inr rfl | exact wt_T57 | exact hc.2 | exact ⟨_, _, wt_BC (by assumption), by assumption, rfl⟩ | exact ⟨_, _, by assumption, by assumption, rfl⟩ | exact ⟨11, _, Or.inl rfl, by assumption, rfl⟩ | exact ⟨40, _, Or.inr (Or.inl rfl), by assumption, rfl⟩ | exact Or.inr (Or.inl rfl) | exact Or.inr (Or.inr rfl)) h4) (fun v10 q7 => ?_)
          refine ok_if (fun _ => ?_) (fun _ => ?_)
          · refine ok_if (fun _ => ?_) (fun _ => ?_)
            · refine ok_if (fun _ => ?_) (fun _ => ?_)
              · refine ok_if (fun _ => ?_) (fun _ => ?_)
                · exact ok_some (h4.mono (by omega))
                · refine ok_if (fun _ => ?_) (fun _ => ?_)
                  · exact ok_some (h4.mono (by omega))
                  · exact ok_some (h4.mono (by omega))
              · refine ok_if (fun _ => ?_) (fun _ => ?_)
                · refine ok_if (fun _ => ?_) (fun _ => ?_)
                  · exact ok_some (h4.mono (by omega))
                  · refine ok_if (fun _ => ?_) (fun _ => ?_)
                    · exact ok_some (h4.mono (by omega))
                    · exact ok_some (h4.mono (by omega))
                · refine ok_ix (by omega) (by omega) (fun k11 kl8 ke8 => ?_)
                  refine ok_cl (oX8_toPlace (by omega) (by first | assumption | exact Or.inl rfl | exact Or.inr rfl | exact wt_T57 | exact hc.2 | exact ⟨_, _, wt_BC (by assumption), by assumption, rfl⟩ | exact ⟨_, _, by assumption, by assumption, rfl⟩ | exact ⟨11, _, Or.inl rfl, by assumption, rfl⟩ | exact ⟨40, _, Or.inr (Or.inl rfl), by assumption, rfl⟩ | exact Or.inr (Or.inl rfl) | exact Or.inr (Or.inr rfl)) (by first | assumption | exact Or.inl rfl | exact Or.inr rfl | exact wt_T57 | exact hc.2 | exact ⟨_, _, wt_BC (by assumption), by assumption, rfl⟩ | exact ⟨_, _, by assumption, by assumption, rfl⟩ | exact ⟨11, _, Or.inl rfl, by assumption, rfl⟩ | exact ⟨40, _, Or.inr (Or.inl rfl), by assumption, rfl⟩ | exact Or.inr (Or.inl rfl) | exact Or.inr (Or.inr rfl)) h4) (fun v13 s12 h9 => ?_)
                  refine ok_if (fun _ => ?_) (fun _ => ?_)
                  · exact ok_some (h9.mono (by omega))
                  · refine ok_if (fun _ => ?_) (fun _ => ?_)
                    · exact ok_some (h9.mono (by omega))
                    · exact ok_some (h9.mono (by omega))
            · exact ok_some (h4.mono (by omega))
          · refine ok_if (fun _ => ?_) (fun _ => ?_)
            · exact ok_some (h4.mono (by omega))
            · exact ok_some (h4.mono (by omega))
        · exact ok_some (h4.mono (by omega))
      · exact ok_some (h.mono (by omega))
theorem oX9_pieceOf_52 {F : Nat} {z : wt_S} (hF : F ≤ 2000000000) {b : Nat} (hb : wt_B b) {t : Nat} (ht : wt_T t) : ∀ (fu : Nat) (s : wt_S) (l2 : Int32) (l4 : Int32) (l5 : Int32), CI F z s → (0 ≤ l2.toInt ∧ l5.toInt ≤ 256) → (l5.toInt - l2.toInt).toNat < fu → Ok (fun r s' => s' = s ∧ (True)) (gX9_pieceOf_52 b t fu s l2 l4 l5) := by
  obtain ⟨l_0, l_1, l_2, l_3, l_4, l_5, l_6, l_8, l_9, l_10, l_12, l_16, l_40, l_100, l_160, l_200, l_256, l_640, l_2000, l_2048, l_m1⟩ := lits
  have hbC : wt_C b := wt_BC hb
  intro fu
  induction fu with
  | zero => intro s l2 l4 l5 h hc hm; exact absurd hm (Nat.not_lt_zero _)
  | succ n ih =>
    intro s l2 l4 l5 h hc hm
    rw [gX9_pieceOf_52]
    refine ok_if (fun _ => ?_) (fun _ => ?_)
    · exact ok_some ⟨rfl, trivial⟩
    · refine ok_cp (oX5_belowOf (by omega) (by first | assumption | exact Or.inl rfl | exact Or.inr rfl | exact wt_T57 | exact hc.2 | exact ⟨_, _, wt_BC (by assumption), by assumption, rfl⟩ | exact ⟨_, _, by assumption, by assumption, rfl⟩ | exact ⟨11, _, Or.inl rfl, by assumption, rfl⟩ | exact ⟨40, _, Or.inr (Or.inl rfl), by assumption, rfl⟩ | exact Or.inr (Or.inl rfl) | exact Or.inr (Or.inr rfl)) h) (fun v2 q1 => ?_)
      obtain ⟨w2, ew2, e2⟩ := i_decw (x := l5) (by omega)
      rw [← ew2]
      exact ih _ _ _ _ h (by omega) (by omega)
theorem oX9_pieceOf {F : Nat} {z : wt_S} (hF : F ≤ 2000000000) {b : Nat} (hb : wt_B b) {t : Nat} (ht : wt_T t) {s : wt_S} (h : CI F z s) {i1 : Int32} (hi : 0 ≤ i1.toInt) : Ok (fun r s' => s' = s ∧ (True)) (gX9_pieceOf b t s i1) := by
  obtain ⟨l_0, l_1, l_2, l_3, l_4, l_5, l_6, l_8, l_9, l_10, l_12, l_16, l_40, l_100, l_160, l_200, l_256, l_640, l_2000, l_2048, l_m1⟩ := lits
  have hbC : wt_C b := wt_BC hb
  unfold gX9_pieceOf 
  refine ok_if (fun _ => ?_) (fun _ => ?_)
  · refine ok_cp (oX5_indexOf (by omega) (by first | assumption | exact Or.inl rfl | exact Or.inr rfl | exact wt_T57 | exact hc.2 | exact ⟨_, _, wt_BC (by assumption), by assumption, rfl⟩ | exact ⟨_, _, by assumption, by assumption, rfl⟩ | exact ⟨11, _, Or.inl rfl, by assumption, rfl⟩ | exact ⟨40, _, Or.inr (Or.inl rfl), by assumption, rfl⟩ | exact Or.inr (Or.inl rfl) | exact Or.inr (Or.inr rfl)) h) (fun v2 q1 => ?_)
    refine ok_if (fun _ => ?_) (fun _ => ?_)
    · refine oX9_pieceOf_52 (by omega) (by first | assumption | exact Or.inl rfl | exact Or.inr rfl | exact wt_T57 | exact hc.2 | exact ⟨_, _, wt_BC (by assumption), by assumption, rfl⟩ | exact ⟨_, _, by assumption, by assumption, rfl⟩ | exact ⟨11, _, Or.inl rfl, by assumption, rfl⟩ | exact ⟨40, _, Or.inr (Or.inl rfl), by assumption, rfl⟩ | exact Or.inr (Or.inl rfl) | exact Or.inr (Or.inr rfl)) (by first | assumption | exact Or.inl rfl | exact Or.inr rfl | exact wt_T57 | exact hc.2 | exact ⟨_, _, wt_BC (by assumption), by assumption, rfl⟩ | exact ⟨_, _, by assumption, by assumption, rfl⟩ | exact ⟨11, _, Or.inl rfl, by assumption, rfl⟩ | exact ⟨40, _, Or.inr (Or.inl rfl), by assumption, rfl⟩ | exact Or.inr (Or.inl rfl) | exact Or.inr (Or.inr rfl)) wt_N _ _ _ _ h ?_ (by unfold wt_N; omega)
      · omega
    · refine ok_if (fun _ => ?_) (fun _ => ?_)
      · exact ok_some ⟨rfl, trivial⟩
      · exact ok_some ⟨rfl, trivial⟩
  · exact ok_some ⟨rfl, trivial⟩
theorem oX10_piece {F : Nat} {z : wt_S} (hF : F ≤ 2000000000)  {s : wt_S} (h : CI F z s) {i1 i2 i3 : Int32} : Ok (fun r s' => s' = s ∧ (True)) (gX10_piece s i1 i2 i3) := by
  obtain ⟨l_0, l_1, l_2, l_3, l_4, l_5, l_6, l_8, l_9, l_10, l_12, l_16, l_40, l_100, l_160, l_200, l_256, l_640, l_2000, l_2048, l_m1⟩ := lits
  unfold gX10_piece 
  refine ok_cp (oX10_isTask (by omega)  h) (fun v2 ⟨q1, g1⟩ => ?_)
  refine ok_if (fun _ => ?_) (fun z2 => ?_)
  · exact ok_some ⟨rfl, trivial⟩
  · have gg2 := g1.resolve_left z2
    refine ok_if (fun _ => ?_) (fun _ => ?_)
    · refine ok_ix (by omega) (by omega) (fun k3 kl3 ke3 => ?_)
      refine ok_cp (oX9_pieceOf (by omega) (by first | assumption | exact Or.inl rfl | exact Or.inr rfl | exact wt_T57 | exact hc.2 | exact ⟨_, _, wt_BC (by assumption), by assumption, rfl⟩ | exact ⟨_, _, by assumption, by assumption, rfl⟩ | exact ⟨11, _, Or.inl rfl, by assumption, rfl⟩ | exact ⟨40, _, Or.inr (Or.inl rfl), by assumption, rfl⟩ | exact Or.inr (Or.inl rfl) | exact Or.inr (Or.inr rfl)) (by first | assumption | exact Or.inl rfl | exact Or.inr rfl | exact wt_T57 | exact hc.2 | exact ⟨_, _, wt_BC (by assumption), by assumption, rfl⟩ | exact ⟨_, _, by assumption, by assumption, rfl⟩ | exact ⟨11, _, Or.inl rfl, by assumption, rfl⟩ | exact ⟨40, _, Or.inr (Or.inl rfl), by assumption, rfl⟩ | exact Or.inr (Or.inl rfl) | exact Or.inr (Or.inr rfl)) h (by omega)) (fun v5 q4 => ?_)
      refine ok_if (fun _ => ?_) (fun _ => ?_)
      · refine ok_if (fun _ => ?_) (fun _ => ?_)
        · exact ok_some ⟨rfl, trivial⟩
        · refine ok_if (fun _ => ?_) (fun _ => ?_)
          · refine ok_cp (oX5_placeOf (by omega) (by first | assumption | exact Or.inl rfl | exact Or.inr rfl | exact wt_T57 | exact hc.2 | exact ⟨_, _, wt_BC (by assumption), by assumption, rfl⟩ | exact ⟨_, _, by assumption, by assumption, rfl⟩ | exact ⟨11, _, Or.inl rfl, by assumption, rfl⟩ | exact ⟨40, _, Or.inr (Or.inl rfl), by assumption, rfl⟩ | exact Or.inr (Or.inl rfl) | exact Or.inr (Or.inr rfl)) h) (fun v7 q5 => ?_)
            exact ok_some ⟨rfl, trivial⟩
          · refine ok_if (fun _ => ?_) (fun _ => ?_)
            · refine ok_cp (oX5_wordsOf (by omega) (by first | assumption | exact Or.inl rfl | exact Or.inr rfl | exact wt_T57 | exact hc.2 | exact ⟨_, _, wt_BC (by assumption), by assumption, rfl⟩ | exact ⟨_, _, by assumption, by assumption, rfl⟩ | exact ⟨11, _, Or.inl rfl, by assumption, rfl⟩ | exact ⟨40, _, Or.inr (Or.inl rfl), by assumption, rfl⟩ | exact Or.inr (Or.inl rfl) | exact Or.inr (Or.inr rfl)) h) (fun v9 q6 => ?_)
              exact ok_some ⟨rfl, trivial⟩
            · refine ok_if (fun _ => ?_) (fun _ => ?_)
              · refine ok_cp (oX5_usedOf (by omega) (by first | assumption | exact Or.inl rfl | exact Or.inr rfl | exact wt_T57 | exact hc.2 | exact ⟨_, _, wt_BC (by assumption), by assumption, rfl⟩ | exact ⟨_, _, by assumption, by assumption, rfl⟩ | exact ⟨11, _, Or.inl rfl, by assumption, rfl⟩ | exact ⟨40, _, Or.inr (Or.inl rfl), by assumption, rfl⟩ | exact Or.inr (Or.inl rfl) | exact Or.inr (Or.inr rfl)) h) (fun v11 q7 => ?_)
                exact ok_some ⟨rfl, trivial⟩
              · refine ok_if (fun _ => ?_) (fun _ => ?_)
                · refine ok_if (fun _ => ?_) (fun _ => ?_)
                  · exact ok_some ⟨rfl, trivial⟩
                  · exact ok_some ⟨rfl, trivial⟩
                · exfalso
                  omega
      · exact ok_some ⟨rfl, trivial⟩
    · exact ok_some ⟨rfl, trivial⟩
theorem oX5_gaps_4 {F : Nat} {z : wt_S} (hF : F ≤ 2000000000) {b : Nat} (hb : wt_B b) : ∀ (fu : Nat) (s : wt_S) (l1 : Int32) (l2 : Int32), CI F z s → (0 ≤ l2.toInt ∧ l2.toInt ≤ 257) → (257 - l2.toInt).toNat < fu → Ok (fun r s' => s' = s ∧ (True)) (gX5_gaps_4 b fu s l1 l2) := by
  obtain ⟨l_0, l_1, l_2, l_3, l_4, l_5, l_6, l_8, l_9, l_10, l_12, l_16, l_40, l_100, l_160, l_200, l_256, l_640, l_2000, l_2048, l_m1⟩ := lits
  have hbC : wt_C b := wt_BC hb
  intro fu
  induction fu with
  | zero => intro s l1 l2 h hc hm; exact absurd hm (Nat.not_lt_zero _)
  | succ n ih =>
    intro s l1 l2 h hc hm
    have n5 := h.nm hbC
    rw [gX5_gaps_4]
    unfold gX5_gaps_31
    refine ok_if (fun _ => ?_) (fun _ => ?_)
    · exact ok_some ⟨rfl, trivial⟩
    · refine ok_cp (oX5_gapTo (by omega) (by first | assumption | exact Or.inl rfl | exact Or.inr rfl | exact wt_T57 | exact hc.2 | exact ⟨_, _, wt_BC (by assumption), by assumption, rfl⟩ | exact ⟨_, _, by assumption, by assumption, rfl⟩ | exact ⟨11, _, Or.inl rfl, by assumption, rfl⟩ | exact ⟨40, _, Or.inr (Or.inl rfl), by assumption, rfl⟩ | exact Or.inr (Or.inl rfl) | exact Or.inr (Or.inr rfl)) h) (fun v2 q1 => ?_)
      refine ok_cp (oX5_gapFrom (by omega) (by first | assumption | exact Or.inl rfl | exact Or.inr rfl | exact wt_T57 | exact hc.2 | exact ⟨_, _, wt_BC (by assumption), by assumption, rfl⟩ | exact ⟨_, _, by assumption, by assumption, rfl⟩ | exact ⟨11, _, Or.inl rfl, by assumption, rfl⟩ | exact ⟨40, _, Or.inr (Or.inl rfl), by assumption, rfl⟩ | exact Or.inr (Or.inl rfl) | exact Or.inr (Or.inr rfl)) h) (fun v4 q2 => ?_)
      refine ok_if (fun _ => ?_) (fun _ => ?_)
      · have e3 := i_inc (x := l2) (by omega)
        exact ih _ _ _ h (by omega) (by omega)
      · have e4 := i_inc (x := l2) (by omega)
        exact ih _ _ _ h (by omega) (by omega)
theorem oX5_gaps {F : Nat} {z : wt_S} (hF : F ≤ 2000000000) {b : Nat} (hb : wt_B b) {s : wt_S} (h : CI F z s) : Ok (fun r s' => s' = s ∧ (True)) (gX5_gaps b s) := by
  obtain ⟨l_0, l_1, l_2, l_3, l_4, l_5, l_6, l_8, l_9, l_10, l_12, l_16, l_40, l_100, l_160, l_200, l_256, l_640, l_2000, l_2048, l_m1⟩ := lits
  have hbC : wt_C b := wt_BC hb
  have n1 := h.nm hbC
  unfold gX5_gaps 
  refine oX5_gaps_4 (by omega) (by first | assumption | exact Or.inl rfl | exact Or.inr rfl | exact wt_T57 | exact hc.2 | exact ⟨_, _, wt_BC (by assumption), by assumption, rfl⟩ | exact ⟨_, _, by assumption, by assumption, rfl⟩ | exact ⟨11, _, Or.inl rfl, by assumption, rfl⟩ | exact ⟨40, _, Or.inr (Or.inl rfl), by assumption, rfl⟩ | exact Or.inr (Or.inl rfl) | exact Or.inr (Or.inr rfl)) wt_N _ _ _ h ?_ (by unfold wt_N; omega)
  · omega
theorem oX5_gapFact_5 {F : Nat} {z : wt_S} (hF : F ≤ 2000000000) {b : Nat} (hb : wt_B b) : ∀ (fu : Nat) (s : wt_S) (l1 : Int32) (l2 : Int32) (l3 : Int32) (l4 : Int32), CI F z s → (0 ≤ l4.toInt ∧ l4.toInt ≤ 257) → (257 - l4.toInt).toNat < fu → Ok (fun r s' => s' = s ∧ (True)) (gX5_gapFact_5 b fu s l1 l2 l3 l4) := by
  obtain ⟨l_0, l_1, l_2, l_3, l_4, l_5, l_6, l_8, l_9, l_10, l_12, l_16, l_40, l_100, l_160, l_200, l_256, l_640, l_2000, l_2048, l_m1⟩ := lits
  have hbC : wt_C b := wt_BC hb
  intro fu
  induction fu with
  | zero => intro s l1 l2 l3 l4 h hc hm; exact absurd hm (Nat.not_lt_zero _)
  | succ n ih =>
    intro s l1 l2 l3 l4 h hc hm
    have n5 := h.nm hbC
    rw [gX5_gapFact_5]
    refine ok_if (fun _ => ?_) (fun _ => ?_)
    · exact ok_some ⟨rfl, trivial⟩
    · refine ok_cp (oX5_gapFrom (by omega) (by first | assumption | exact Or.inl rfl | exact Or.inr rfl | exact wt_T57 | exact hc.2 | exact ⟨_, _, wt_BC (by assumption), by assumption, rfl⟩ | exact ⟨_, _, by assumption, by assumption, rfl⟩ | exact ⟨11, _, Or.inl rfl, by assumption, rfl⟩ | exact ⟨40, _, Or.inr (Or.inl rfl), by assumption, rfl⟩ | exact Or.inr (Or.inl rfl) | exact Or.inr (Or.inr rfl)) h) (fun v2 q1 => ?_)
      refine ok_cp (oX5_gapTo (by omega) (by first | assumption | exact Or.inl rfl | exact Or.inr rfl | exact wt_T57 | exact hc.2 | exact ⟨_, _, wt_BC (by assumption), by assumption, rfl⟩ | exact ⟨_, _, by assumption, by assumption, rfl⟩ | exact ⟨11, _, Or.inl rfl, by assumption, rfl⟩ | exact ⟨40, _, Or.inr (Or.inl rfl), by assumption, rfl⟩ | exact Or.inr (Or.inl rfl) | exact Or.inr (Or.inr rfl)) h) (fun v4 q2 => ?_)
      refine ok_if (fun _ => ?_) (fun _ => ?_)
      · have e3 := i_inc (x := l4) (by omega)
        exact ih _ _ _ _ _ h (by omega) (by omega)
      · refine ok_if (fun _ => ?_) (fun _ => ?_)
        · have e4 := i_inc (x := l4) (by omega)
          exact ih _ _ _ _ _ h (by omega) (by omega)
        · refine ok_if (fun _ => ?_) (fun _ => ?_)
          · exact ok_some ⟨rfl, trivial⟩
          · exact ok_some ⟨rfl, trivial⟩
theorem oX5_gapFact {F : Nat} {z : wt_S} (hF : F ≤ 2000000000) {b : Nat} (hb : wt_B b) {s : wt_S} (h : CI F z s) {i1 i2 : Int32} : Ok (fun r s' => s' = s ∧ (True)) (gX5_gapFact b s i1 i2) := by
  obtain ⟨l_0, l_1, l_2, l_3, l_4, l_5, l_6, l_8, l_9, l_10, l_12, l_16, l_40, l_100, l_160, l_200, l_256, l_640, l_2000, l_2048, l_m1⟩ := lits
  have hbC : wt_C b := wt_BC hb
  have n1 := h.nm hbC
  unfold gX5_gapFact 
  refine oX5_gapFact_5 (by omega) (by first | assumption | exact Or.inl rfl | exact Or.inr rfl | exact wt_T57 | exact hc.2 | exact ⟨_, _, wt_BC (by assumption), by assumption, rfl⟩ | exact ⟨_, _, by assumption, by assumption, rfl⟩ | exact ⟨11, _, Or.inl rfl, by assumption, rfl⟩ | exact ⟨40, _, Or.inr (Or.inl rfl), by assumption, rfl⟩ | exact Or.inr (Or.inl rfl) | exact Or.inr (Or.inr rfl)) wt_N _ _ _ _ _ h ?_ (by unfold wt_N; omega)
  · omega
theorem oX10_gap {F : Nat} {z : wt_S} (hF : F ≤ 2000000000)  {s : wt_S} (h : CI F z s) {i1 i2 : Int32} : Ok (fun r s' => s' = s ∧ (True)) (gX10_gap s i1 i2) := by
  obtain ⟨l_0, l_1, l_2, l_3, l_4, l_5, l_6, l_8, l_9, l_10, l_12, l_16, l_40, l_100, l_160, l_200, l_256, l_640, l_2000, l_2048, l_m1⟩ := lits
  unfold gX10_gap gX10_gap_25
  refine ok_if (fun _ => ?_) (fun _ => ?_)
  · refine ok_if (fun _ => ?_) (fun _ => ?_)
    · refine ok_cp (oX5_gapFact (by omega) (by first | assumption | exact Or.inl rfl | exact Or.inr rfl | exact wt_T57 | exact hc.2 | exact ⟨_, _, wt_BC (by assumption), by assumption, rfl⟩ | exact ⟨_, _, by assumption, by assumption, rfl⟩ | exact ⟨11, _, Or.inl rfl, by assumption, rfl⟩ | exact ⟨40, _, Or.inr (Or.inl rfl), by assumption, rfl⟩ | exact Or.inr (Or.inl rfl) | exact Or.inr (Or.inr rfl)) h) (fun v2 q1 => ?_)
      exact ok_some ⟨rfl, trivial⟩
    · refine ok_if (fun _ => ?_) (fun _ => ?_)
      · exact ok_some ⟨rfl, trivial⟩
      · refine ok_cp (oX5_gapFact (by omega) (by first | assumption | exact Or.inl rfl | exact Or.inr rfl | exact wt_T57 | exact hc.2 | exact ⟨_, _, wt_BC (by assumption), by assumption, rfl⟩ | exact ⟨_, _, by assumption, by assumption, rfl⟩ | exact ⟨11, _, Or.inl rfl, by assumption, rfl⟩ | exact ⟨40, _, Or.inr (Or.inl rfl), by assumption, rfl⟩ | exact Or.inr (Or.inl rfl) | exact Or.inr (Or.inr rfl)) h) (fun v2 q2 => ?_)
        exact ok_some ⟨rfl, trivial⟩
  · refine ok_cp (oX5_gaps (by omega) (by first | assumption | exact Or.inl rfl | exact Or.inr rfl | exact wt_T57 | exact hc.2 | exact ⟨_, _, wt_BC (by assumption), by assumption, rfl⟩ | exact ⟨_, _, by assumption, by assumption, rfl⟩ | exact ⟨11, _, Or.inl rfl, by assumption, rfl⟩ | exact ⟨40, _, Or.inr (Or.inl rfl), by assumption, rfl⟩ | exact Or.inr (Or.inl rfl) | exact Or.inr (Or.inr rfl)) h) (fun v2 q3 => ?_)
    exact ok_some ⟨rfl, trivial⟩
theorem oJ9_min_7cf53 {F : Nat} {z : wt_S} (hF : F ≤ 2000000000)  {s : wt_S} (h : CI F z s) {i1 i2 : Int32} : Ok (fun r s' => s' = s ∧ (True)) (gJ9_min_7cf53 s i1 i2) := by
  obtain ⟨l_0, l_1, l_2, l_3, l_4, l_5, l_6, l_8, l_9, l_10, l_12, l_16, l_40, l_100, l_160, l_200, l_256, l_640, l_2000, l_2048, l_m1⟩ := lits
  unfold gJ9_min_7cf53 
  refine ok_if (fun _ => ?_) (fun _ => ?_)
  · exact ok_some ⟨rfl, trivial⟩
  · exact ok_some ⟨rfl, trivial⟩
end
