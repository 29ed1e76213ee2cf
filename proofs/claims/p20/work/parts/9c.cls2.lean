section
/-! ===== the class, method by method, 2 (written by wip/p25/ok.py) ===== -/
theorem oX10_set {F : Nat} {z : wt_S} (hF : F ≤ 2000000000) {s : wt_S} (h : CI F z s) {i1 i2 : Int32} : Ok (fun r s' => CI F z s' ∧ (r = 0 ∨ r = 1)) (gX10_set s i1 i2) := by
  obtain ⟨l_0, l_1, l_2, l_3, l_4, l_5, l_6, l_8, l_9, l_10, l_12, l_16, l_40, l_100, l_160, l_200, l_256, l_640, l_2000, l_2048, l_m1⟩ := lits
  unfold gX10_set
  refine ok_cp (oX9_busy hF (Or.inl rfl) h) (fun v q => ?_)
  refine ok_if (fun _ => ok_some ⟨h, Or.inl rfl⟩) (fun _ => ?_)
  refine ok_if (fun _ => ok_some ⟨h, Or.inl rfl⟩) (fun _ => ?_)
  refine ok_if (fun _ => ok_some ⟨h, Or.inl rfl⟩) (fun _ => ?_)
  refine ok_ix (by omega) (by omega) (fun k3 kl ke => ?_)
  refine ok_if (fun _ => ok_some ⟨h, Or.inl rfl⟩) (fun _ => ?_)
  refine ok_ix (by omega) (by omega) (fun k4 kl4 ke4 => ?_)
  refine ok_if (fun c => ?_) (fun _ => ok_some ⟨h, Or.inl rfl⟩)
  refine ok_ix (by omega) (by omega) (fun k6 kl6 ke6 => ?_)
  refine ok_ws (h.us (b := 11) (Or.inl rfl) (fun e => ?_)) (fun s' h' => ok_some ⟨h', Or.inr rfl⟩)
  have : k4 = 4 := by omega
  subst this
  have := h.2.2.2.2.1
  omega
theorem oX6_tell {F : Nat} {z : wt_S} (hF : F ≤ 2000000000) {q : Nat} (hq : wt_Q q) {s : wt_S} (h : CI F z s) {i1 i2 i3 : Int32} (hi : i2.toInt ≤ 8) : Ok (fun r s' => CI F z s') (gX6_tell q s i1 i2 i3) := by
  obtain ⟨l_0, l_1, l_2, l_3, l_4, l_5, l_6, l_8, l_9, l_10, l_12, l_16, l_40, l_100, l_160, l_200, l_256, l_640, l_2000, l_2048, l_m1⟩ := lits
  unfold gX6_tell 
  refine ok_cp (oX10_isFunction (by omega)  h) (fun v2 ⟨q1, g1⟩ => ?_)
  refine ok_if (fun z2 => ?_) (fun _ => ?_)
  · have gg2 := g1.resolve_left z2
    refine ok_ix (by omega) (by omega) (fun k4 kl3 ke3 => ?_)
    have f3 := h.ln hq kl3
    refine ok_ws (h.uz hq (by omega)) (fun s4 h4 => ?_)
    refine ok_ix (by omega) (by omega) (fun k6 kl5 ke5 => ?_)
    have f5 := h4.ln hq kl5
    refine ok_wc h4 (by first | exact hs_b (by assumption) (by decide) | exact hs_b2 (by assumption) (by decide) | exact hs_t (by assumption) (by decide) | exact hs_t1 (by assumption) | exact hs_q (by assumption) (by decide) | exact hs_w (by assumption) | exact hs_d (by decide) | exact hs_e (by decide)) (fun s6 h6 => ?_)
    refine ok_ix (by omega) (by omega) (fun k8 kl7 ke7 => ?_)
    have f7 := h6.ln hq kl7
    refine ok_ws (h6.ul hq (by omega)) (fun s8 h8 => ?_)
    refine ok_cl (oX6_findDeeps (by omega) (by first | assumption | exact Or.inl rfl | exact Or.inr rfl | exact wt_T57 | exact hc.2 | exact ⟨_, _, wt_BC (by assumption), by assumption, rfl⟩ | exact ⟨_, _, by assumption, by assumption, rfl⟩ | exact ⟨11, _, Or.inl rfl, by assumption, rfl⟩ | exact ⟨40, _, Or.inr (Or.inl rfl), by assumption, rfl⟩ | exact Or.inr (Or.inl rfl) | exact Or.inr (Or.inr rfl)) h8) (fun _ s9 h9 => ?_)
    exact ok_some (h9.mono (by omega))
  · exact ok_some (h.mono (by omega))
theorem oX10_function {F : Nat} {z : wt_S} (hF : F ≤ 2000000000)  {s : wt_S} (h : CI F z s) {i1 i2 i3 : Int32} : Ok (fun r s' => CI F z s' ∧ (r = 0 ∨ r = 1)) (gX10_function s i1 i2 i3) := by
  obtain ⟨l_0, l_1, l_2, l_3, l_4, l_5, l_6, l_8, l_9, l_10, l_12, l_16, l_40, l_100, l_160, l_200, l_256, l_640, l_2000, l_2048, l_m1⟩ := lits
  unfold gX10_function 
  refine ok_cp (oX9_busy (by omega) (by first | assumption | exact Or.inl rfl | exact Or.inr rfl | exact wt_T57 | exact hc.2 | exact ⟨_, _, wt_BC (by assumption), by assumption, rfl⟩ | exact ⟨_, _, by assumption, by assumption, rfl⟩ | exact ⟨11, _, Or.inl rfl, by assumption, rfl⟩ | exact ⟨40, _, Or.inr (Or.inl rfl), by assumption, rfl⟩ | exact Or.inr (Or.inl rfl) | exact Or.inr (Or.inr rfl)) h) (fun v2 q1 => ?_)
  refine ok_if (fun _ => ?_) (fun _ => ?_)
  · exact ok_some ⟨h.mono (by omega), (by first | assumption | exact Or.inl rfl | exact Or.inr rfl | exact hc.2 | omega | exact ⟨Or.inl rfl, Or.inl rfl⟩ | exact ⟨Or.inr rfl, Or.inr (by omega)⟩ | exact ⟨by assumption, by assumption⟩)⟩
  · refine ok_cp (oX10_isFunction (by omega)  h) (fun v4 ⟨q2, g2⟩ => ?_)
    refine ok_if (fun _ => ?_) (fun z3 => ?_)
    · exact ok_some ⟨h.mono (by omega), (by first | assumption | exact Or.inl rfl | exact Or.inr rfl | exact hc.2 | omega | exact ⟨Or.inl rfl, Or.inl rfl⟩ | exact ⟨Or.inr rfl, Or.inr (by omega)⟩ | exact ⟨by assumption, by assumption⟩)⟩
    · have gg3 := g2.resolve_left z3
      refine ok_if (fun _ => ?_) (fun _ => ?_)
      · exact ok_some ⟨h.mono (by omega), (by first | assumption | exact Or.inl rfl | exact Or.inr rfl | exact hc.2 | omega | exact ⟨Or.inl rfl, Or.inl rfl⟩ | exact ⟨Or.inr rfl, Or.inr (by omega)⟩ | exact ⟨by assumption, by assumption⟩)⟩
      · refine ok_if (fun _ => ?_) (fun _ => ?_)
        · refine ok_if (fun _ => ?_) (fun _ => ?_)
          · exact ok_some ⟨h.mono (by omega), (by first | assumption | exact Or.inl rfl | exact Or.inr rfl | exact hc.2 | omega | exact ⟨Or.inl rfl, Or.inl rfl⟩ | exact ⟨Or.inr rfl, Or.inr (by omega)⟩ | exact ⟨by assumption, by assumption⟩)⟩
          · refine ok_if (fun _ => ?_) (fun _ => ?_)
            · refine ok_cl (oX6_tell (by omega) (by first | assumption | exact Or.inl rfl | exact Or.inr rfl | exact wt_T57 | exact hc.2 | exact ⟨_, _, wt_BC (by assumption), by assumption, rfl⟩ | exact ⟨_, _, by assumption, by assumption, rfl⟩ | exact ⟨11, _, Or.inl rfl, by assumption, rfl⟩ | exact ⟨40, _, Or.inr (Or.inl rfl), by assumption, rfl⟩ | exact Or.inr (Or.inl rfl) | exact Or.inr (Or.inr rfl)) h (by omega)) (fun _ s5 h4 => ?_)
              exact ok_some ⟨h4.mono (by omega), (by first | assumption | exact Or.inl rfl | exact Or.inr rfl | exact hc.2 | omega | exact ⟨Or.inl rfl, Or.inl rfl⟩ | exact ⟨Or.inr rfl, Or.inr (by omega)⟩ | exact ⟨by assumption, by assumption⟩)⟩
            · exact ok_some ⟨h.mono (by omega), (by first | assumption | exact Or.inl rfl | exact Or.inr rfl | exact hc.2 | omega | exact ⟨Or.inl rfl, Or.inl rfl⟩ | exact ⟨Or.inr rfl, Or.inr (by omega)⟩ | exact ⟨by assumption, by assumption⟩)⟩
        · exact ok_some ⟨h.mono (by omega), (by first | assumption | exact Or.inl rfl | exact Or.inr rfl | exact hc.2 | omega | exact ⟨Or.inl rfl, Or.inl rfl⟩ | exact ⟨Or.inr rfl, Or.inr (by omega)⟩ | exact ⟨by assumption, by assumption⟩)⟩
theorem oX6_append {F : Nat} {z : wt_S} (hF : F ≤ 2000000000) {q : Nat} (hq : wt_Q q) {s : wt_S} (h : CI F z s) {i1 i2 i3 i4 i5 : Int32} : Ok (fun r s' => CI F z s') (gX6_append q s i1 i2 i3 i4 i5) := by
  obtain ⟨l_0, l_1, l_2, l_3, l_4, l_5, l_6, l_8, l_9, l_10, l_12, l_16, l_40, l_100, l_160, l_200, l_256, l_640, l_2000, l_2048, l_m1⟩ := lits
  have qn : q = 5 ∨ q = 76 := hq
  unfold gX6_append gX6_append_98
  refine ok_cp (oX6_linesOf hF hq h) (fun v2 q2 => ?_)
  refine ok_cp (oX10_isFunction hF h) (fun v4 ⟨q4, g4⟩ => ?_)
  refine ok_if (fun _ => ok_some h) (fun z4 => ?_)
  have g := g4.resolve_left z4
  refine ok_if (fun c => ?_) (fun _ => ok_some h)
  obtain ⟨f, f1, rfl, f3, f4⟩ := i_nat (x := i1) g.1
  obtain ⟨l, l1, rfl, l3, l4⟩ := i_nat (x := v2) q2.1
  have ei : ∀ (c : Nat), (nI f * 16 + nI l) * 4 + nI c = nI ((f * 16 + l) * 4 + c) := fun c => by rw [li_mul2, nI_add, li_mul2, nI_add]
  rw [show (nI f * 16 + nI l) * 4 + (0 : Int32) = _ from ei 0, show (nI f * 16 + nI l) * 4 + (1 : Int32) = _ from ei 1, show (nI f * 16 + nI l) * 4 + (2 : Int32) = _ from ei 2, show (nI f * 16 + nI l) * 4 + (3 : Int32) = _ from ei 3]
  rw [ix_nI (by omega) (by omega)]
  refine ok_wc h (by unfold hsp; omega) (fun s1 h1 => ?_)
  rw [ix_nI (by omega) (by omega)]
  refine ok_wc h1 (by unfold hsp; omega) (fun s2 h2 => ?_)
  rw [ix_nI (by omega) (by omega)]
  refine ok_wc h2 (by unfold hsp; omega) (fun s3 h3 => ?_)
  rw [ix_nI (by omega) (by omega)]
  refine ok_wc h3 (by unfold hsp; omega) (fun s4 h4 => ?_)
  rw [ix_nI (by omega) (by omega)]
  have e := i_inc (x := nI l) (by omega)
  refine ok_ws (h4.ul hq (by omega)) (fun s5 h5 => ?_)
  have fin : Ok (fun r s' => CI F z s') (wt_cl (gX6_findDeeps q s5) fun _ s1 => some (nI l, s1)) := ok_cl (oX6_findDeeps hF hq h5) (fun _ s6 h6 => ok_some h6)
  exact ok_if (fun _ => fin) (fun _ => ok_if (fun _ => ok_some h5) (fun _ => fin))
theorem oX10_line {F : Nat} {z : wt_S} (hF : F ≤ 2000000000)  {s : wt_S} (h : CI F z s) {i1 i2 i3 i4 i5 : Int32} : Ok (fun r s' => CI F z s') (gX10_line s i1 i2 i3 i4 i5) := by
  obtain ⟨l_0, l_1, l_2, l_3, l_4, l_5, l_6, l_8, l_9, l_10, l_12, l_16, l_40, l_100, l_160, l_200, l_256, l_640, l_2000, l_2048, l_m1⟩ := lits
  unfold gX10_line 
  refine ok_cp (oX9_busy (by omega) (by first | assumption | exact Or.inl rfl | exact Or.inr rfl | exact wt_T57 | exact hc.2 | exact ⟨_, _, wt_BC (by assumption), by assumption, rfl⟩ | exact ⟨_, _, by assumption, by assumption, rfl⟩ | exact ⟨11, _, Or.inl rfl, by assumption, rfl⟩ | exact ⟨40, _, Or.inr (Or.inl rfl), by assumption, rfl⟩ | exact Or.inr (Or.inl rfl) | exact Or.inr (Or.inr rfl)) h) (fun v2 q1 => ?_)
  refine ok_if (fun _ => ?_) (fun _ => ?_)
  · exact ok_some (h.mono (by omega))
  · refine ok_cp (oX6_told (by omega) (by first | assumption | exact Or.inl rfl | exact Or.inr rfl | exact wt_T57 | exact hc.2 | exact ⟨_, _, wt_BC (by assumption), by assumption, rfl⟩ | exact ⟨_, _, by assumption, by assumption, rfl⟩ | exact ⟨11, _, Or.inl rfl, by assumption, rfl⟩ | exact ⟨40, _, Or.inr (Or.inl rfl), by assumption, rfl⟩ | exact Or.inr (Or.inl rfl) | exact Or.inr (Or.inr rfl)) h) (fun v4 q2 => ?_)
    refine ok_if (fun _ => ?_) (fun _ => ?_)
    · exact ok_some (h.mono (by omega))
    · refine ok_cp (oX6_allows (by omega) (by first | assumption | exact Or.inl rfl | exact Or.inr rfl | exact wt_T57 | exact hc.2 | exact ⟨_, _, wt_BC (by assumption), by assumption, rfl⟩ | exact ⟨_, _, by assumption, by assumption, rfl⟩ | exact ⟨11, _, Or.inl rfl, by assumption, rfl⟩ | exact ⟨40, _, Or.inr (Or.inl rfl), by assumption, rfl⟩ | exact Or.inr (Or.inl rfl) | exact Or.inr (Or.inr rfl)) h) (fun v6 q3 => ?_)
      refine ok_if (fun _ => ?_) (fun _ => ?_)
      · refine ok_cl (oX6_append (by omega) (by first | assumption | exact Or.inl rfl | exact Or.inr rfl | exact wt_T57 | exact hc.2 | exact ⟨_, _, wt_BC (by assumption), by assumption, rfl⟩ | exact ⟨_, _, by assumption, by assumption, rfl⟩ | exact ⟨11, _, Or.inl rfl, by assumption, rfl⟩ | exact ⟨40, _, Or.inr (Or.inl rfl), by assumption, rfl⟩ | exact Or.inr (Or.inl rfl) | exact Or.inr (Or.inr rfl)) h) (fun v8 s7 h4 => ?_)
        exact ok_some (h4.mono (by omega))
      · exact ok_some (h.mono (by omega))
theorem i_subb {x y : Int32} (h : 0 ≤ y.toInt ∧ y.toInt ≤ x.toInt) : (x - y).toInt = x.toInt - y.toInt := by
  obtain ⟨a, a1, rfl, a3, a4⟩ := i_nat (x := x) (by omega)
  obtain ⟨c, c1, rfl, c3, c4⟩ := i_nat (x := y) (by omega)
  rw [nI_sub (by omega), nI_int (by omega)]
  omega
theorem oX5_insert {F : Nat} {z : wt_S} (hF : F ≤ 2000000000) {b : Nat} (hb : wt_B b) {s : wt_S} (h : CI F z s) {i1 : Int32} : Ok (fun r s' => CI F z s') (gX5_insert b s i1) := by
  obtain ⟨l_0, l_1, l_2, l_3, l_4, l_5, l_6, l_8, l_9, l_10, l_12, l_16, l_40, l_100, l_160, l_200, l_256, l_640, l_2000, l_2048, l_m1⟩ := lits
  have hbC : wt_C b := wt_BC hb
  have hbn : b = 11 ∨ b = 40 ∨ b = 81 := hbC
  have n0 := h.nm hbC
  unfold gX5_insert
  refine ok_if (fun _ => ok_some h) (fun _ => ok_if (fun _ => ok_some h) (fun _ => ok_if (fun _ => ?_) (fun _ => ok_some h)))
  refine ok_ix (by omega) (by omega) (fun k1 _ _ => ?_)
  have e1 := i_inc (x := i1) (by omega)
  have e2 := i_subb (x := s (b + 2) 7) (y := i1) (by omega)
  unfold wt_ac
  rw [if_pos (by omega)]
  refine ok_ix (by omega) (by omega) (fun k4 _ _ => ?_)
  have h2 : CI F z (wt_uf s (b + 8) (mj_cpy (s (b + 8)) (s (b + 8)) i1.toInt.toNat (i1 + 1).toInt.toNat (s (b + 2) 7 - i1).toInt.toNat)) := h.uf (fun k => by unfold hsp; omega)
  rw [wr_eq, wr_eq]
  refine ok_some ((h2.u (by unfold hsp; omega)).un hbC ?_)
  rw [wt_u_ne (by omega), wt_uf_ne (by omega)]
  have e3 := i_inc (x := s (b + 2) 7) (by omega)
  omega
theorem oX5_take_3 {F : Nat} {z : wt_S} (hF : F ≤ 2000000000) {b : Nat} (hb : wt_B b) : ∀ (fu : Nat) (s : wt_S) (l1 : Int32) (l2 : Int32) (l3 : Int32) (l4 : Int32), CI F z s → (0 ≤ l4.toInt ∧ l4.toInt ≤ 257) → (257 - l4.toInt).toNat < fu → Ok (fun r s' => CI F z s') (gX5_take_3 b fu s l1 l2 l3 l4) := by
  obtain ⟨l_0, l_1, l_2, l_3, l_4, l_5, l_6, l_8, l_9, l_10, l_12, l_16, l_40, l_100, l_160, l_200, l_256, l_640, l_2000, l_2048, l_m1⟩ := lits
  have hbC : wt_C b := wt_BC hb
  intro fu
  induction fu with
  | zero => intro s l1 l2 l3 l4 h hc hm; exact absurd hm (Nat.not_lt_zero _)
  | succ n ih =>
    intro s l1 l2 l3 l4 h hc hm
    have n23 := h.nm hbC
    rw [gX5_take_3]
    refine ok_if (fun _ => ?_) (fun _ => ?_)
    · exact ok_some (h.mono (by omega))
    · refine ok_cp (oX5_gapFrom (by omega) (by first | assumption | exact Or.inl rfl | exact Or.inr rfl | exact wt_T57 | exact hc.2 | exact ⟨_, _, wt_BC (by assumption), by assumption, rfl⟩ | exact ⟨_, _, by assumption, by assumption, rfl⟩ | exact ⟨11, _, Or.inl rfl, by assumption, rfl⟩ | exact ⟨40, _, Or.inr (Or.inl rfl), by assumption, rfl⟩ | exact Or.inr (Or.inl rfl) | exact Or.inr (Or.inr rfl)) h) (fun v2 q1 => ?_)
      refine ok_cp (oX5_gapTo (by omega) (by first | assumption | exact Or.inl rfl | exact Or.inr rfl | exact wt_T57 | exact hc.2 | exact ⟨_, _, wt_BC (by assumption), by assumption, rfl⟩ | exact ⟨_, _, by assumption, by assumption, rfl⟩ | exact ⟨11, _, Or.inl rfl, by assumption, rfl⟩ | exact ⟨40, _, Or.inr (Or.inl rfl), by assumption, rfl⟩ | exact Or.inr (Or.inl rfl) | exact Or.inr (Or.inr rfl)) h) (fun v4 q2 => ?_)
      refine ok_if (fun _ => ?_) (fun _ => ?_)
      · have e3 := i_inc (x := l4) (by omega)
        exact ih _ _ _ _ _ h (by omega) (by omega)
      · refine ok_cl (oX5_insert (by omega) (by first | assumption | exact Or.inl rfl | exact Or.inr rfl | exact wt_T57 | exact hc.2 | exact ⟨_, _, wt_BC (by assumption), by assumption, rfl⟩ | exact ⟨_, _, by assumption, by assumption, rfl⟩ | exact ⟨11, _, Or.inl rfl, by assumption, rfl⟩ | exact ⟨40, _, Or.inr (Or.inl rfl), by assumption, rfl⟩ | exact Or.inr (Or.inl rfl) | exact Or.inr (Or.inr rfl)) h) (fun v6 s5 h4 => ?_)
        have n5 := h4.nm hbC
        refine ok_if (fun _ => ?_) (fun _ => ?_)
        · exact ok_some (h4.mono (by omega))
        · refine ok_if (fun _ => ?_) (fun _ => ?_)
          · exact ok_some (h4.mono (by omega))
          · refine ok_ix (by omega) (by omega) (fun k8 kl6 ke6 => ?_)
            refine ok_wc h4 (by first | exact hs_b (by assumption) (by decide) | exact hs_b2 (by assumption) (by decide) | exact hs_t (by assumption) (by decide) | exact hs_t1 (by assumption) | exact hs_q (by assumption) (by decide) | exact hs_w (by assumption) | exact hs_d (by decide) | exact hs_e (by decide)) (fun s7 h7 => ?_)
            have n8 := h7.nm hbC
            refine ok_ix (by omega) (by omega) (fun k10 kl9 ke9 => ?_)
            refine ok_wc h7 (by first | exact hs_b (by assumption) (by decide) | exact hs_b2 (by assumption) (by decide) | exact hs_t (by assumption) (by decide) | exact hs_t1 (by assumption) | exact hs_q (by assumption) (by decide) | exact hs_w (by assumption) | exact hs_d (by decide) | exact hs_e (by decide)) (fun s10 h10 => ?_)
            have n11 := h10.nm hbC
            refine ok_ix (by omega) (by omega) (fun k12 kl12 ke12 => ?_)
            refine ok_wc h10 (by first | exact hs_b (by assumption) (by decide) | exact hs_b2 (by assumption) (by decide) | exact hs_t (by assumption) (by decide) | exact hs_t1 (by assumption) | exact hs_q (by assumption) (by decide) | exact hs_w (by assumption) | exact hs_d (by decide) | exact hs_e (by decide)) (fun s13 h13 => ?_)
            have n14 := h13.nm hbC
            refine ok_ix (by omega) (by omega) (fun k14 kl15 ke15 => ?_)
            refine ok_wc h13 (by first | exact hs_b (by assumption) (by decide) | exact hs_b2 (by assumption) (by decide) | exact hs_t (by assumption) (by decide) | exact hs_t1 (by assumption) | exact hs_q (by assumption) (by decide) | exact hs_w (by assumption) | exact hs_d (by decide) | exact hs_e (by decide)) (fun s16 h16 => ?_)
            have n17 := h16.nm hbC
            refine ok_ix (by omega) (by omega) (fun k16 kl18 ke18 => ?_)
            refine ok_wc h16 (by first | exact hs_b (by assumption) (by decide) | exact hs_b2 (by assumption) (by decide) | exact hs_t (by assumption) (by decide) | exact hs_t1 (by assumption) | exact hs_q (by assumption) (by decide) | exact hs_w (by assumption) | exact hs_d (by decide) | exact hs_e (by decide)) (fun s19 h19 => ?_)
            have n20 := h19.nm hbC
            refine ok_wc h19 (by first | exact hs_b (by assumption) (by decide) | exact hs_b2 (by assumption) (by decide) | exact hs_t (by assumption) (by decide) | exact hs_t1 (by assumption) | exact hs_q (by assumption) (by decide) | exact hs_w (by assumption) | exact hs_d (by decide) | exact hs_e (by decide)) (fun s21 h21 => ?_)
            have n22 := h21.nm hbC
            exact ok_some (h21.mono (by omega))
theorem oX5_take {F : Nat} {z : wt_S} (hF : F ≤ 2000000000) {b : Nat} (hb : wt_B b) {s : wt_S} (h : CI F z s) {i1 i2 i3 : Int32} : Ok (fun r s' => CI F z s') (gX5_take b s i1 i2 i3) := by
  obtain ⟨l_0, l_1, l_2, l_3, l_4, l_5, l_6, l_8, l_9, l_10, l_12, l_16, l_40, l_100, l_160, l_200, l_256, l_640, l_2000, l_2048, l_m1⟩ := lits
  have hbC : wt_C b := wt_BC hb
  have n1 := h.nm hbC
  unfold gX5_take 
  refine oX5_take_3 (by omega) (by first | assumption | exact Or.inl rfl | exact Or.inr rfl | exact wt_T57 | exact hc.2 | exact ⟨_, _, wt_BC (by assumption), by assumption, rfl⟩ | exact ⟨_, _, by assumption, by assumption, rfl⟩ | exact ⟨11, _, Or.inl rfl, by assumption, rfl⟩ | exact ⟨40, _, Or.inr (Or.inl rfl), by assumption, rfl⟩ | exact Or.inr (Or.inl rfl) | exact Or.inr (Or.inr rfl)) wt_N _ _ _ _ _ h ?_ (by unfold wt_N; omega)
  · omega
theorem oJ7_fill_53178_5 {F : Nat} {z : wt_S} {r1 n1 : Nat} (hr : ∀ k, ¬ hsp r1 k) : ∀ (fu : Nat) (s : wt_S) (l1 : Int32) (l2 : Int32) (l3 : Int32), CI F z s → (0 ≤ l2.toInt ∧ l3.toInt ≤ n1 ∧ l3.toInt ≤ 100000) → (l3.toInt - l2.toInt).toNat < fu → Ok (fun r s' => CI F z s') (gJ7_fill_53178_5 r1 n1 fu s l1 l2 l3) := by
  intro fu
  induction fu with
  | zero => intro s l1 l2 l3 h hc hm; exact absurd hm (Nat.not_lt_zero _)
  | succ n ih =>
    intro s l1 l2 l3 h hc hm
    rw [gJ7_fill_53178_5]
    refine ok_if (fun _ => ok_some h) (fun _ => ?_)
    refine ok_ix (by omega) (by omega) (fun k _ _ => ?_)
    refine ok_wc h (hr _) (fun s1 h1 => ?_)
    have e := i_inc (x := l2) (by omega)
    exact ih _ _ _ _ h1 (by omega) (by omega)
theorem oJ7_fill_53178 {F : Nat} {z : wt_S} {r1 n1 : Nat} (hr : ∀ k, ¬ hsp r1 k) (hn : n1 ≤ 100000) {s : wt_S} (h : CI F z s) {i1 : Int32} : Ok (fun r s' => CI F z s') (gJ7_fill_53178 r1 n1 s i1) := by
  unfold gJ7_fill_53178
  have e : (Int32.ofInt (Int.ofNat n1)) = nI n1 := Int32.ofInt_eq_ofNat ..
  have e2 : (nI n1).toInt = n1 := nI_int (by omega)
  rw [e]
  have l0 : (0 : Int32).toInt = 0 := rfl
  exact oJ7_fill_53178_5 hr wt_N s i1 0 (nI n1) h (by omega) (by unfold wt_N; omega)
theorem oX7_dropStack {F : Nat} {z : wt_S} (hF : F ≤ 2000000000) {t : Nat} (ht : wt_T t) {s : wt_S} (h : CI F z s) : Ok (fun r s' => CI F z s') (gX7_dropStack t s) := by
  obtain ⟨l_0, l_1, l_2, l_3, l_4, l_5, l_6, l_8, l_9, l_10, l_12, l_16, l_40, l_100, l_160, l_200, l_256, l_640, l_2000, l_2048, l_m1⟩ := lits
  unfold gX7_dropStack 
  refine ok_ws (h.ut (Nat.le_refl _) ht (by omega)) (fun s1 h1 => ?_)
  refine ok_wc h1 (by first | exact hs_b (by assumption) (by decide) | exact hs_b2 (by assumption) (by decide) | exact hs_t (by assumption) (by decide) | exact hs_t1 (by assumption) | exact hs_q (by assumption) (by decide) | exact hs_w (by assumption) | exact hs_d (by decide) | exact hs_e (by decide)) (fun s2 h2 => ?_)
  refine ok_wc h2 (by first | exact hs_b (by assumption) (by decide) | exact hs_b2 (by assumption) (by decide) | exact hs_t (by assumption) (by decide) | exact hs_t1 (by assumption) | exact hs_q (by assumption) (by decide) | exact hs_w (by assumption) | exact hs_d (by decide) | exact hs_e (by decide)) (fun s3 h3 => ?_)
  refine ok_wc h3 (by first | exact hs_b (by assumption) (by decide) | exact hs_b2 (by assumption) (by decide) | exact hs_t (by assumption) (by decide) | exact hs_t1 (by assumption) | exact hs_q (by assumption) (by decide) | exact hs_w (by assumption) | exact hs_d (by decide) | exact hs_e (by decide)) (fun s4 h4 => ?_)
  refine ok_wc h4 (by first | exact hs_b (by assumption) (by decide) | exact hs_b2 (by assumption) (by decide) | exact hs_t (by assumption) (by decide) | exact hs_t1 (by assumption) | exact hs_q (by assumption) (by decide) | exact hs_w (by assumption) | exact hs_d (by decide) | exact hs_e (by decide)) (fun s5 h5 => ?_)
  refine ok_wc h5 (by first | exact hs_b (by assumption) (by decide) | exact hs_b2 (by assumption) (by decide) | exact hs_t (by assumption) (by decide) | exact hs_t1 (by assumption) | exact hs_q (by assumption) (by decide) | exact hs_w (by assumption) | exact hs_d (by decide) | exact hs_e (by decide)) (fun s6 h6 => ?_)
  refine ok_wc h6 (by first | exact hs_b (by assumption) (by decide) | exact hs_b2 (by assumption) (by decide) | exact hs_t (by assumption) (by decide) | exact hs_t1 (by assumption) | exact hs_q (by assumption) (by decide) | exact hs_w (by assumption) | exact hs_d (by decide) | exact hs_e (by decide)) (fun s7 h7 => ?_)
  refine ok_wc h7 (by first | exact hs_b (by assumption) (by decide) | exact hs_b2 (by assumption) (by decide) | exact hs_t (by assumption) (by decide) | exact hs_t1 (by assumption) | exact hs_q (by assumption) (by decide) | exact hs_w (by assumption) | exact hs_d (by decide) | exact hs_e (by decide)) (fun s8 h8 => ?_)
  refine ok_wc h8 (by first | exact hs_b (by assumption) (by decide) | exact hs_b2 (by assumption) (by decide) | exact hs_t (by assumption) (by decide) | exact hs_t1 (by assumption) | exact hs_q (by assumption) (by decide) | exact hs_w (by assumption) | exact hs_d (by decide) | exact hs_e (by decide)) (fun s9 h9 => ?_)
  exact ok_some (h9.mono (by omega))
theorem oX3_word {F : Nat} {z : wt_S} (hF : F ≤ 2000000000) {b : Nat} (hb : wt_B b) {s : wt_S} (h : CI F z s) {i1 : Int32} : Ok (fun r s' => s' = s ∧ (True)) (gX3_word b s i1) := by
  obtain ⟨l_0, l_1, l_2, l_3, l_4, l_5, l_6, l_8, l_9, l_10, l_12, l_16, l_40, l_100, l_160, l_200, l_256, l_640, l_2000, l_2048, l_m1⟩ := lits
  have hbC : wt_C b := wt_BC hb
  have mz := wt_mzn (b := b)
  have mzi := wt_mzi (b := b)
  unfold gX3_word 
  refine ok_if (fun _ => ?_) (fun _ => ?_)
  · exact ok_some ⟨rfl, trivial⟩
  · refine ok_if (fun _ => ?_) (fun _ => ?_)
    · exact ok_some ⟨rfl, trivial⟩
    · refine ok_ix (by omega) (by omega) (fun k1 kl1 ke1 => ?_)
      exact ok_some ⟨rfl, trivial⟩
theorem oX9_lastCovered {F : Nat} {z : wt_S} (hF : F ≤ 2000000000) {b : Nat} (hb : wt_B b) {t : Nat} (ht : wt_T t) {s : wt_S} (h : CI F z s) : Ok (fun r s' => s' = s ∧ (r = 0 ∨ r = 1)) (gX9_lastCovered b t s) := by
  obtain ⟨l_0, l_1, l_2, l_3, l_4, l_5, l_6, l_8, l_9, l_10, l_12, l_16, l_40, l_100, l_160, l_200, l_256, l_640, l_2000, l_2048, l_m1⟩ := lits
  have hbC : wt_C b := wt_BC hb
  unfold gX9_lastCovered 
  refine ok_if (fun _ => ?_) (fun _ => ?_)
  · exact ok_some ⟨rfl, (by first | assumption | exact Or.inl rfl | exact Or.inr rfl | exact hc.2 | omega | exact ⟨Or.inl rfl, Or.inl rfl⟩ | exact ⟨Or.inr rfl, Or.inr (by omega)⟩ | exact ⟨by assumption, by assumption⟩)⟩
  · refine ok_cp (oX3_word (by omega) (by first | assumption | exact Or.inl rfl | exact Or.inr rfl | exact wt_T57 | exact hc.2 | exact ⟨_, _, wt_BC (by assumption), by assumption, rfl⟩ | exact ⟨_, _, by assumption, by assumption, rfl⟩ | exact ⟨11, _, Or.inl rfl, by assumption, rfl⟩ | exact ⟨40, _, Or.inr (Or.inl rfl), by assumption, rfl⟩ | exact Or.inr (Or.inl rfl) | exact Or.inr (Or.inr rfl)) h) (fun v2 q1 => ?_)
    refine ok_if (fun _ => ?_) (fun _ => ?_)
    · exact ok_some ⟨rfl, (by first | assumption | exact Or.inl rfl | exact Or.inr rfl | exact hc.2 | omega | exact ⟨Or.inl rfl, Or.inl rfl⟩ | exact ⟨Or.inr rfl, Or.inr (by omega)⟩ | exact ⟨by assumption, by assumption⟩)⟩
    · exact ok_some ⟨rfl, (by first | assumption | exact Or.inl rfl | exact Or.inr rfl | exact hc.2 | omega | exact ⟨Or.inl rfl, Or.inl rfl⟩ | exact ⟨Or.inr rfl, Or.inr (by omega)⟩ | exact ⟨by assumption, by assumption⟩)⟩
theorem oX9_add {F : Nat} {z : wt_S} (hF : F ≤ 2000000000) {b : Nat} (hb : wt_B b) {t : Nat} (ht : wt_T t) {s : wt_S} (h : CI F z s) {i1 i2 : Int32} : Ok (fun r s' => CI F z s') (gX9_add b t s i1 i2) := by
  obtain ⟨l_0, l_1, l_2, l_3, l_4, l_5, l_6, l_8, l_9, l_10, l_12, l_16, l_40, l_100, l_160, l_200, l_256, l_640, l_2000, l_2048, l_m1⟩ := lits
  have hbC : wt_C b := wt_BC hb
  unfold gX9_add 
  refine ok_if (fun _ => ?_) (fun _ => ?_)
  · exact ok_some (h.mono (by omega))
  · refine ok_if (fun _ => ?_) (fun _ => ?_)
    · exact ok_some (h.mono (by omega))
    · refine ok_ix (by omega) (by omega) (fun k1 kl1 ke1 => ?_)
      refine ok_ix (by omega) (by omega) (fun k3 kl2 ke2 => ?_)
      refine ok_wc h (by first | exact hs_b (by assumption) (by decide) | exact hs_b2 (by assumption) (by decide) | exact hs_t (by assumption) (by decide) | exact hs_t1 (by assumption) | exact hs_q (by assumption) (by decide) | exact hs_w (by assumption) | exact hs_d (by decide) | exact hs_e (by decide)) (fun s3 h3 => ?_)
      refine ok_ix (by omega) (by omega) (fun k4 kl4 ke4 => ?_)
      refine ok_ix (by omega) (by omega) (fun k6 kl5 ke5 => ?_)
      refine ok_wc h3 (by first | exact hs_b (by assumption) (by decide) | exact hs_b2 (by assumption) (by decide) | exact hs_t (by assumption) (by decide) | exact hs_t1 (by assumption) | exact hs_q (by assumption) (by decide) | exact hs_w (by assumption) | exact hs_d (by decide) | exact hs_e (by decide)) (fun s6 h6 => ?_)
      exact ok_some (h6.mono (by omega))
theorem oX9_covers {F : Nat} {z : wt_S} (hF : F ≤ 2000000000) {b : Nat} (hb : wt_B b) {s : wt_S} (h : CI F z s) {i1 : Int32} : Ok (fun r s' => s' = s ∧ (r = 0 ∨ r = 1)) (gX9_covers b s i1) := by
  obtain ⟨l_0, l_1, l_2, l_3, l_4, l_5, l_6, l_8, l_9, l_10, l_12, l_16, l_40, l_100, l_160, l_200, l_256, l_640, l_2000, l_2048, l_m1⟩ := lits
  have hbC : wt_C b := wt_BC hb
  unfold gX9_covers 
  refine ok_cp (oX6_deepOf (by omega) (by first | assumption | exact Or.inl rfl | exact Or.inr rfl | exact wt_T57 | exact hc.2 | exact ⟨_, _, wt_BC (by assumption), by assumption, rfl⟩ | exact ⟨_, _, by assumption, by assumption, rfl⟩ | exact ⟨11, _, Or.inl rfl, by assumption, rfl⟩ | exact ⟨40, _, Or.inr (Or.inl rfl), by assumption, rfl⟩ | exact Or.inr (Or.inl rfl) | exact Or.inr (Or.inr rfl)) h) (fun v2 q1 => ?_)
  refine ok_if (fun _ => ?_) (fun _ => ?_)
  · exact ok_some ⟨rfl, (by first | assumption | exact Or.inl rfl | exact Or.inr rfl | exact hc.2 | omega | exact ⟨Or.inl rfl, Or.inl rfl⟩ | exact ⟨Or.inr rfl, Or.inr (by omega)⟩ | exact ⟨by assumption, by assumption⟩)⟩
  · refine ok_if (fun _ => ?_) (fun _ => ?_)
    · exact ok_some ⟨rfl, (by first | assumption | exact Or.inl rfl | exact Or.inr rfl | exact hc.2 | omega | exact ⟨Or.inl rfl, Or.inl rfl⟩ | exact ⟨Or.inr rfl, Or.inr (by omega)⟩ | exact ⟨by assumption, by assumption⟩)⟩
    · refine ok_if (fun _ => ?_) (fun _ => ?_)
      · exact ok_some ⟨rfl, (by first | assumption | exact Or.inl rfl | exact Or.inr rfl | exact hc.2 | omega | exact ⟨Or.inl rfl, Or.inl rfl⟩ | exact ⟨Or.inr rfl, Or.inr (by omega)⟩ | exact ⟨by assumption, by assumption⟩)⟩
      · exact ok_some ⟨rfl, (by first | assumption | exact Or.inl rfl | exact Or.inr rfl | exact hc.2 | omega | exact ⟨Or.inl rfl, Or.inl rfl⟩ | exact ⟨Or.inr rfl, Or.inr (by omega)⟩ | exact ⟨by assumption, by assumption⟩)⟩
theorem oX9_needOf {F : Nat} {z : wt_S} (hF : F ≤ 2000000000) {b : Nat} (hb : wt_B b) {s : wt_S} (h : CI F z s) {i1 : Int32} : Ok (fun r s' => s' = s ∧ (True)) (gX9_needOf b s i1) := by
  obtain ⟨l_0, l_1, l_2, l_3, l_4, l_5, l_6, l_8, l_9, l_10, l_12, l_16, l_40, l_100, l_160, l_200, l_256, l_640, l_2000, l_2048, l_m1⟩ := lits
  have hbC : wt_C b := wt_BC hb
  unfold gX9_needOf 
  refine ok_cp (oX9_covers (by omega) (by first | assumption | exact Or.inl rfl | exact Or.inr rfl | exact wt_T57 | exact hc.2 | exact ⟨_, _, wt_BC (by assumption), by assumption, rfl⟩ | exact ⟨_, _, by assumption, by assumption, rfl⟩ | exact ⟨11, _, Or.inl rfl, by assumption, rfl⟩ | exact ⟨40, _, Or.inr (Or.inl rfl), by assumption, rfl⟩ | exact Or.inr (Or.inl rfl) | exact Or.inr (Or.inr rfl)) h) (fun v2 q1 => ?_)
  refine ok_if (fun _ => ?_) (fun _ => ?_)
  · refine ok_cp (oX6_frameWords (by omega) (by first | assumption | exact Or.inl rfl | exact Or.inr rfl | exact wt_T57 | exact hc.2 | exact ⟨_, _, wt_BC (by assumption), by assumption, rfl⟩ | exact ⟨_, _, by assumption, by assumption, rfl⟩ | exact ⟨11, _, Or.inl rfl, by assumption, rfl⟩ | exact ⟨40, _, Or.inr (Or.inl rfl), by assumption, rfl⟩ | exact Or.inr (Or.inl rfl) | exact Or.inr (Or.inr rfl)) h) (fun v4 q2 => ?_)
    exact ok_some ⟨rfl, trivial⟩
  · refine ok_cp (oX6_deepOf (by omega) (by first | assumption | exact Or.inl rfl | exact Or.inr rfl | exact wt_T57 | exact hc.2 | exact ⟨_, _, wt_BC (by assumption), by assumption, rfl⟩ | exact ⟨_, _, by assumption, by assumption, rfl⟩ | exact ⟨11, _, Or.inl rfl, by assumption, rfl⟩ | exact ⟨40, _, Or.inr (Or.inl rfl), by assumption, rfl⟩ | exact Or.inr (Or.inl rfl) | exact Or.inr (Or.inr rfl)) h) (fun v6 q3 => ?_)
    exact ok_some ⟨rfl, trivial⟩
theorem oX5_wordsOf {F : Nat} {z : wt_S} (hF : F ≤ 2000000000) {b : Nat} (hb : wt_B b) {s : wt_S} (h : CI F z s) {i1 : Int32} : Ok (fun r s' => s' = s ∧ (True)) (gX5_wordsOf b s i1) := by
  obtain ⟨l_0, l_1, l_2, l_3, l_4, l_5, l_6, l_8, l_9, l_10, l_12, l_16, l_40, l_100, l_160, l_200, l_256, l_640, l_2000, l_2048, l_m1⟩ := lits
  have hbC : wt_C b := wt_BC hb
  have n2 := h.nm hbC
  unfold gX5_wordsOf 
  refine ok_if (fun _ => ?_) (fun _ => ?_)
  · exact ok_some ⟨rfl, trivial⟩
  · refine ok_if (fun _ => ?_) (fun _ => ?_)
    · exact ok_some ⟨rfl, trivial⟩
    · refine ok_ix (by omega) (by omega) (fun k1 kl1 ke1 => ?_)
      exact ok_some ⟨rfl, trivial⟩
theorem oX5_usedOf {F : Nat} {z : wt_S} (hF : F ≤ 2000000000) {b : Nat} (hb : wt_B b) {s : wt_S} (h : CI F z s) {i1 : Int32} : Ok (fun r s' => s' = s ∧ (True)) (gX5_usedOf b s i1) := by
  obtain ⟨l_0, l_1, l_2, l_3, l_4, l_5, l_6, l_8, l_9, l_10, l_12, l_16, l_40, l_100, l_160, l_200, l_256, l_640, l_2000, l_2048, l_m1⟩ := lits
  have hbC : wt_C b := wt_BC hb
  have n2 := h.nm hbC
  unfold gX5_usedOf 
  refine ok_if (fun _ => ?_) (fun _ => ?_)
  · exact ok_some ⟨rfl, trivial⟩
  · refine ok_if (fun _ => ?_) (fun _ => ?_)
    · exact ok_some ⟨rfl, trivial⟩
    · refine ok_ix (by omega) (by omega) (fun k1 kl1 ke1 => ?_)
      exact ok_some ⟨rfl, trivial⟩
theorem oX5_putOver {F : Nat} {z : wt_S} (hF : F ≤ 2000000000) {b : Nat} (hb : wt_B b) {s : wt_S} (h : CI F z s) {i1 i2 : Int32} : Ok (fun r s' => CI F z s') (gX5_putOver b s i1 i2) := by
  obtain ⟨l_0, l_1, l_2, l_3, l_4, l_5, l_6, l_8, l_9, l_10, l_12, l_16, l_40, l_100, l_160, l_200, l_256, l_640, l_2000, l_2048, l_m1⟩ := lits
  have hbC : wt_C b := wt_BC hb
  have n4 := h.nm hbC
  unfold gX5_putOver 
  refine ok_if (fun _ => ?_) (fun _ => ?_)
  · exact ok_some (h.mono (by omega))
  · refine ok_if (fun _ => ?_) (fun _ => ?_)
    · exact ok_some (h.mono (by omega))
    · refine ok_ix (by omega) (by omega) (fun k2 kl1 ke1 => ?_)
      refine ok_wc h (by first | exact hs_b (by assumption) (by decide) | exact hs_b2 (by assumption) (by decide) | exact hs_t (by assumption) (by decide) | exact hs_t1 (by assumption) | exact hs_q (by assumption) (by decide) | exact hs_w (by assumption) | exact hs_d (by decide) | exact hs_e (by decide)) (fun s2 h2 => ?_)
      have n3 := h2.nm hbC
      exact ok_some (h2.mono (by omega))
theorem oX5_ownerOf {F : Nat} {z : wt_S} (hF : F ≤ 2000000000) {b : Nat} (hb : wt_B b) {s : wt_S} (h : CI F z s) {i1 : Int32} : Ok (fun r s' => s' = s ∧ (True)) (gX5_ownerOf b s i1) := by
  obtain ⟨l_0, l_1, l_2, l_3, l_4, l_5, l_6, l_8, l_9, l_10, l_12, l_16, l_40, l_100, l_160, l_200, l_256, l_640, l_2000, l_2048, l_m1⟩ := lits
  have hbC : wt_C b := wt_BC hb
  have n2 := h.nm hbC
  unfold gX5_ownerOf 
  refine ok_if (fun _ => ?_) (fun _ => ?_)
  · exact ok_some ⟨rfl, trivial⟩
  · refine ok_if (fun _ => ?_) (fun _ => ?_)
    · exact ok_some ⟨rfl, trivial⟩
    · refine ok_ix (by omega) (by omega) (fun k1 kl1 ke1 => ?_)
      exact ok_some ⟨rfl, trivial⟩
theorem rem40 (x : Int32) : -40 < (x - x / 40 * 40).toInt ∧ (x - x / 40 * 40).toInt < 40 := by
  have h1 := x.toInt_lt
  have h2 := x.le_toInt
  have hd : (x / 40).toInt = x.toInt.tdiv 40 := by
    rw [Int32.toInt_div]
    show (x.toInt.tdiv 40).bmod _ = _
    have q1 : x.toInt.tdiv 40 * 40 + x.toInt.tmod 40 = x.toInt := Int.tdiv_mul_add_tmod ..
    have q2 : x.toInt.tmod 40 < 40 := Int.tmod_lt_of_pos _ (by decide)
    have q3 : -40 < x.toInt.tmod 40 := Int.lt_tmod_of_pos _ (by decide)
    rw [Int.bmod_eq_of_le]
    · simp at h2 ⊢; omega
    · simp at h1 ⊢; omega
  have q1 : x.toInt.tdiv 40 * 40 + x.toInt.tmod 40 = x.toInt := Int.tdiv_mul_add_tmod ..
  have q2 : x.toInt.tmod 40 < 40 := Int.tmod_lt_of_pos _ (by decide)
  have q3 : -40 < x.toInt.tmod 40 := Int.lt_tmod_of_pos _ (by decide)
  have hr : (x - x / 40 * 40).toInt = x.toInt.tmod 40 := by
    rw [Int32.toInt_sub, Int32.toInt_mul, hd]
    show (x.toInt - (x.toInt.tdiv 40 * 40).bmod _).bmod _ = _
    rw [Int.sub_bmod_bmod, show x.toInt - x.toInt.tdiv 40 * 40 = x.toInt.tmod 40 by omega, Int.bmod_eq_of_le]
    · omega
    · omega
  omega
theorem r40_4 {y : Int32} (h : -40 < y.toInt ∧ y.toInt < 40) (h0 : 0 ≤ (y * 4).toInt) (j : Nat) (hj : j ≤ 3) : 0 ≤ (y * 4 + nI j).toInt ∧ (y * 4 + nI j).toInt < 160 := by
  have h4 : (y * 4).toInt = y.toInt * 4 := by
    rw [Int32.toInt_mul]
    show (y.toInt * 4).bmod _ = _
    rw [Int.bmod_eq_of_le]
    · simp; omega
    · simp; omega
  obtain ⟨a, a1, a2, a3, a4⟩ := i_nat (x := y * 4) h0
  rw [a2, nI_add, nI_int (by omega)]
  omega
theorem oX1_write {F : Nat} {z : wt_S} (hF : F ≤ 2000000000) {b : Nat} (hb : wt_B b) {s : wt_S} (h : CI F z s) {i1 i2 i3 i4 : Int32} : Ok (fun r s' => CI F z s') (gX1_write b s i1 i2 i3 i4) := by
  have hbn : b = 11 ∨ b = 40 ∨ b = 81 := wt_BC hb
  have l0 : (0 : Int32).toInt = 0 := rfl
  unfold gX1_write
  have hr := rem40 (s (b + 11) 1)
  generalize (s (b + 11) 1 - s (b + 11) 1 / 40 * 40) = y at *
  refine ok_if (fun _ => ok_some h) (fun c => ok_if (fun _ => ok_some h) (fun _ => ?_))
  have r0 := r40_4 hr (by omega) 0 (by omega)
  have r1 := r40_4 hr (by omega) 1 (by omega)
  have r2 := r40_4 hr (by omega) 2 (by omega)
  have r3 := r40_4 hr (by omega) 3 (by omega)
  rw [show y * 4 + nI 0 = y * 4 from Int32.add_zero _] at r0
  refine ok_ix (by omega) (by omega) (fun k2 _ _ => ?_)
  refine ok_wc h (by unfold hsp; omega) (fun s1 h1 => ?_)
  refine ok_ix r1.1 r1.2 (fun k2 _ _ => ?_)
  refine ok_wc h1 (by unfold hsp; omega) (fun s2 h2 => ?_)
  refine ok_ix r2.1 r2.2 (fun k2 _ _ => ?_)
  refine ok_wc h2 (by unfold hsp; omega) (fun s3 h3 => ?_)
  refine ok_ix r3.1 r3.2 (fun k2 _ _ => ?_)
  refine ok_wc h3 (by unfold hsp; omega) (fun s4 h4 => ?_)
  exact ok_wc h4 (by unfold hsp; omega) (fun s5 h5 => ok_some h5)
theorem oX9_writeLog {F : Nat} {z : wt_S} (hF : F ≤ 2000000000) {b : Nat} (hb : wt_B b) {s : wt_S} (h : CI F z s) {i1 i2 : Int32} : Ok (fun r s' => CI F z s') (gX9_writeLog b s i1 i2) := by
  obtain ⟨l_0, l_1, l_2, l_3, l_4, l_5, l_6, l_8, l_9, l_10, l_12, l_16, l_40, l_100, l_160, l_200, l_256, l_640, l_2000, l_2048, l_m1⟩ := lits
  have hbC : wt_C b := wt_BC hb
  unfold gX9_writeLog 
  refine ok_cp (oX5_ownerOf (by omega) (by first | assumption | exact Or.inl rfl | exact Or.inr rfl | exact wt_T57 | exact hc.2 | exact ⟨_, _, wt_BC (by assumption), by assumption, rfl⟩ | exact ⟨_, _, by assumption, by assumption, rfl⟩ | exact ⟨11, _, Or.inl rfl, by assumption, rfl⟩ | exact ⟨40, _, Or.inr (Or.inl rfl), by assumption, rfl⟩ | exact Or.inr (Or.inl rfl) | exact Or.inr (Or.inr rfl)) h) (fun v2 q1 => ?_)
  refine ok_cp (oX5_placeOf (by omega) (by first | assumption | exact Or.inl rfl | exact Or.inr rfl | exact wt_T57 | exact hc.2 | exact ⟨_, _, wt_BC (by assumption), by assumption, rfl⟩ | exact ⟨_, _, by assumption, by assumption, rfl⟩ | exact ⟨11, _, Or.inl rfl, by assumption, rfl⟩ | exact ⟨40, _, Or.inr (Or.inl rfl), by assumption, rfl⟩ | exact Or.inr (Or.inl rfl) | exact Or.inr (Or.inr rfl)) h) (fun v4 q2 => ?_)
  refine ok_cp (oX5_wordsOf (by omega) (by first | assumption | exact Or.inl rfl | exact Or.inr rfl | exact wt_T57 | exact hc.2 | exact ⟨_, _, wt_BC (by assumption), by assumption, rfl⟩ | exact ⟨_, _, by assumption, by assumption, rfl⟩ | exact ⟨11, _, Or.inl rfl, by assumption, rfl⟩ | exact ⟨40, _, Or.inr (Or.inl rfl), by assumption, rfl⟩ | exact Or.inr (Or.inl rfl) | exact Or.inr (Or.inr rfl)) h) (fun v6 q3 => ?_)
  refine ok_cl (oX1_write (by omega) (by first | assumption | exact Or.inl rfl | exact Or.inr rfl | exact wt_T57 | exact hc.2 | exact ⟨_, _, wt_BC (by assumption), by assumption, rfl⟩ | exact ⟨_, _, by assumption, by assumption, rfl⟩ | exact ⟨11, _, Or.inl rfl, by assumption, rfl⟩ | exact ⟨40, _, Or.inr (Or.inl rfl), by assumption, rfl⟩ | exact Or.inr (Or.inl rfl) | exact Or.inr (Or.inr rfl)) h) (fun _ s7 h4 => ?_)
  exact ok_some (h4.mono (by omega))
theorem oX5_rankOf_12 {F : Nat} {z : wt_S} (hF : F ≤ 2000000000) {b : Nat} (hb : wt_B b) : ∀ (fu : Nat) (s : wt_S) (l1 : Int32) (l2 : Int32) (l3 : Int32) (l4 : Int32), CI F z s → (0 ≤ l2.toInt ∧ l2.toInt ≤ 256 ∧ -1 ≤ l3.toInt ∧ 0 ≤ l4.toInt ∧ l4.toInt ≤ 256) → (256 - l4.toInt).toNat < fu → Ok (fun r s' => s' = s ∧ (0 ≤ r.toInt ∧ r.toInt ≤ 256)) (gX5_rankOf_12 b fu s l1 l2 l3 l4) := by
  obtain ⟨l_0, l_1, l_2, l_3, l_4, l_5, l_6, l_8, l_9, l_10, l_12, l_16, l_40, l_100, l_160, l_200, l_256, l_640, l_2000, l_2048, l_m1⟩ := lits
  intro fu
  induction fu with
  | zero => intro s l1 l2 l3 l4 h hc hm; exact absurd hm (Nat.not_lt_zero _)
  | succ n ih =>
    intro s l1 l2 l3 l4 h hc hm
    rw [gX5_rankOf_12]
    unfold gX5_rankOf_80
    refine ok_if (fun _ => ok_some ⟨rfl, by omega⟩) (fun _ => ok_if (fun _ => ok_some ⟨rfl, by omega⟩) (fun _ => ok_if (fun _ => ok_some ⟨rfl, by omega⟩) (fun _ => ?_)))
    obtain ⟨a, a1, rfl, a3, a4⟩ := i_nat (x := l2) (by omega)
    obtain ⟨c, c1, rfl, c3, c4⟩ := i_nat (x := l3) (by omega)
    have em : (nI a + nI c + 1) / 2 = nI ((a + c + 1) / 2) := by rw [nI_add, nI_1, nI_half (by omega)]
    rw [em, ix_nI (by omega) (by omega)]
    have e4 := i_inc (x := l4) (by omega)
    have hm1 : (nI ((a + c + 1) / 2)).toInt = ((a + c + 1) / 2 : Nat) := nI_int (by omega)
    have hm2 : (nI ((a + c + 1) / 2) - 1).toInt = ((a + c + 1) / 2 : Nat) - 1 := by rw [i_dec2 (by omega), hm1]
    refine ok_if (fun _ => ih _ _ _ _ _ h (by omega) (by omega)) (fun _ => ok_if (fun _ => ih _ _ _ _ _ h (by omega) (by omega)) (fun _ => ?_))
    refine ok_ix (by omega) (by omega) (fun k2 _ _ => ?_)
    exact ok_if (fun _ => ih _ _ _ _ _ h (by omega) (by omega)) (fun _ => ih _ _ _ _ _ h (by omega) (by omega))
theorem oX5_rankOf {F : Nat} {z : wt_S} (hF : F ≤ 2000000000) {b : Nat} (hb : wt_B b) {s : wt_S} (h : CI F z s) {i1 : Int32} : Ok (fun r s' => s' = s ∧ (0 ≤ r.toInt ∧ r.toInt ≤ 256)) (gX5_rankOf b s i1) := by
  unfold gX5_rankOf
  have n0 := h.nm (wt_BC hb)
  have e1 := i_dec2 (x := s (b + 2) 7) (by omega)
  have l0 : (0 : Int32).toInt = 0 := rfl
  exact oX5_rankOf_12 hF hb wt_N s i1 0 _ 0 h (by omega) (by unfold wt_N; omega)
theorem oX5_giveBack {F : Nat} {z : wt_S} (hF : F ≤ 2000000000) {b : Nat} (hb : wt_B b) {s : wt_S} (h : CI F z s) {i1 : Int32} : Ok (fun r s' => CI F z s') (gX5_giveBack b s i1) := by
  obtain ⟨l_0, l_1, l_2, l_3, l_4, l_5, l_6, l_8, l_9, l_10, l_12, l_16, l_40, l_100, l_160, l_200, l_256, l_640, l_2000, l_2048, l_m1⟩ := lits
  have hbC : wt_C b := wt_BC hb
  have hbn : b = 11 ∨ b = 40 ∨ b = 81 := hbC
  have n0 := h.nm hbC
  unfold gX5_giveBack
  refine ok_cp (oX5_placeOf hF hb h) (fun v2 q2 => ?_)
  refine ok_cp (oX5_rankOf hF hb h) (fun v4 q4 => ?_)
  refine ok_if (fun _ => ok_some h) (fun _ => ok_if (fun _ => ok_some h) (fun _ => ok_if (fun _ => ok_some h) (fun _ => ?_)))
  refine ok_cp (oX5_idAt hF hb h) (fun v6 q6 => ?_)
  refine ok_if (fun _ => ?_) (fun _ => ok_some h)
  rw [wr_eq]
  have e1 := i_dec2 (x := s (b + 2) 7) (by omega)
  have h1 : CI F z (wt_u s (b + 2) 7 (s (b + 2) 7 - 1)) := h.un hbC (by omega)
  have e2 := i_inc (x := v4) (by omega)
  have en : (wt_u s (b + 2) 7 (s (b + 2) 7 - 1)) (b + 2) 7 = s (b + 2) 7 - 1 := wt_u_self
  generalize wt_u s (b + 2) 7 (s (b + 2) 7 - 1) = s1 at *
  rw [en]
  have e3 := i_subb (x := s (b + 2) 7 - 1) (y := v4) (by omega)
  unfold wt_ac
  rw [if_pos (by omega)]
  have h2 : CI F z (wt_uf s1 (b + 8) (mj_cpy (s1 (b + 8)) (s1 (b + 8)) (v4 + 1).toInt.toNat v4.toInt.toNat (s (b + 2) 7 - 1 - v4).toInt.toNat)) := h1.uf (fun k => by unfold hsp; omega)
  have en2 : (wt_uf s1 (b + 8) (mj_cpy (s1 (b + 8)) (s1 (b + 8)) (v4 + 1).toInt.toNat v4.toInt.toNat (s (b + 2) 7 - 1 - v4).toInt.toNat)) (b + 2) 7 = s (b + 2) 7 - 1 := by rw [wt_uf_ne (by omega)]; exact en
  generalize wt_uf s1 (b + 8) (mj_cpy (s1 (b + 8)) (s1 (b + 8)) (v4 + 1).toInt.toNat v4.toInt.toNat (s (b + 2) 7 - 1 - v4).toInt.toNat) = s2 at *
  dsimp only
  rw [en2]
  refine ok_ix (by omega) (by omega) (fun k10 _ _ => ?_)
  refine ok_wc h2 (by unfold hsp; omega) (fun s3 h3 => ?_)
  refine ok_cp (oX5_wordsOf hF hb h3) (fun v12 q12 => ?_)
  exact ok_wc h3 (by unfold hsp; omega) (fun s4 h4 => ok_some h4)
theorem oX4_dropSpare {F : Nat} {z : wt_S} (hF : F ≤ 2000000000) {b : Nat} (hb : wt_B b) {t : Nat} (ht : wt_T t) {s : wt_S} (h : CI F z s) : Ok (fun r s' => CI F z s' ∧ (r = 0 ∨ r = 1)) (gX4_dropSpare b t s) := by
  obtain ⟨l_0, l_1, l_2, l_3, l_4, l_5, l_6, l_8, l_9, l_10, l_12, l_16, l_40, l_100, l_160, l_200, l_256, l_640, l_2000, l_2048, l_m1⟩ := lits
  have hbC : wt_C b := wt_BC hb
  unfold gX4_dropSpare 
  refine ok_if (fun _ => ?_) (fun _ => ?_)
  · refine ok_wc h (by first | exact hs_b (by assumption) (by decide) | exact hs_b2 (by assumption) (by decide) | exact hs_t (by assumption) (by decide) | exact hs_t1 (by assumption) | exact hs_q (by assumption) (by decide) | exact hs_w (by assumption) | exact hs_d (by decide) | exact hs_e (by decide)) (fun s1 h1 => ?_)
    refine ok_cl (oX9_writeLog (by omega) (by first | assumption | exact Or.inl rfl | exact Or.inr rfl | exact wt_T57 | exact hc.2 | exact ⟨_, _, wt_BC (by assumption), by assumption, rfl⟩ | exact ⟨_, _, by assumption, by assumption, rfl⟩ | exact ⟨11, _, Or.inl rfl, by assumption, rfl⟩ | exact ⟨40, _, Or.inr (Or.inl rfl), by assumption, rfl⟩ | exact Or.inr (Or.inl rfl) | exact Or.inr (Or.inr rfl)) h1) (fun _ s2 h2 => ?_)
    refine ok_cl (oX5_giveBack (by omega) (by first | assumption | exact Or.inl rfl | exact Or.inr rfl | exact wt_T57 | exact hc.2 | exact ⟨_, _, wt_BC (by assumption), by assumption, rfl⟩ | exact ⟨_, _, by assumption, by assumption, rfl⟩ | exact ⟨11, _, Or.inl rfl, by assumption, rfl⟩ | exact ⟨40, _, Or.inr (Or.inl rfl), by assumption, rfl⟩ | exact Or.inr (Or.inl rfl) | exact Or.inr (Or.inr rfl)) h2) (fun _ s3 h3 => ?_)
    exact ok_some ⟨h3.mono (by omega), (by first | assumption | exact Or.inl rfl | exact Or.inr rfl | exact hc.2 | omega | exact ⟨Or.inl rfl, Or.inl rfl⟩ | exact ⟨Or.inr rfl, Or.inr (by omega)⟩ | exact ⟨by assumption, by assumption⟩)⟩
  · exact ok_some ⟨h.mono (by omega), (by first | assumption | exact Or.inl rfl | exact Or.inr rfl | exact hc.2 | omega | exact ⟨Or.inl rfl, Or.inl rfl⟩ | exact ⟨Or.inr rfl, Or.inr (by omega)⟩ | exact ⟨by assumption, by assumption⟩)⟩
theorem oX4_linkPiece {F : Nat} {z : wt_S} (hF : F ≤ 2000000000) {b : Nat} (hb : wt_B b) {t : Nat} (ht : wt_T t) {s : wt_S} (h : CI F z s) {i1 : Int32} : Ok (fun r s' => CI F z s' ∧ (r = 0 ∨ r = 1)) (gX4_linkPiece b t s i1) := by
  obtain ⟨l_0, l_1, l_2, l_3, l_4, l_5, l_6, l_8, l_9, l_10, l_12, l_16, l_40, l_100, l_160, l_200, l_256, l_640, l_2000, l_2048, l_m1⟩ := lits
  have hbC : wt_C b := wt_BC hb
  unfold gX4_linkPiece gX4_linkPiece_66
  refine ok_if (fun _ => ?_) (fun _ => ?_)
  · refine ok_cl (oX4_dropSpare (by omega) (by first | assumption | exact Or.inl rfl | exact Or.inr rfl | exact wt_T57 | exact hc.2 | exact ⟨_, _, wt_BC (by assumption), by assumption, rfl⟩ | exact ⟨_, _, by assumption, by assumption, rfl⟩ | exact ⟨11, _, Or.inl rfl, by assumption, rfl⟩ | exact ⟨40, _, Or.inr (Or.inl rfl), by assumption, rfl⟩ | exact Or.inr (Or.inl rfl) | exact Or.inr (Or.inr rfl)) (by first | assumption | exact Or.inl rfl | exact Or.inr rfl | exact wt_T57 | exact hc.2 | exact ⟨_, _, wt_BC (by assumption), by assumption, rfl⟩ | exact ⟨_, _, by assumption, by assumption, rfl⟩ | exact ⟨11, _, Or.inl rfl, by assumption, rfl⟩ | exact ⟨40, _, Or.inr (Or.inl rfl), by assumption, rfl⟩ | exact Or.inr (Or.inl rfl) | exact Or.inr (Or.inr rfl)) h) (fun v2 s1 ⟨h1, q1⟩ => ?_)
    refine ok_cp (oJ9_max_7cf53 (by omega)  h1) (fun v4 q2 => ?_)
    refine ok_cl (oX5_take (by omega) (by first | assumption | exact Or.inl rfl | exact Or.inr rfl | exact wt_T57 | exact hc.2 | exact ⟨_, _, wt_BC (by assumption), by assumption, rfl⟩ | exact ⟨_, _, by assumption, by assumption, rfl⟩ | exact ⟨11, _, Or.inl rfl, by assumption, rfl⟩ | exact ⟨40, _, Or.inr (Or.inl rfl), by assumption, rfl⟩ | exact Or.inr (Or.inl rfl) | exact Or.inr (Or.inr rfl)) h1) (fun v6 s5 h3 => ?_)
    refine ok_if (fun _ => ?_) (fun _ => ?_)
    · refine ok_wc h3 (by first | exact hs_b (by assumption) (by decide) | exact hs_b2 (by assumption) (by decide) | exact hs_t (by assumption) (by decide) | exact hs_t1 (by assumption) | exact hs_q (by assumption) (by decide) | exact hs_w (by assumption) | exact hs_d (by decide) | exact hs_e (by decide)) (fun s4 h4 => ?_)
      refine ok_cl (oX9_add (by omega) (by first | assumption | exact Or.inl rfl | exact Or.inr rfl | exact wt_T57 | exact hc.2 | exact ⟨_, _, wt_BC (by assumption), by assumption, rfl⟩ | exact ⟨_, _, by assumption, by assumption, rfl⟩ | exact ⟨11, _, Or.inl rfl, by assumption, rfl⟩ | exact ⟨40, _, Or.inr (Or.inl rfl), by assumption, rfl⟩ | exact Or.inr (Or.inl rfl) | exact Or.inr (Or.inr rfl)) (by first | assumption | exact Or.inl rfl | exact Or.inr rfl | exact wt_T57 | exact hc.2 | exact ⟨_, _, wt_BC (by assumption), by assumption, rfl⟩ | exact ⟨_, _, by assumption, by assumption, rfl⟩ | exact ⟨11, _, Or.inl rfl, by assumption, rfl⟩ | exact ⟨40, _, Or.inr (Or.inl rfl), by assumption, rfl⟩ | exact Or.inr (Or.inl rfl) | exact Or.inr (Or.inr rfl)) h4) (fun _ s8 h5 => ?_)
      refine ok_cl (oX9_writeLog (by omega) (by first | assumption | exact Or.inl rfl | exact Or.inr rfl | exact wt_T57 | exact hc.2 | exact ⟨_, _, wt_BC (by assumption), by assumption, rfl⟩ | exact ⟨_, _, by assumption, by assumption, rfl⟩ | exact ⟨11, _, Or.inl rfl, by assumption, rfl⟩ | exact ⟨40, _, Or.inr (Or.inl rfl), by assumption, rfl⟩ | exact Or.inr (Or.inl rfl) | exact Or.inr (Or.inr rfl)) h5) (fun _ s9 h6 => ?_)
      exact ok_some ⟨h6.mono (by omega), (by first | assumption | exact Or.inl rfl | exact Or.inr rfl | exact hc.2 | omega | exact ⟨Or.inl rfl, Or.inl rfl⟩ | exact ⟨Or.inr rfl, Or.inr (by omega)⟩ | exact ⟨by assumption, by assumption⟩)⟩
    · exact ok_some ⟨h3.mono (by omega), (by first | assumption | exact Or.inl rfl | exact Or.inr rfl | exact hc.2 | omega | exact ⟨Or.inl rfl, Or.inl rfl⟩ | exact ⟨Or.inr rfl, Or.inr (by omega)⟩ | exact ⟨by assumption, by assumption⟩)⟩
  · refine ok_cp (oX5_wordsOf (by omega) (by first | assumption | exact Or.inl rfl | exact Or.inr rfl | exact wt_T57 | exact hc.2 | exact ⟨_, _, wt_BC (by assumption), by assumption, rfl⟩ | exact ⟨_, _, by assumption, by assumption, rfl⟩ | exact ⟨11, _, Or.inl rfl, by assumption, rfl⟩ | exact ⟨40, _, Or.inr (Or.inl rfl), by assumption, rfl⟩ | exact Or.inr (Or.inl rfl) | exact Or.inr (Or.inr rfl)) h) (fun v2 q7 => ?_)
    refine ok_if (fun _ => ?_) (fun _ => ?_)
    · refine ok_cl (oX4_dropSpare (by omega) (by first | assumption | exact Or.inl rfl | exact Or.inr rfl | exact wt_T57 | exact hc.2 | exact ⟨_, _, wt_BC (by assumption), by assumption, rfl⟩ | exact ⟨_, _, by assumption, by assumption, rfl⟩ | exact ⟨11, _, Or.inl rfl, by assumption, rfl⟩ | exact ⟨40, _, Or.inr (Or.inl rfl), by assumption, rfl⟩ | exact Or.inr (Or.inl rfl) | exact Or.inr (Or.inr rfl)) (by first | assumption | exact Or.inl rfl | exact Or.inr rfl | exact wt_T57 | exact hc.2 | exact ⟨_, _, wt_BC (by assumption), by assumption, rfl⟩ | exact ⟨_, _, by assumption, by assumption, rfl⟩ | exact ⟨11, _, Or.inl rfl, by assumption, rfl⟩ | exact ⟨40, _, Or.inr (Or.inl rfl), by assumption, rfl⟩ | exact Or.inr (Or.inl rfl) | exact Or.inr (Or.inr rfl)) h) (fun v2 s1 ⟨h8, q8⟩ => ?_)
      refine ok_cp (oJ9_max_7cf53 (by omega)  h8) (fun v4 q9 => ?_)
      refine ok_cl (oX5_take (by omega) (by first | assumption | exact Or.inl rfl | exact Or.inr rfl | exact wt_T57 | exact hc.2 | exact ⟨_, _, wt_BC (by assumption), by assumption, rfl⟩ | exact ⟨_, _, by assumption, by assumption, rfl⟩ | exact ⟨11, _, Or.inl rfl, by assumption, rfl⟩ | exact ⟨40, _, Or.inr (Or.inl rfl), by assumption, rfl⟩ | exact Or.inr (Or.inl rfl) | exact Or.inr (Or.inr rfl)) h8) (fun v6 s5 h10 => ?_)
      refine ok_if (fun _ => ?_) (fun _ => ?_)
      · refine ok_wc h10 (by first | exact hs_b (by assumption) (by decide) | exact hs_b2 (by assumption) (by decide) | exact hs_t (by assumption) (by decide) | exact hs_t1 (by assumption) | exact hs_q (by assumption) (by decide) | exact hs_w (by assumption) | exact hs_d (by decide) | exact hs_e (by decide)) (fun s11 h11 => ?_)
        refine ok_cl (oX9_add (by omega) (by first | assumption | exact Or.inl rfl | exact Or.inr rfl | exact wt_T57 | exact hc.2 | exact ⟨_, _, wt_BC (by assumption), by assumption, rfl⟩ | exact ⟨_, _, by assumption, by assumption, rfl⟩ | exact ⟨11, _, Or.inl rfl, by assumption, rfl⟩ | exact ⟨40, _, Or.inr (Or.inl rfl), by assumption, rfl⟩ | exact Or.inr (Or.inl rfl) | exact Or.inr (Or.inr rfl)) (by first | assumption | exact Or.inl rfl | exact Or.inr rfl | exact wt_T57 | exact hc.2 | exact ⟨_, _, wt_BC (by assumption), by assumption, rfl⟩ | exact ⟨_, _, by assumption, by assumption, rfl⟩ | exact ⟨11, _, Or.inl rfl, by assumption, rfl⟩ | exact ⟨40, _, Or.inr (Or.inl rfl), by assumption, rfl⟩ | exact Or.inr (Or.inl rfl) | exact Or.inr (Or.inr rfl)) h11) (fun _ s8 h12 => ?_)
        refine ok_cl (oX9_writeLog (by omega) (by first | assumption | exact Or.inl rfl | exact Or.inr rfl | exact wt_T57 | exact hc.2 | exact ⟨_, _, wt_BC (by assumption), by assumption, rfl⟩ | exact ⟨_, _, by assumption, by assumption, rfl⟩ | exact ⟨11, _, Or.inl rfl, by assumption, rfl⟩ | exact ⟨40, _, Or.inr (Or.inl rfl), by assumption, rfl⟩ | exact Or.inr (Or.inl rfl) | exact Or.inr (Or.inr rfl)) h12) (fun _ s9 h13 => ?_)
        exact ok_some ⟨h13.mono (by omega), (by first | assumption | exact Or.inl rfl | exact Or.inr rfl | exact hc.2 | omega | exact ⟨Or.inl rfl, Or.inl rfl⟩ | exact ⟨Or.inr rfl, Or.inr (by omega)⟩ | exact ⟨by assumption, by assumption⟩)⟩
      · exact ok_some ⟨h10.mono (by omega), (by first | assumption | exact Or.inl rfl | exact Or.inr rfl | exact hc.2 | omega | exact ⟨Or.inl rfl, Or.inl rfl⟩ | exact ⟨Or.inr rfl, Or.inr (by omega)⟩ | exact ⟨by assumption, by assumption⟩)⟩
    · refine ok_wc h (by first | exact hs_b (by assumption) (by decide) | exact hs_b2 (by assumption) (by decide) | exact hs_t (by assumption) (by decide) | exact hs_t1 (by assumption) | exact hs_q (by assumption) (by decide) | exact hs_w (by assumption) | exact hs_d (by decide) | exact hs_e (by decide)) (fun s14 h14 => ?_)
      refine ok_cl (oX5_putOver (by omega) (by first | assumption | exact Or.inl rfl | exact Or.inr rfl | exact wt_T57 | exact hc.2 | exact ⟨_, _, wt_BC (by assumption), by assumption, rfl⟩ | exact ⟨_, _, by assumption, by assumption, rfl⟩ | exact ⟨11, _, Or.inl rfl, by assumption, rfl⟩ | exact ⟨40, _, Or.inr (Or.inl rfl), by assumption, rfl⟩ | exact Or.inr (Or.inl rfl) | exact Or.inr (Or.inr rfl)) h14) (fun _ s4 h15 => ?_)
      refine ok_wc h15 (by first | exact hs_b (by assumption) (by decide) | exact hs_b2 (by assumption) (by decide) | exact hs_t (by assumption) (by decide) | exact hs_t1 (by assumption) | exact hs_q (by assumption) (by decide) | exact hs_w (by assumption) | exact hs_d (by decide) | exact hs_e (by decide)) (fun s16 h16 => ?_)
      refine ok_cl (oX9_add (by omega) (by first | assumption | exact Or.inl rfl | exact Or.inr rfl | exact wt_T57 | exact hc.2 | exact ⟨_, _, wt_BC (by assumption), by assumption, rfl⟩ | exact ⟨_, _, by assumption, by assumption, rfl⟩ | exact ⟨11, _, Or.inl rfl, by assumption, rfl⟩ | exact ⟨40, _, Or.inr (Or.inl rfl), by assumption, rfl⟩ | exact Or.inr (Or.inl rfl) | exact Or.inr (Or.inr rfl)) (by first | assumption | exact Or.inl rfl | exact Or.inr rfl | exact wt_T57 | exact hc.2 | exact ⟨_, _, wt_BC (by assumption), by assumption, rfl⟩ | exact ⟨_, _, by assumption, by assumption, rfl⟩ | exact ⟨11, _, Or.inl rfl, by assumption, rfl⟩ | exact ⟨40, _, Or.inr (Or.inl rfl), by assumption, rfl⟩ | exact Or.inr (Or.inl rfl) | exact Or.inr (Or.inr rfl)) h16) (fun _ s6 h17 => ?_)
      refine ok_cl (oX9_writeLog (by omega) (by first | assumption | exact Or.inl rfl | exact Or.inr rfl | exact wt_T57 | exact hc.2 | exact ⟨_, _, wt_BC (by assumption), by assumption, rfl⟩ | exact ⟨_, _, by assumption, by assumption, rfl⟩ | exact ⟨11, _, Or.inl rfl, by assumption, rfl⟩ | exact ⟨40, _, Or.inr (Or.inl rfl), by assumption, rfl⟩ | exact Or.inr (Or.inl rfl) | exact Or.inr (Or.inr rfl)) h17) (fun _ s7 h18 => ?_)
      exact ok_some ⟨h18.mono (by omega), (by first | assumption | exact Or.inl rfl | exact Or.inr rfl | exact hc.2 | omega | exact ⟨Or.inl rfl, Or.inl rfl⟩ | exact ⟨Or.inr rfl, Or.inr (by omega)⟩ | exact ⟨by assumption, by assumption⟩)⟩
theorem oX4_doubled_4 {F : Nat} {z : wt_S} (hF : F ≤ 2000000000)  : ∀ (fu : Nat) (s : wt_S) (l1 : Int32) (l2 : Int32) (l3 : Int32), CI F z s → (0 ≤ l3.toInt ∧ l3.toInt ≤ 16) → (16 - l3.toInt).toNat < fu → Ok (fun r s' => s' = s ∧ (True)) (gX4_doubled_4  fu s l1 l2 l3) := by
  obtain ⟨l_0, l_1, l_2, l_3, l_4, l_5, l_6, l_8, l_9, l_10, l_12, l_16, l_40, l_100, l_160, l_200, l_256, l_640, l_2000, l_2048, l_m1⟩ := lits
  intro fu
  induction fu with
  | zero => intro s l1 l2 l3 h hc hm; exact absurd hm (Nat.not_lt_zero _)
  | succ n ih =>
    intro s l1 l2 l3 h hc hm
    rw [gX4_doubled_4]
    refine ok_if (fun _ => ?_) (fun _ => ?_)
    · exact ok_some ⟨rfl, trivial⟩
    · refine ok_if (fun _ => ?_) (fun _ => ?_)
      · exact ok_some ⟨rfl, trivial⟩
      · have e1 := i_inc (x := l3) (by omega)
        exact ih _ _ _ _ h (by omega) (by omega)
theorem oX4_doubled {F : Nat} {z : wt_S} (hF : F ≤ 2000000000)  {s : wt_S} (h : CI F z s) {i1 i2 : Int32} : Ok (fun r s' => s' = s ∧ (True)) (gX4_doubled s i1 i2) := by
  obtain ⟨l_0, l_1, l_2, l_3, l_4, l_5, l_6, l_8, l_9, l_10, l_12, l_16, l_40, l_100, l_160, l_200, l_256, l_640, l_2000, l_2048, l_m1⟩ := lits
  unfold gX4_doubled 
  refine oX4_doubled_4 (by omega)  wt_N _ _ _ _ h ?_ (by unfold wt_N; omega)
  · omega
theorem oX5_aimAt {F : Nat} {z : wt_S} (hF : F ≤ 2000000000) {b : Nat} (hb : wt_B b) {s : wt_S} (h : CI F z s) {i1 i2 : Int32} : Ok (fun r s' => CI F z s') (gX5_aimAt b s i1 i2) := by
  obtain ⟨l_0, l_1, l_2, l_3, l_4, l_5, l_6, l_8, l_9, l_10, l_12, l_16, l_40, l_100, l_160, l_200, l_256, l_640, l_2000, l_2048, l_m1⟩ := lits
  have hbC : wt_C b := wt_BC hb
  have n5 := h.nm hbC
  unfold gX5_aimAt 
  refine ok_if (fun _ => ?_) (fun _ => ?_)
  · exact ok_some (h.mono (by omega))
  · refine ok_if (fun _ => ?_) (fun _ => ?_)
    · exact ok_some (h.mono (by omega))
    · refine ok_ix (by omega) (by omega) (fun k1 kl1 ke1 => ?_)
      refine ok_ix (by omega) (by omega) (fun k3 kl2 ke2 => ?_)
      refine ok_wc h (by first | exact hs_b (by assumption) (by decide) | exact hs_b2 (by assumption) (by decide) | exact hs_t (by assumption) (by decide) | exact hs_t1 (by assumption) | exact hs_q (by assumption) (by decide) | exact hs_w (by assumption) | exact hs_d (by decide) | exact hs_e (by decide)) (fun s3 h3 => ?_)
      have n4 := h3.nm hbC
      exact ok_some (h3.mono (by omega))
theorem oX8_toLast {F : Nat} {z : wt_S} (hF : F ≤ 2000000000) {b : Nat} (hb : wt_B b) {t : Nat} (ht : wt_T t) {s : wt_S} (h : CI F z s) : Ok (fun r s' => CI F z s') (gX8_toLast b t s) := by
  obtain ⟨l_0, l_1, l_2, l_3, l_4, l_5, l_6, l_8, l_9, l_10, l_12, l_16, l_40, l_100, l_160, l_200, l_256, l_640, l_2000, l_2048, l_m1⟩ := lits
  have hbC : wt_C b := wt_BC hb
  unfold gX8_toLast 
  refine ok_wc h (by first | exact hs_b (by assumption) (by decide) | exact hs_b2 (by assumption) (by decide) | exact hs_t (by assumption) (by decide) | exact hs_t1 (by assumption) | exact hs_q (by assumption) (by decide) | exact hs_w (by assumption) | exact hs_d (by decide) | exact hs_e (by decide)) (fun s1 h1 => ?_)
  refine ok_wc h1 (by first | exact hs_b (by assumption) (by decide) | exact hs_b2 (by assumption) (by decide) | exact hs_t (by assumption) (by decide) | exact hs_t1 (by assumption) | exact hs_q (by assumption) (by decide) | exact hs_w (by assumption) | exact hs_d (by decide) | exact hs_e (by decide)) (fun s2 h2 => ?_)
  refine ok_wc h2 (by first | exact hs_b (by assumption) (by decide) | exact hs_b2 (by assumption) (by decide) | exact hs_t (by assumption) (by decide) | exact hs_t1 (by assumption) | exact hs_q (by assumption) (by decide) | exact hs_w (by assumption) | exact hs_d (by decide) | exact hs_e (by decide)) (fun s3 h3 => ?_)
  exact ok_some (h3.mono (by omega))
theorem oX8_toCaller {F : Nat} {z : wt_S} (hF : F ≤ 2000000000) {b : Nat} (hb : wt_B b) {s : wt_S} (h : CI F z s) : Ok (fun r s' => CI F z s') (gX8_toCaller b s) := by
  obtain ⟨l_0, l_1, l_2, l_3, l_4, l_5, l_6, l_8, l_9, l_10, l_12, l_16, l_40, l_100, l_160, l_200, l_256, l_640, l_2000, l_2048, l_m1⟩ := lits
  have hbC : wt_C b := wt_BC hb
  unfold gX8_toCaller 
  refine ok_cp (oX3_word (by omega) (by first | assumption | exact Or.inl rfl | exact Or.inr rfl | exact wt_T57 | exact hc.2 | exact ⟨_, _, wt_BC (by assumption), by assumption, rfl⟩ | exact ⟨_, _, by assumption, by assumption, rfl⟩ | exact ⟨11, _, Or.inl rfl, by assumption, rfl⟩ | exact ⟨40, _, Or.inr (Or.inl rfl), by assumption, rfl⟩ | exact Or.inr (Or.inl rfl) | exact Or.inr (Or.inr rfl)) h) (fun v2 q1 => ?_)
  refine ok_cp (oX3_word (by omega) (by first | assumption | exact Or.inl rfl | exact Or.inr rfl | exact wt_T57 | exact hc.2 | exact ⟨_, _, wt_BC (by assumption), by assumption, rfl⟩ | exact ⟨_, _, by assumption, by assumption, rfl⟩ | exact ⟨11, _, Or.inl rfl, by assumption, rfl⟩ | exact ⟨40, _, Or.inr (Or.inl rfl), by assumption, rfl⟩ | exact Or.inr (Or.inl rfl) | exact Or.inr (Or.inr rfl)) h) (fun v4 q2 => ?_)
  refine ok_wc h (by first | exact hs_b (by assumption) (by decide) | exact hs_b2 (by assumption) (by decide) | exact hs_t (by assumption) (by decide) | exact hs_t1 (by assumption) | exact hs_q (by assumption) (by decide) | exact hs_w (by assumption) | exact hs_d (by decide) | exact hs_e (by decide)) (fun s3 h3 => ?_)
  refine ok_wc h3 (by first | exact hs_b (by assumption) (by decide) | exact hs_b2 (by assumption) (by decide) | exact hs_t (by assumption) (by decide) | exact hs_t1 (by assumption) | exact hs_q (by assumption) (by decide) | exact hs_w (by assumption) | exact hs_d (by decide) | exact hs_e (by decide)) (fun s4 h4 => ?_)
  refine ok_wc h4 (by first | exact hs_b (by assumption) (by decide) | exact hs_b2 (by assumption) (by decide) | exact hs_t (by assumption) (by decide) | exact hs_t1 (by assumption) | exact hs_q (by assumption) (by decide) | exact hs_w (by assumption) | exact hs_d (by decide) | exact hs_e (by decide)) (fun s5 h5 => ?_)
  exact ok_some (h5.mono (by omega))
theorem oX5_shiftOf {F : Nat} {z : wt_S} (hF : F ≤ 2000000000) {b : Nat} (hb : wt_B b) {s : wt_S} (h : CI F z s) {i1 : Int32} : Ok (fun r s' => s' = s ∧ (True)) (gX5_shiftOf b s i1) := by
  obtain ⟨l_0, l_1, l_2, l_3, l_4, l_5, l_6, l_8, l_9, l_10, l_12, l_16, l_40, l_100, l_160, l_200, l_256, l_640, l_2000, l_2048, l_m1⟩ := lits
  have hbC : wt_C b := wt_BC hb
  have n2 := h.nm hbC
  unfold gX5_shiftOf 
  refine ok_if (fun _ => ?_) (fun _ => ?_)
  · exact ok_some ⟨rfl, trivial⟩
  · refine ok_if (fun _ => ?_) (fun _ => ?_)
    · exact ok_some ⟨rfl, trivial⟩
    · refine ok_ix (by omega) (by omega) (fun k1 kl1 ke1 => ?_)
      exact ok_some ⟨rfl, trivial⟩
theorem oX5_turned {F : Nat} {z : wt_S} (hF : F ≤ 2000000000) {b : Nat} (hb : wt_B b) {s : wt_S} (h : CI F z s) {i1 : Int32} : Ok (fun r s' => s' = s ∧ (True)) (gX5_turned b s i1) := by
  obtain ⟨l_0, l_1, l_2, l_3, l_4, l_5, l_6, l_8, l_9, l_10, l_12, l_16, l_40, l_100, l_160, l_200, l_256, l_640, l_2000, l_2048, l_m1⟩ := lits
  have hbC : wt_C b := wt_BC hb
  have n4 := h.nm hbC
  unfold gX5_turned 
  refine ok_if (fun _ => ?_) (fun _ => ?_)
  · refine ok_cp (oX5_rankOf (by omega) (by first | assumption | exact Or.inl rfl | exact Or.inr rfl | exact wt_T57 | exact hc.2 | exact ⟨_, _, wt_BC (by assumption), by assumption, rfl⟩ | exact ⟨_, _, by assumption, by assumption, rfl⟩ | exact ⟨11, _, Or.inl rfl, by assumption, rfl⟩ | exact ⟨40, _, Or.inr (Or.inl rfl), by assumption, rfl⟩ | exact Or.inr (Or.inl rfl) | exact Or.inr (Or.inr rfl)) h) (fun v2 q1 => ?_)
    refine ok_cp (oX5_idAt (by omega) (by first | assumption | exact Or.inl rfl | exact Or.inr rfl | exact wt_T57 | exact hc.2 | exact ⟨_, _, wt_BC (by assumption), by assumption, rfl⟩ | exact ⟨_, _, by assumption, by assumption, rfl⟩ | exact ⟨11, _, Or.inl rfl, by assumption, rfl⟩ | exact ⟨40, _, Or.inr (Or.inl rfl), by assumption, rfl⟩ | exact Or.inr (Or.inl rfl) | exact Or.inr (Or.inr rfl)) h) (fun v4 q2 => ?_)
    refine ok_cp (oX5_shiftOf (by omega) (by first | assumption | exact Or.inl rfl | exact Or.inr rfl | exact wt_T57 | exact hc.2 | exact ⟨_, _, wt_BC (by assumption), by assumption, rfl⟩ | exact ⟨_, _, by assumption, by assumption, rfl⟩ | exact ⟨11, _, Or.inl rfl, by assumption, rfl⟩ | exact ⟨40, _, Or.inr (Or.inl rfl), by assumption, rfl⟩ | exact Or.inr (Or.inl rfl) | exact Or.inr (Or.inr rfl)) h) (fun v6 q3 => ?_)
    exact ok_some ⟨rfl, trivial⟩
  · exact ok_some ⟨rfl, trivial⟩
theorem oX3_put {F : Nat} {z : wt_S} (hF : F ≤ 2000000000) {b : Nat} (hb : wt_B b) {s : wt_S} (h : CI F z s) {i1 i2 : Int32} : Ok (fun r s' => CI F z s') (gX3_put b s i1 i2) := by
  obtain ⟨l_0, l_1, l_2, l_3, l_4, l_5, l_6, l_8, l_9, l_10, l_12, l_16, l_40, l_100, l_160, l_200, l_256, l_640, l_2000, l_2048, l_m1⟩ := lits
  have hbC : wt_C b := wt_BC hb
  have mz := wt_mzn (b := b)
  have mzi := wt_mzi (b := b)
  unfold gX3_put 
  refine ok_if (fun _ => ?_) (fun _ => ?_)
  · exact ok_some (h.mono (by omega))
  · refine ok_if (fun _ => ?_) (fun _ => ?_)
    · exact ok_some (h.mono (by omega))
    · refine ok_ix (by omega) (by omega) (fun k2 kl1 ke1 => ?_)
      refine ok_wc h (by first | exact hs_b (by assumption) (by decide) | exact hs_b2 (by assumption) (by decide) | exact hs_t (by assumption) (by decide) | exact hs_t1 (by assumption) | exact hs_q (by assumption) (by decide) | exact hs_w (by assumption) | exact hs_d (by decide) | exact hs_e (by decide)) (fun s2 h2 => ?_)
      exact ok_some (h2.mono (by omega))
end
