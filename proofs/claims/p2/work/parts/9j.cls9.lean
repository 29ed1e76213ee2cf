/-! ===== the class, method by method, 9: the log, the image ===== -/
theorem rem40p {x : Int32} (h0 : 0 ≤ x.toInt) : 0 ≤ (x - x / 40 * 40).toInt := by
  have h1 := x.toInt_lt
  have hd : (x / 40).toInt = x.toInt.tdiv 40 := by
    rw [Int32.toInt_div]
    show (x.toInt.tdiv 40).bmod _ = _
    have q1 : x.toInt.tdiv 40 * 40 + x.toInt.tmod 40 = x.toInt := Int.tdiv_mul_add_tmod ..
    have q2 : x.toInt.tmod 40 < 40 := Int.tmod_lt_of_pos _ (by decide)
    have q3 : 0 ≤ x.toInt.tmod 40 := Int.tmod_nonneg _ h0
    rw [Int.bmod_eq_of_le]
    · simp; omega
    · simp at h1 ⊢; omega
  have q1 : x.toInt.tdiv 40 * 40 + x.toInt.tmod 40 = x.toInt := Int.tdiv_mul_add_tmod ..
  have q2 : x.toInt.tmod 40 < 40 := Int.tmod_lt_of_pos _ (by decide)
  have q3 : 0 ≤ x.toInt.tmod 40 := Int.tmod_nonneg _ h0
  have hr : (x - x / 40 * 40).toInt = x.toInt.tmod 40 := by
    rw [Int32.toInt_sub, Int32.toInt_mul, hd]
    show (x.toInt - (x.toInt.tdiv 40 * 40).bmod _).bmod _ = _
    rw [Int.sub_bmod_bmod, show x.toInt - x.toInt.tdiv 40 * 40 = x.toInt.tmod 40 by omega, Int.bmod_eq_of_le]
    · omega
    · omega
  omega
theorem r40_n {y : Int32} (h : 0 ≤ y.toInt ∧ y.toInt < 40) : 0 ≤ (y * 4).toInt := by
  have h4 : (y * 4).toInt = y.toInt * 4 := by
    rw [Int32.toInt_mul]
    show (y.toInt * 4).bmod _ = _
    rw [Int.bmod_eq_of_le]
    · simp; omega
    · simp; omega
  omega
theorem oX1_read {F : Nat} {z : wt_S} {b : Nat} {s : wt_S} (h : CI F z s) {i1 i2 : Int32} : Ok (fun r s' => s' = s ∧ True) (gX1_read b s i1 i2) := by
  have l0 : (0 : Int32).toInt = 0 := rfl
  have l3 : (3 : Int32).toInt = 3 := rfl
  unfold gX1_read
  refine ok_if (fun _ => ok_some ⟨rfl, trivial⟩) (fun c1 => ok_if (fun _ => ok_some ⟨rfl, trivial⟩) (fun c2 => ok_if (fun _ => ok_some ⟨rfl, trivial⟩) (fun _ => ok_if (fun _ => ok_some ⟨rfl, trivial⟩) (fun c4 => ok_if (fun c5 => ?_) (fun _ => ok_some ⟨rfl, trivial⟩)))))
  have e1 := i_dec2 (x := s (b + 11) 1) (by omega)
  have e2 := i_subb (x := s (b + 11) 1 - 1) (y := i1) (by omega)
  generalize s (b + 11) 1 - 1 - i1 = x at *
  have r1 := rem40 x
  have r2 := rem40p (x := x) (by omega)
  generalize x - x / 40 * 40 = y at *
  obtain ⟨j, j1, rfl, j3, j4⟩ := i_nat (x := i2) (by omega)
  have r := r40_4 r1 (r40_n ⟨r2, r1.2⟩) j (by omega)
  exact ok_ix r.1 r.2 (fun k _ _ => ok_some ⟨rfl, trivial⟩)
theorem oX10_log {F : Nat} {z : wt_S} {s : wt_S} (h : CI F z s) {i1 i2 : Int32} : Ok (fun r s' => s' = s ∧ True) (gX10_log s i1 i2) := by
  unfold gX10_log
  exact ok_cp (oX1_read h) (fun _ _ => ok_some ⟨rfl, trivial⟩)
/-- the store that stays, when an image is kept -/
theorem CI.im {F : Nat} {z s : wt_S} {v : Int32} (h : CI F z s) : CI F (wt_u z 4 6 v) (wt_u s 4 6 v) := by
  obtain ⟨h1, h2, h3, h4, h5, h6, h7⟩ := h
  refine ⟨fun c hc => ?_, fun q hq f hf => ?_, ?_, ?_, ?_, ?_, fun c hc => ?_⟩
  · obtain ⟨a1, a2, a3⟩ := h1 c hc
    have hc' : c = 11 ∨ c = 40 ∨ c = 81 := hc
    exact ⟨by rw [wt_u_ne (by omega)]; exact a1, by rw [wt_u_ne (by omega)]; exact a2, fun k hk => by rw [wt_u_ne (by omega)]; exact a3 k hk⟩
  · have hq' : q = 5 ∨ q = 76 := hq
    rw [wt_u_ne (by omega), wt_u_ne (by omega)]; exact h2 q hq f hf
  · rw [wt_u_ne (by omega)]; exact h3
  · rw [wt_u_ne (by omega)]; exact h4
  · rw [wt_u_ne (by omega)]; exact h5
  · rw [wt_u_ne (by omega)]; exact h6
  · by_cases e : c = 4
    · subst e
      funext k
      by_cases e2 : k = 6
      · subst e2; rw [wt_u_self, wt_u_self]
      · rw [wt_u_nk e2, wt_u_nk e2, h7 4 (Or.inr rfl)]
    · rw [wt_u_ne e, wt_u_ne e]; exact h7 c hc
theorem oX10_image {F : Nat} {z : wt_S} {s : wt_S} (h : CI F z s) (hz : z 4 6 = 0 ∨ z 4 6 = 1) {i1 : Int32} : Ok (fun r s' => CI F (if i1 = 0 then z else wt_u z 4 6 1) s' ∧ r = s' 4 6) (gX10_image s i1) := by
  unfold gX10_image gX10_image_75
  by_cases c : i1 = 0
  · rw [if_pos c, if_pos c]
    have e4 : ∀ {s' : wt_S}, CI F z s' → s' 4 6 = 0 ∨ s' 4 6 = 1 := fun h' => by rw [h'.2.2.2.2.2.2 4 (Or.inr rfl)]; exact hz
    refine ok_if (fun _ => ok_rz (e4 h) (ok_some ⟨h, rfl⟩)) (fun _ => ?_)
    refine ok_cl (oX6_takeOver (Or.inl rfl) (Or.inr rfl) h) (fun _ s1 h1 => ?_)
    refine ok_cl (oX9_takeOver (Or.inl rfl) (Or.inr (Or.inr rfl)) h1) (fun _ s2 h2 => ?_)
    exact ok_rz (e4 h2) (ok_some ⟨h2, rfl⟩)
  · rw [if_neg c, if_neg c]
    refine ok_cl (oX6_takeOver (Or.inr rfl) (Or.inl rfl) h) (fun _ s3 h3 => ?_)
    refine ok_cl (oX9_takeOver (Or.inr (Or.inr rfl)) (Or.inl rfl) h3) (fun _ s4 h4 => ?_)
    refine ok_ws h4.im (fun s5 h5 => ?_)
    have e : s5 4 6 = 1 := by rw [h5.2.2.2.2.2.2 4 (Or.inr rfl)]; exact wt_u_self
    exact ok_rz (Or.inr e) (ok_some ⟨h5, rfl⟩)
