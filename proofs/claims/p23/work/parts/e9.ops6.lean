section
/-! ===== the law's operations over L6 (written by wip/p2/gen_ops6.py) ===== -/
theorem law6_o_set {L F B : Nat} {s : wt_S} {l3 : Int32} {P : Int32 → wt_S → Prop} {K : wt_S → Option (Int32 × wt_S)} (hL : L ≤ 3072) (hl : 0 ≤ l3.toInt ∧ l3.toInt + 6 ≤ L) (hF1 : F + 2401800 ≤ 1999990000) (hB1 : B + 2400 ≤ 2147200000) (h : L6 F B s) (go : ∀ s', L6 (F + 2401800) (B + 2400) s' → Ok P (K s')) : Ok P (wt_ix (l3 + 1) L fun k1 => (wt_ix (l3 + 2) L fun k2 => (wt_cl (gX10_set s (s 0 k1) (s 0 k2)) fun v s1 => (wt_ix (l3 + 1) L fun m1 => (wt_ix (l3 + 2) L fun m2 => (wt_cl (gX11_set s1 (s1 0 m1) (s1 0 m2)) fun w s2 => K s2)))))) := by
  have hF0 : F ≤ 1999990000 := Nat.le_trans (Nat.le_add_right _ _) hF1
  have hB0 : B ≤ 2147200000 := Nat.le_trans (Nat.le_add_right _ _) hB1
  obtain ⟨r, s1, r2, s2, e1, e2, e3, e4, e5⟩ := lo6_set (a := s 0 (l3.toInt.toNat + 1)) (b := s 0 (l3.toInt.toNat + 2)) h hF0
  rw [ix_l1 hL hl, ix_l2 hL hl, e1, cl_some, ix_l1 hL hl, ix_l2 hL hl, e2, show gX11_set s1 (s 0 (l3.toInt.toNat + 1)) (s 0 (l3.toInt.toNat + 2)) = some (r2, s2) from e3, cl_some]
  exact go s2 (e5.mono (Nat.le_add_right _ _) (Nat.le_add_right _ _))
theorem law6_o_function {L F B : Nat} {s : wt_S} {l3 : Int32} {P : Int32 → wt_S → Prop} {K : wt_S → Option (Int32 × wt_S)} (hL : L ≤ 3072) (hl : 0 ≤ l3.toInt ∧ l3.toInt + 6 ≤ L) (hF1 : F + 2401800 ≤ 1999990000) (hB1 : B + 2400 ≤ 2147200000) (h : L6 F B s) (go : ∀ s', L6 (F + 2401800) (B + 2400) s' → Ok P (K s')) : Ok P (wt_ix (l3 + 1) L fun k1 => (wt_ix (l3 + 2) L fun k2 => (wt_ix (l3 + 3) L fun k3 => (wt_cl (gX10_function s (s 0 k1) (s 0 k2) (s 0 k3)) fun v s1 => (wt_ix (l3 + 1) L fun m1 => (wt_ix (l3 + 2) L fun m2 => (wt_ix (l3 + 3) L fun m3 => (wt_cl (gX11_function s1 (s1 0 m1) (s1 0 m2) (s1 0 m3)) fun w s2 => K s2)))))))) := by
  have hF0 : F ≤ 1999990000 := Nat.le_trans (Nat.le_add_right _ _) hF1
  have hB0 : B ≤ 2147200000 := Nat.le_trans (Nat.le_add_right _ _) hB1
  obtain ⟨r, s1, r2, s2, e1, e2, e3, e4, e5⟩ := lo6_function (a := s 0 (l3.toInt.toNat + 1)) (b := s 0 (l3.toInt.toNat + 2)) (c := s 0 (l3.toInt.toNat + 3)) h hF0
  rw [ix_l1 hL hl, ix_l2 hL hl, ix_l3 hL hl, e1, cl_some, ix_l1 hL hl, ix_l2 hL hl, ix_l3 hL hl, e2, show gX11_function s1 (s 0 (l3.toInt.toNat + 1)) (s 0 (l3.toInt.toNat + 2)) (s 0 (l3.toInt.toNat + 3)) = some (r2, s2) from e3, cl_some]
  exact go s2 (e5.mono (Nat.le_add_right _ _) (Nat.le_add_right _ _))
theorem law6_o_line {L F B : Nat} {s : wt_S} {l3 : Int32} {P : Int32 → wt_S → Prop} {K : wt_S → Option (Int32 × wt_S)} (hL : L ≤ 3072) (hl : 0 ≤ l3.toInt ∧ l3.toInt + 6 ≤ L) (hF1 : F + 2401800 ≤ 1999990000) (hB1 : B + 2400 ≤ 2147200000) (h : L6 F B s) (go : ∀ s', L6 (F + 2401800) (B + 2400) s' → Ok P (K s')) : Ok P (wt_ix (l3 + 1) L fun k1 => (wt_ix (l3 + 2) L fun k2 => (wt_ix (l3 + 3) L fun k3 => (wt_ix (l3 + 4) L fun k4 => (wt_ix (l3 + 5) L fun k5 => (wt_cl (gX10_line s (s 0 k1) (s 0 k2) (s 0 k3) (s 0 k4) (s 0 k5)) fun v s1 => (wt_ix (l3 + 1) L fun m1 => (wt_ix (l3 + 2) L fun m2 => (wt_ix (l3 + 3) L fun m3 => (wt_ix (l3 + 4) L fun m4 => (wt_ix (l3 + 5) L fun m5 => (wt_cl (gX11_line s1 (s1 0 m1) (s1 0 m2) (s1 0 m3) (s1 0 m4) (s1 0 m5)) fun w s2 => K s2)))))))))))) := by
  have hF0 : F ≤ 1999990000 := Nat.le_trans (Nat.le_add_right _ _) hF1
  have hB0 : B ≤ 2147200000 := Nat.le_trans (Nat.le_add_right _ _) hB1
  obtain ⟨r, s1, r2, s2, e1, e2, e3, e4, e5⟩ := lo6_line (k := s 0 (l3.toInt.toNat + 1)) (a := s 0 (l3.toInt.toNat + 2)) (b := s 0 (l3.toInt.toNat + 3)) (c := s 0 (l3.toInt.toNat + 4)) (d := s 0 (l3.toInt.toNat + 5)) h hF0
  rw [ix_l1 hL hl, ix_l2 hL hl, ix_l3 hL hl, ix_l4 hL hl, ix_l5 hL hl, e1, cl_some, ix_l1 hL hl, ix_l2 hL hl, ix_l3 hL hl, ix_l4 hL hl, ix_l5 hL hl, e2, show gX11_line s1 (s 0 (l3.toInt.toNat + 1)) (s 0 (l3.toInt.toNat + 2)) (s 0 (l3.toInt.toNat + 3)) (s 0 (l3.toInt.toNat + 4)) (s 0 (l3.toInt.toNat + 5)) = some (r2, s2) from e3, cl_some]
  exact go s2 (e5.mono (Nat.le_add_right _ _) (Nat.le_add_right _ _))
theorem law6_o_start {L F B : Nat} {s : wt_S} {l3 : Int32} {P : Int32 → wt_S → Prop} {K : wt_S → Option (Int32 × wt_S)} (hL : L ≤ 3072) (hl : 0 ≤ l3.toInt ∧ l3.toInt + 6 ≤ L) (hF1 : F + 2401800 ≤ 1999990000) (hB1 : B + 2400 ≤ 2147200000) (h : L6 F B s) (go : ∀ s', L6 (F + 2401800) (B + 2400) s' → Ok P (K s')) : Ok P (wt_ix (l3 + 1) L fun k1 => (wt_ix (l3 + 2) L fun k2 => (wt_ix (l3 + 3) L fun k3 => (wt_ix (l3 + 4) L fun k4 => (wt_cl (gX10_start s (s 0 k1) (s 0 k2) (s 0 k3) (s 0 k4)) fun v s1 => (wt_ix (l3 + 1) L fun m1 => (wt_ix (l3 + 2) L fun m2 => (wt_ix (l3 + 3) L fun m3 => (wt_ix (l3 + 4) L fun m4 => (wt_cl (gX11_start s1 (s1 0 m1) (s1 0 m2) (s1 0 m3) (s1 0 m4)) fun w s2 => K s2)))))))))) := by
  have hF0 : F ≤ 1999990000 := Nat.le_trans (Nat.le_add_right _ _) hF1
  have hB0 : B ≤ 2147200000 := Nat.le_trans (Nat.le_add_right _ _) hB1
  obtain ⟨r, s1, r2, s2, e1, e2, e3, e4, e5⟩ := lo6_start (a := s 0 (l3.toInt.toNat + 1)) (b := s 0 (l3.toInt.toNat + 2)) (c := s 0 (l3.toInt.toNat + 3)) (d := s 0 (l3.toInt.toNat + 4)) h hF0 hB0
  rw [ix_l1 hL hl, ix_l2 hL hl, ix_l3 hL hl, ix_l4 hL hl, e1, cl_some, ix_l1 hL hl, ix_l2 hL hl, ix_l3 hL hl, ix_l4 hL hl, e2, show gX11_start s1 (s 0 (l3.toInt.toNat + 1)) (s 0 (l3.toInt.toNat + 2)) (s 0 (l3.toInt.toNat + 3)) (s 0 (l3.toInt.toNat + 4)) = some (r2, s2) from e3, cl_some]
  exact go s2 (e5.mono (Nat.add_le_add_left (by decide) _) (Nat.add_le_add_left (by decide) _))
theorem law6_o_step {L F B : Nat} {s : wt_S} {l3 : Int32} {P : Int32 → wt_S → Prop} {K : wt_S → Option (Int32 × wt_S)} (hL : L ≤ 3072) (hl : 0 ≤ l3.toInt ∧ l3.toInt + 6 ≤ L) (hF1 : F + 2401800 ≤ 1999990000) (hB1 : B + 2400 ≤ 2147200000) (h : L6 F B s) (go : ∀ s', L6 (F + 2401800) (B + 2400) s' → Ok P (K s')) : Ok P (wt_ix (l3 + 1) L fun k1 => (wt_ix (l3 + 2) L fun k2 => (wt_cl (gX10_step s (s 0 k1) (s 0 k2)) fun v s1 => (wt_ix (l3 + 1) L fun m1 => (wt_ix (l3 + 2) L fun m2 => (wt_cl (gX11_step s1 (s1 0 m1) (s1 0 m2)) fun w s2 => K s2)))))) := by
  have hF0 : F ≤ 1999990000 := Nat.le_trans (Nat.le_add_right _ _) hF1
  have hB0 : B ≤ 2147200000 := Nat.le_trans (Nat.le_add_right _ _) hB1
  obtain ⟨r, s1, r2, s2, e1, e2, e3, e4, e5⟩ := lo6_step (a := s 0 (l3.toInt.toNat + 1)) (b := s 0 (l3.toInt.toNat + 2)) h (Nat.le_trans (Nat.add_le_add_left (by decide) F) hF1) hB0
  rw [ix_l1 hL hl, ix_l2 hL hl, e1, cl_some, ix_l1 hL hl, ix_l2 hL hl, e2, show gX11_step s1 (s 0 (l3.toInt.toNat + 1)) (s 0 (l3.toInt.toNat + 2)) = some (r2, s2) from e3, cl_some]
  exact go s2 (e5.mono (Nat.add_le_add_left (by decide) _) (Nat.add_le_add_left (by decide) _))
theorem law6_o_round {L F B : Nat} {s : wt_S} {l3 : Int32} {P : Int32 → wt_S → Prop} {K : wt_S → Option (Int32 × wt_S)} (hL : L ≤ 3072) (hl : 0 ≤ l3.toInt ∧ l3.toInt + 6 ≤ L) (hF1 : F + 2401800 ≤ 1999990000) (hB1 : B + 2400 ≤ 2147200000) (h : L6 F B s) (go : ∀ s', L6 (F + 2401800) (B + 2400) s' → Ok P (K s')) : Ok P (wt_ix (l3 + 1) L fun k1 => (wt_cl (gX10_round s (s 0 k1)) fun v s1 => (wt_ix (l3 + 1) L fun m1 => (wt_cl (gX11_round s1 (s1 0 m1)) fun w s2 => K s2)))) := by
  have hF0 : F ≤ 1999990000 := Nat.le_trans (Nat.le_add_right _ _) hF1
  have hB0 : B ≤ 2147200000 := Nat.le_trans (Nat.le_add_right _ _) hB1
  obtain ⟨r, s1, r2, s2, e1, e2, e3, e4, e5⟩ := lo6_round (a := s 0 (l3.toInt.toNat + 1)) h hF1 hB0
  rw [ix_l1 hL hl, e1, cl_some, ix_l1 hL hl, e2, show gX11_round s1 (s 0 (l3.toInt.toNat + 1)) = some (r2, s2) from e3, cl_some]
  exact go s2 (e5.mono (Nat.le_refl _) (Nat.le_refl _))
theorem law6_o_stop {L F B : Nat} {s : wt_S} {l3 : Int32} {P : Int32 → wt_S → Prop} {K : wt_S → Option (Int32 × wt_S)} (hL : L ≤ 3072) (hl : 0 ≤ l3.toInt ∧ l3.toInt + 6 ≤ L) (hF1 : F + 2401800 ≤ 1999990000) (hB1 : B + 2400 ≤ 2147200000) (h : L6 F B s) (go : ∀ s', L6 (F + 2401800) (B + 2400) s' → Ok P (K s')) : Ok P (wt_ix (l3 + 1) L fun k1 => (wt_cl (gX10_stop s (s 0 k1)) fun v s1 => (wt_ix (l3 + 1) L fun m1 => (wt_cl (gX11_stop s1 (s1 0 m1)) fun w s2 => K s2)))) := by
  have hF0 : F ≤ 1999990000 := Nat.le_trans (Nat.le_add_right _ _) hF1
  have hB0 : B ≤ 2147200000 := Nat.le_trans (Nat.le_add_right _ _) hB1
  obtain ⟨r, s1, r2, s2, e1, e2, e3, e4, e5⟩ := lo6_stop (a := s 0 (l3.toInt.toNat + 1)) h hF0
  rw [ix_l1 hL hl, e1, cl_some, ix_l1 hL hl, e2, show gX11_stop s1 (s 0 (l3.toInt.toNat + 1)) = some (r2, s2) from e3, cl_some]
  exact go s2 (e5.mono (Nat.le_add_right _ _) (Nat.le_add_right _ _))
theorem law6_o_quiet {L F B : Nat} {s : wt_S} {l3 : Int32} {P : Int32 → wt_S → Prop} {K : wt_S → Option (Int32 × wt_S)} (hL : L ≤ 3072) (hl : 0 ≤ l3.toInt ∧ l3.toInt + 6 ≤ L) (hF1 : F + 2401800 ≤ 1999990000) (hB1 : B + 2400 ≤ 2147200000) (h : L6 F B s) (go : ∀ s', L6 (F + 2401800) (B + 2400) s' → Ok P (K s')) : Ok P (wt_ix (l3 + 1) L fun k1 => (wt_cl (gX10_quiet s (s 0 k1)) fun v s1 => (wt_ix (l3 + 1) L fun m1 => (wt_cl (gX11_quiet s1 (s1 0 m1)) fun w s2 => K s2)))) := by
  have hF0 : F ≤ 1999990000 := Nat.le_trans (Nat.le_add_right _ _) hF1
  have hB0 : B ≤ 2147200000 := Nat.le_trans (Nat.le_add_right _ _) hB1
  obtain ⟨r, s1, r2, s2, e1, e2, e3, e4, e5⟩ := lo6_quiet (a := s 0 (l3.toInt.toNat + 1)) h hF0 hB0
  rw [ix_l1 hL hl, e1, cl_some, ix_l1 hL hl, e2, show gX11_quiet s1 (s 0 (l3.toInt.toNat + 1)) = some (r2, s2) from e3, cl_some]
  exact go s2 (e5.mono (Nat.le_add_right _ _) (Nat.add_le_add_left (by decide) _))
theorem law6_o_join {L F B : Nat} {s : wt_S} {l3 : Int32} {P : Int32 → wt_S → Prop} {K : wt_S → Option (Int32 × wt_S)} (hL : L ≤ 3072) (hl : 0 ≤ l3.toInt ∧ l3.toInt + 6 ≤ L) (hF1 : F + 2401800 ≤ 1999990000) (hB1 : B + 2400 ≤ 2147200000) (h : L6 F B s) (go : ∀ s', L6 (F + 2401800) (B + 2400) s' → Ok P (K s')) : Ok P (wt_ix (l3 + 1) L fun k1 => (wt_cl (gX10_join s (s 0 k1)) fun v s1 => (wt_ix (l3 + 1) L fun m1 => (wt_cl (gX11_join s1 (s1 0 m1)) fun w s2 => K s2)))) := by
  have hF0 : F ≤ 1999990000 := Nat.le_trans (Nat.le_add_right _ _) hF1
  have hB0 : B ≤ 2147200000 := Nat.le_trans (Nat.le_add_right _ _) hB1
  obtain ⟨r, s1, r2, s2, e1, e2, e3, e4, e5⟩ := lo6_join (a := s 0 (l3.toInt.toNat + 1)) h hF0 hB0
  rw [ix_l1 hL hl, e1, cl_some, ix_l1 hL hl, e2, show gX11_join s1 (s 0 (l3.toInt.toNat + 1)) = some (r2, s2) from e3, cl_some]
  exact go s2 (e5.mono (Nat.le_add_right _ _) (Nat.add_le_add_left (by decide) _))
theorem law6_o_compact {L F B : Nat} {s : wt_S} {l3 : Int32} {P : Int32 → wt_S → Prop} {K : wt_S → Option (Int32 × wt_S)} (hL : L ≤ 3072) (hl : 0 ≤ l3.toInt ∧ l3.toInt + 6 ≤ L) (hF1 : F + 2401800 ≤ 1999990000) (hB1 : B + 2400 ≤ 2147200000) (h : L6 F B s) (go : ∀ s', L6 (F + 2401800) (B + 2400) s' → Ok P (K s')) : Ok P (wt_cl (gX10_compact s) fun v s1 => (wt_cl (gX11_compact s1) fun w s2 => K s2)) := by
  have hF0 : F ≤ 1999990000 := Nat.le_trans (Nat.le_add_right _ _) hF1
  have hB0 : B ≤ 2147200000 := Nat.le_trans (Nat.le_add_right _ _) hB1
  obtain ⟨r, s1, r2, s2, e1, e2, e3, e4, e5⟩ := lo6_compact  h hF0 hB0
  rw [e1, cl_some, show gX11_compact s1 = some (r2, s2) from e3, cl_some]
  exact go s2 (e5.mono (Nat.le_add_right _ _) (Nat.add_le_add_left (by decide) _))
theorem law6_o_deep {L F B : Nat} {s : wt_S} {l3 : Int32} {P : Int32 → wt_S → Prop} {K : wt_S → Option (Int32 × wt_S)} (hL : L ≤ 3072) (hl : 0 ≤ l3.toInt ∧ l3.toInt + 6 ≤ L) (hF1 : F + 2401800 ≤ 1999990000) (hB1 : B + 2400 ≤ 2147200000) (h : L6 F B s) (go : ∀ s', L6 (F + 2401800) (B + 2400) s' → Ok P (K s')) : Ok P (wt_ix (l3 + 1) L fun k1 => (wt_cl (gX10_deep s (s 0 k1)) fun v s1 => (wt_ix (l3 + 1) L fun m1 => (wt_cl (gX11_deep s1 (s1 0 m1)) fun w s2 => K s2)))) := by
  have hF0 : F ≤ 1999990000 := Nat.le_trans (Nat.le_add_right _ _) hF1
  have hB0 : B ≤ 2147200000 := Nat.le_trans (Nat.le_add_right _ _) hB1
  obtain ⟨r, s1, r2, s2, e1, e2, e3, e4, e5⟩ := lo6_deep (a := s 0 (l3.toInt.toNat + 1)) h hF0
  rw [ix_l1 hL hl, e1, cl_some, ix_l1 hL hl, e2, show gX11_deep s1 (s 0 (l3.toInt.toNat + 1)) = some (r2, s2) from e3, cl_some]
  exact go s2 (e5.mono (Nat.le_add_right _ _) (Nat.le_add_right _ _))
theorem law6_o_need {L F B : Nat} {s : wt_S} {l3 : Int32} {P : Int32 → wt_S → Prop} {K : wt_S → Option (Int32 × wt_S)} (hL : L ≤ 3072) (hl : 0 ≤ l3.toInt ∧ l3.toInt + 6 ≤ L) (hF1 : F + 2401800 ≤ 1999990000) (hB1 : B + 2400 ≤ 2147200000) (h : L6 F B s) (go : ∀ s', L6 (F + 2401800) (B + 2400) s' → Ok P (K s')) : Ok P (wt_ix (l3 + 1) L fun k1 => (wt_cl (gX10_need s (s 0 k1)) fun v s1 => (wt_ix (l3 + 1) L fun m1 => (wt_cl (gX11_need s1 (s1 0 m1)) fun w s2 => K s2)))) := by
  have hF0 : F ≤ 1999990000 := Nat.le_trans (Nat.le_add_right _ _) hF1
  have hB0 : B ≤ 2147200000 := Nat.le_trans (Nat.le_add_right _ _) hB1
  obtain ⟨r, s1, r2, s2, e1, e2, e3, e4, e5⟩ := lo6_need (a := s 0 (l3.toInt.toNat + 1)) h hF0
  rw [ix_l1 hL hl, e1, cl_some, ix_l1 hL hl, e2, show gX11_need s1 (s 0 (l3.toInt.toNat + 1)) = some (r2, s2) from e3, cl_some]
  exact go s2 (e5.mono (Nat.le_add_right _ _) (Nat.le_add_right _ _))
theorem law6_o_task {L F B : Nat} {s : wt_S} {l3 : Int32} {P : Int32 → wt_S → Prop} {K : wt_S → Option (Int32 × wt_S)} (hL : L ≤ 3072) (hl : 0 ≤ l3.toInt ∧ l3.toInt + 6 ≤ L) (hF1 : F + 2401800 ≤ 1999990000) (hB1 : B + 2400 ≤ 2147200000) (h : L6 F B s) (go : ∀ s', L6 (F + 2401800) (B + 2400) s' → Ok P (K s')) : Ok P (wt_ix (l3 + 1) L fun k1 => (wt_ix (l3 + 2) L fun k2 => (wt_cl (gX10_task s (s 0 k1) (s 0 k2)) fun v s1 => (wt_ix (l3 + 1) L fun m1 => (wt_ix (l3 + 2) L fun m2 => (wt_cl (gX11_task s1 (s1 0 m1) (s1 0 m2)) fun w s2 => K s2)))))) := by
  have hF0 : F ≤ 1999990000 := Nat.le_trans (Nat.le_add_right _ _) hF1
  have hB0 : B ≤ 2147200000 := Nat.le_trans (Nat.le_add_right _ _) hB1
  obtain ⟨r, s1, r2, s2, e1, e2, e3, e4, e5⟩ := lo6_task (a := s 0 (l3.toInt.toNat + 1)) (b := s 0 (l3.toInt.toNat + 2)) h hF0
  rw [ix_l1 hL hl, ix_l2 hL hl, e1, cl_some, ix_l1 hL hl, ix_l2 hL hl, e2, show gX11_task s1 (s 0 (l3.toInt.toNat + 1)) (s 0 (l3.toInt.toNat + 2)) = some (r2, s2) from e3, cl_some]
  exact go s2 (e5.mono (Nat.le_add_right _ _) (Nat.le_add_right _ _))
theorem law6_o_frame {L F B : Nat} {s : wt_S} {l3 : Int32} {P : Int32 → wt_S → Prop} {K : wt_S → Option (Int32 × wt_S)} (hL : L ≤ 3072) (hl : 0 ≤ l3.toInt ∧ l3.toInt + 6 ≤ L) (hF1 : F + 2401800 ≤ 1999990000) (hB1 : B + 2400 ≤ 2147200000) (h : L6 F B s) (go : ∀ s', L6 (F + 2401800) (B + 2400) s' → Ok P (K s')) : Ok P (wt_ix (l3 + 1) L fun k1 => (wt_ix (l3 + 2) L fun k2 => (wt_ix (l3 + 3) L fun k3 => (wt_cl (gX10_frame s (s 0 k1) (s 0 k2) (s 0 k3)) fun v s1 => (wt_ix (l3 + 1) L fun m1 => (wt_ix (l3 + 2) L fun m2 => (wt_ix (l3 + 3) L fun m3 => (wt_cl (gX11_frame s1 (s1 0 m1) (s1 0 m2) (s1 0 m3)) fun w s2 => K s2)))))))) := by
  have hF0 : F ≤ 1999990000 := Nat.le_trans (Nat.le_add_right _ _) hF1
  have hB0 : B ≤ 2147200000 := Nat.le_trans (Nat.le_add_right _ _) hB1
  obtain ⟨r, s1, r2, s2, e1, e2, e3, e4, e5⟩ := lo6_frame (a := s 0 (l3.toInt.toNat + 1)) (b := s 0 (l3.toInt.toNat + 2)) (c := s 0 (l3.toInt.toNat + 3)) h hF0
  rw [ix_l1 hL hl, ix_l2 hL hl, ix_l3 hL hl, e1, cl_some, ix_l1 hL hl, ix_l2 hL hl, ix_l3 hL hl, e2, show gX11_frame s1 (s 0 (l3.toInt.toNat + 1)) (s 0 (l3.toInt.toNat + 2)) (s 0 (l3.toInt.toNat + 3)) = some (r2, s2) from e3, cl_some]
  exact go s2 (e5.mono (Nat.le_add_right _ _) (Nat.le_add_right _ _))
theorem law6_o_slot {L F B : Nat} {s : wt_S} {l3 : Int32} {P : Int32 → wt_S → Prop} {K : wt_S → Option (Int32 × wt_S)} (hL : L ≤ 3072) (hl : 0 ≤ l3.toInt ∧ l3.toInt + 6 ≤ L) (hF1 : F + 2401800 ≤ 1999990000) (hB1 : B + 2400 ≤ 2147200000) (h : L6 F B s) (go : ∀ s', L6 (F + 2401800) (B + 2400) s' → Ok P (K s')) : Ok P (wt_ix (l3 + 1) L fun k1 => (wt_ix (l3 + 2) L fun k2 => (wt_ix (l3 + 3) L fun k3 => (wt_ix (l3 + 4) L fun k4 => (wt_cl (gX10_slot s (s 0 k1) (s 0 k2) (s 0 k3) (s 0 k4)) fun v s1 => (wt_ix (l3 + 1) L fun m1 => (wt_ix (l3 + 2) L fun m2 => (wt_ix (l3 + 3) L fun m3 => (wt_ix (l3 + 4) L fun m4 => (wt_cl (gX11_slot s1 (s1 0 m1) (s1 0 m2) (s1 0 m3) (s1 0 m4)) fun w s2 => K s2)))))))))) := by
  have hF0 : F ≤ 1999990000 := Nat.le_trans (Nat.le_add_right _ _) hF1
  have hB0 : B ≤ 2147200000 := Nat.le_trans (Nat.le_add_right _ _) hB1
  obtain ⟨r, s1, r2, s2, e1, e2, e3, e4, e5⟩ := lo6_slot (a := s 0 (l3.toInt.toNat + 1)) (b := s 0 (l3.toInt.toNat + 2)) (c := s 0 (l3.toInt.toNat + 3)) (d := s 0 (l3.toInt.toNat + 4)) h hF0
  rw [ix_l1 hL hl, ix_l2 hL hl, ix_l3 hL hl, ix_l4 hL hl, e1, cl_some, ix_l1 hL hl, ix_l2 hL hl, ix_l3 hL hl, ix_l4 hL hl, e2, show gX11_slot s1 (s 0 (l3.toInt.toNat + 1)) (s 0 (l3.toInt.toNat + 2)) (s 0 (l3.toInt.toNat + 3)) (s 0 (l3.toInt.toNat + 4)) = some (r2, s2) from e3, cl_some]
  exact go s2 (e5.mono (Nat.le_add_right _ _) (Nat.le_add_right _ _))
theorem law6_o_piece {L F B : Nat} {s : wt_S} {l3 : Int32} {P : Int32 → wt_S → Prop} {K : wt_S → Option (Int32 × wt_S)} (hL : L ≤ 3072) (hl : 0 ≤ l3.toInt ∧ l3.toInt + 6 ≤ L) (hF1 : F + 2401800 ≤ 1999990000) (hB1 : B + 2400 ≤ 2147200000) (h : L6 F B s) (go : ∀ s', L6 (F + 2401800) (B + 2400) s' → Ok P (K s')) : Ok P (wt_ix (l3 + 1) L fun k1 => (wt_ix (l3 + 2) L fun k2 => (wt_ix (l3 + 3) L fun k3 => (wt_cl (gX10_piece s (s 0 k1) (s 0 k2) (s 0 k3)) fun v s1 => (wt_ix (l3 + 1) L fun m1 => (wt_ix (l3 + 2) L fun m2 => (wt_ix (l3 + 3) L fun m3 => (wt_cl (gX11_piece s1 (s1 0 m1) (s1 0 m2) (s1 0 m3)) fun w s2 => K s2)))))))) := by
  have hF0 : F ≤ 1999990000 := Nat.le_trans (Nat.le_add_right _ _) hF1
  have hB0 : B ≤ 2147200000 := Nat.le_trans (Nat.le_add_right _ _) hB1
  obtain ⟨r, s1, r2, s2, e1, e2, e3, e4, e5⟩ := lo6_piece (a := s 0 (l3.toInt.toNat + 1)) (b := s 0 (l3.toInt.toNat + 2)) (c := s 0 (l3.toInt.toNat + 3)) h hF0
  rw [ix_l1 hL hl, ix_l2 hL hl, ix_l3 hL hl, e1, cl_some, ix_l1 hL hl, ix_l2 hL hl, ix_l3 hL hl, e2, show gX11_piece s1 (s 0 (l3.toInt.toNat + 1)) (s 0 (l3.toInt.toNat + 2)) (s 0 (l3.toInt.toNat + 3)) = some (r2, s2) from e3, cl_some]
  exact go s2 (e5.mono (Nat.le_add_right _ _) (Nat.le_add_right _ _))
theorem law6_o_gap {L F B : Nat} {s : wt_S} {l3 : Int32} {P : Int32 → wt_S → Prop} {K : wt_S → Option (Int32 × wt_S)} (hL : L ≤ 3072) (hl : 0 ≤ l3.toInt ∧ l3.toInt + 6 ≤ L) (hF1 : F + 2401800 ≤ 1999990000) (hB1 : B + 2400 ≤ 2147200000) (h : L6 F B s) (go : ∀ s', L6 (F + 2401800) (B + 2400) s' → Ok P (K s')) : Ok P (wt_ix (l3 + 1) L fun k1 => (wt_ix (l3 + 2) L fun k2 => (wt_cl (gX10_gap s (s 0 k1) (s 0 k2)) fun v s1 => (wt_ix (l3 + 1) L fun m1 => (wt_ix (l3 + 2) L fun m2 => (wt_cl (gX11_gap s1 (s1 0 m1) (s1 0 m2)) fun w s2 => K s2)))))) := by
  have hF0 : F ≤ 1999990000 := Nat.le_trans (Nat.le_add_right _ _) hF1
  have hB0 : B ≤ 2147200000 := Nat.le_trans (Nat.le_add_right _ _) hB1
  obtain ⟨r, s1, r2, s2, e1, e2, e3, e4, e5⟩ := lo6_gap (a := s 0 (l3.toInt.toNat + 1)) (b := s 0 (l3.toInt.toNat + 2)) h hF0
  rw [ix_l1 hL hl, ix_l2 hL hl, e1, cl_some, ix_l1 hL hl, ix_l2 hL hl, e2, show gX11_gap s1 (s 0 (l3.toInt.toNat + 1)) (s 0 (l3.toInt.toNat + 2)) = some (r2, s2) from e3, cl_some]
  exact go s2 (e5.mono (Nat.le_add_right _ _) (Nat.le_add_right _ _))
theorem law6_o_endless {L F B : Nat} {s : wt_S} {l3 : Int32} {P : Int32 → wt_S → Prop} {K : wt_S → Option (Int32 × wt_S)} (hL : L ≤ 3072) (hl : 0 ≤ l3.toInt ∧ l3.toInt + 6 ≤ L) (hF1 : F + 2401800 ≤ 1999990000) (hB1 : B + 2400 ≤ 2147200000) (h : L6 F B s) (go : ∀ s', L6 (F + 2401800) (B + 2400) s' → Ok P (K s')) : Ok P (wt_ix (l3 + 1) L fun k1 => (wt_ix (l3 + 2) L fun k2 => (wt_ix (l3 + 3) L fun k3 => (wt_cl (gX10_endless s (s 0 k1) (s 0 k2) (s 0 k3)) fun v s1 => (wt_ix (l3 + 1) L fun m1 => (wt_ix (l3 + 2) L fun m2 => (wt_ix (l3 + 3) L fun m3 => (wt_cl (gX11_endless s1 (s1 0 m1) (s1 0 m2) (s1 0 m3)) fun w s2 => K s2)))))))) := by
  have hF0 : F ≤ 1999990000 := Nat.le_trans (Nat.le_add_right _ _) hF1
  have hB0 : B ≤ 2147200000 := Nat.le_trans (Nat.le_add_right _ _) hB1
  obtain ⟨r, s1, r2, s2, e1, e2, e3, e4, e5⟩ := lo6_endless (a := s 0 (l3.toInt.toNat + 1)) (b := s 0 (l3.toInt.toNat + 2)) (c := s 0 (l3.toInt.toNat + 3)) h (Nat.le_trans (Nat.add_le_add_left (by decide) F) hF1)
  rw [ix_l1 hL hl, ix_l2 hL hl, ix_l3 hL hl, e1, cl_some, ix_l1 hL hl, ix_l2 hL hl, ix_l3 hL hl, e2, show gX11_endless s1 (s 0 (l3.toInt.toNat + 1)) (s 0 (l3.toInt.toNat + 2)) (s 0 (l3.toInt.toNat + 3)) = some (r2, s2) from e3, cl_some]
  exact go s2 (e5.mono (Nat.add_le_add_left (by decide) _) (Nat.le_add_right _ _))
theorem law6_o_land {L F B : Nat} {s : wt_S} {l3 : Int32} {P : Int32 → wt_S → Prop} {K : wt_S → Option (Int32 × wt_S)} (hL : L ≤ 3072) (hl : 0 ≤ l3.toInt ∧ l3.toInt + 6 ≤ L) (hF1 : F + 2401800 ≤ 1999990000) (hB1 : B + 2400 ≤ 2147200000) (h : L6 F B s) (go : ∀ s', L6 (F + 2401800) (B + 2400) s' → Ok P (K s')) : Ok P (wt_ix (l3 + 1) L fun k1 => (wt_ix (l3 + 2) L fun k2 => (wt_ix (l3 + 3) L fun k3 => (wt_cl (gX10_land s (s 0 k1) (s 0 k2) (s 0 k3)) fun v s1 => (wt_ix (l3 + 1) L fun m1 => (wt_ix (l3 + 2) L fun m2 => (wt_ix (l3 + 3) L fun m3 => (wt_cl (gX11_land s1 (s1 0 m1) (s1 0 m2) (s1 0 m3)) fun w s2 => K s2)))))))) := by
  have hF0 : F ≤ 1999990000 := Nat.le_trans (Nat.le_add_right _ _) hF1
  have hB0 : B ≤ 2147200000 := Nat.le_trans (Nat.le_add_right _ _) hB1
  obtain ⟨r, s1, r2, s2, e1, e2, e3, e4, e5⟩ := lo6_land (a := s 0 (l3.toInt.toNat + 1)) (b := s 0 (l3.toInt.toNat + 2)) (c := s 0 (l3.toInt.toNat + 3)) h (Nat.le_trans (Nat.add_le_add_left (by decide) F) hF1) hB0
  rw [ix_l1 hL hl, ix_l2 hL hl, ix_l3 hL hl, e1, cl_some, ix_l1 hL hl, ix_l2 hL hl, ix_l3 hL hl, e2, show gX11_land s1 (s 0 (l3.toInt.toNat + 1)) (s 0 (l3.toInt.toNat + 2)) (s 0 (l3.toInt.toNat + 3)) = some (r2, s2) from e3, cl_some]
  exact go s2 (e5.mono (Nat.add_le_add_left (by decide) _) (Nat.le_add_right _ _))
theorem law6_o_alone {L F B : Nat} {s : wt_S} {l3 : Int32} {P : Int32 → wt_S → Prop} {K : wt_S → Option (Int32 × wt_S)} (hL : L ≤ 3072) (hl : 0 ≤ l3.toInt ∧ l3.toInt + 6 ≤ L) (hF1 : F + 2401800 ≤ 1999990000) (hB1 : B + 2400 ≤ 2147200000) (h : L6 F B s) (go : ∀ s', L6 (F + 2401800) (B + 2400) s' → Ok P (K s')) : Ok P (wt_ix (l3 + 1) L fun k1 => (wt_ix (l3 + 2) L fun k2 => (wt_ix (l3 + 3) L fun k3 => (wt_ix (l3 + 4) L fun k4 => (wt_cl (gX10_alone s (s 0 k1) (s 0 k2) (s 0 k3) (s 0 k4)) fun v s1 => (wt_ix (l3 + 1) L fun m1 => (wt_ix (l3 + 2) L fun m2 => (wt_ix (l3 + 3) L fun m3 => (wt_ix (l3 + 4) L fun m4 => (wt_cl (gX11_alone s1 (s1 0 m1) (s1 0 m2) (s1 0 m3) (s1 0 m4)) fun w s2 => K s2)))))))))) := by
  have hF0 : F ≤ 1999990000 := Nat.le_trans (Nat.le_add_right _ _) hF1
  have hB0 : B ≤ 2147200000 := Nat.le_trans (Nat.le_add_right _ _) hB1
  obtain ⟨r, s1, r2, s2, e1, e2, e3, e4, e5⟩ := lo6_alone (a := s 0 (l3.toInt.toNat + 1)) (b := s 0 (l3.toInt.toNat + 2)) (c := s 0 (l3.toInt.toNat + 3)) (d := s 0 (l3.toInt.toNat + 4)) h (Nat.le_trans (Nat.add_le_add_left (by decide) F) hF1) hB0
  rw [ix_l1 hL hl, ix_l2 hL hl, ix_l3 hL hl, ix_l4 hL hl, e1, cl_some, ix_l1 hL hl, ix_l2 hL hl, ix_l3 hL hl, ix_l4 hL hl, e2, show gX11_alone s1 (s 0 (l3.toInt.toNat + 1)) (s 0 (l3.toInt.toNat + 2)) (s 0 (l3.toInt.toNat + 3)) (s 0 (l3.toInt.toNat + 4)) = some (r2, s2) from e3, cl_some]
  exact go s2 (e5.mono (Nat.add_le_add_left (by decide) _) (Nat.le_add_right _ _))
theorem law6_o_log {L F B : Nat} {s : wt_S} {l3 : Int32} {P : Int32 → wt_S → Prop} {K : wt_S → Option (Int32 × wt_S)} (hL : L ≤ 3072) (hl : 0 ≤ l3.toInt ∧ l3.toInt + 6 ≤ L) (hF1 : F + 2401800 ≤ 1999990000) (hB1 : B + 2400 ≤ 2147200000) (h : L6 F B s) (go : ∀ s', L6 (F + 2401800) (B + 2400) s' → Ok P (K s')) : Ok P (wt_ix (l3 + 1) L fun k1 => (wt_ix (l3 + 2) L fun k2 => (wt_cl (gX10_log s (s 0 k1) (s 0 k2)) fun v s1 => (wt_ix (l3 + 1) L fun m1 => (wt_ix (l3 + 2) L fun m2 => (wt_cl (gX11_log s1 (s1 0 m1) (s1 0 m2)) fun w s2 => K s2)))))) := by
  have hF0 : F ≤ 1999990000 := Nat.le_trans (Nat.le_add_right _ _) hF1
  have hB0 : B ≤ 2147200000 := Nat.le_trans (Nat.le_add_right _ _) hB1
  obtain ⟨r, s1, r2, s2, e1, e2, e3, e4, e5⟩ := lo6_log (a := s 0 (l3.toInt.toNat + 1)) (b := s 0 (l3.toInt.toNat + 2)) h hB0
  rw [ix_l1 hL hl, ix_l2 hL hl, e1, cl_some, ix_l1 hL hl, ix_l2 hL hl, e2, show gX11_log s1 (s 0 (l3.toInt.toNat + 1)) (s 0 (l3.toInt.toNat + 2)) = some (r2, s2) from e3, cl_some]
  exact go s2 (e5.mono (Nat.le_add_right _ _) (Nat.le_add_right _ _))
theorem law6_e_never {L F B : Nat} {s : wt_S} {l3 : Int32} {P : Int32 → wt_S → Prop} {K : wt_S → Option (Int32 × wt_S)} (hL : L ≤ 3072) (hl : 0 ≤ l3.toInt ∧ l3.toInt + 6 ≤ L) (hF1 : F + 2401800 ≤ 1999990000) (hB1 : B + 2400 ≤ 2147200000) (h : L6 F B s) (go : ∀ s', L6 (F + 2401800) (B + 2400) s' → Ok P (K s')) : Ok P (wt_ix (l3 + 1) L fun k1 => (wt_cl (gX10_never s (s 0 k1)) fun v s1 => (wt_ix (l3 + 1) L fun m1 => (wt_cl (gX11_never s1 (s1 0 m1)) fun w s2 => (if v = w then K s2 else some (0, s2)))))) := by
  have hF0 : F ≤ 1999990000 := Nat.le_trans (Nat.le_add_right _ _) hF1
  have hB0 : B ≤ 2147200000 := Nat.le_trans (Nat.le_add_right _ _) hB1
  obtain ⟨r, s1, r2, s2, e1, e2, e3, e4, e5⟩ := lo6_never (a := s 0 (l3.toInt.toNat + 1)) h hF0
  rw [ix_l1 hL hl, e1, cl_some, ix_l1 hL hl, e2, show gX11_never s1 (s 0 (l3.toInt.toNat + 1)) = some (r2, s2) from e3, cl_some, if_pos e4]
  exact go s2 (e5.mono (Nat.le_add_right _ _) (Nat.le_add_right _ _))
theorem law6_o_count {L F B : Nat} {s : wt_S} {l3 : Int32} {P : Int32 → wt_S → Prop} {K : wt_S → Option (Int32 × wt_S)} (hL : L ≤ 3072) (hl : 0 ≤ l3.toInt ∧ l3.toInt + 6 ≤ L) (hF1 : F + 2401800 ≤ 1999990000) (hB1 : B + 2400 ≤ 2147200000) (h : L6 F B s) (go : ∀ s', L6 (F + 2401800) (B + 2400) s' → Ok P (K s')) : Ok P (wt_ix (l3 + 1) L fun k1 => (wt_cl (gX10_count s (s 0 k1)) fun v s1 => (wt_ix (l3 + 1) L fun m1 => (wt_cl (gX11_count s1 (s1 0 m1)) fun w s2 => K s2)))) := by
  have hF0 : F ≤ 1999990000 := Nat.le_trans (Nat.le_add_right _ _) hF1
  have hB0 : B ≤ 2147200000 := Nat.le_trans (Nat.le_add_right _ _) hB1
  obtain ⟨r, s1, r2, s2, e1, e2, e3, e4, e5⟩ := lo6_count (a := s 0 (l3.toInt.toNat + 1)) h hF0
  rw [ix_l1 hL hl, e1, cl_some, ix_l1 hL hl, e2, show gX11_count s1 (s 0 (l3.toInt.toNat + 1)) = some (r2, s2) from e3, cl_some]
  exact go s2 (e5.mono (Nat.le_add_right _ _) (Nat.le_add_right _ _))
theorem law6_o_look {L F B : Nat} {s : wt_S} {l3 : Int32} {P : Int32 → wt_S → Prop} {K : wt_S → Option (Int32 × wt_S)} (hL : L ≤ 3072) (hl : 0 ≤ l3.toInt ∧ l3.toInt + 6 ≤ L) (hF1 : F + 2401800 ≤ 1999990000) (hB1 : B + 2400 ≤ 2147200000) (h : L6 F B s) (go : ∀ s', L6 (F + 2401800) (B + 2400) s' → Ok P (K s')) : Ok P (wt_ix (l3 + 1) L fun k1 => (wt_cl (gX10_look s (s 0 k1)) fun v s1 => (wt_ix (l3 + 1) L fun m1 => (wt_cl (gX11_look s1 (s1 0 m1)) fun w s2 => K s2)))) := by
  have hF0 : F ≤ 1999990000 := Nat.le_trans (Nat.le_add_right _ _) hF1
  have hB0 : B ≤ 2147200000 := Nat.le_trans (Nat.le_add_right _ _) hB1
  obtain ⟨r, s1, r2, s2, e1, e2, e3, e4, e5⟩ := lo6_look (a := s 0 (l3.toInt.toNat + 1)) h hF0
  rw [ix_l1 hL hl, e1, cl_some, ix_l1 hL hl, e2, show gX11_look s1 (s 0 (l3.toInt.toNat + 1)) = some (r2, s2) from e3, cl_some]
  exact go s2 (e5.mono (Nat.le_add_right _ _) (Nat.le_add_right _ _))
end
