section
/-! ===== an operation of the law (written by wip/p2/gen_ops.py) ===== -/
theorem i_addn {x : Int32} (h : 0 ≤ x.toInt ∧ x.toInt ≤ 3072) (j : Nat) (hj : j ≤ 6) : (x + nI j).toInt = x.toInt + j := by
  obtain ⟨a, a1, rfl, a3, a4⟩ := i_nat (x := x) h.1
  rw [nI_add, nI_int (by omega)]
  omega
section
variable {α : Type} {L : Nat} {l3 : Int32} {F : Nat → Option α}
theorem ix_law (hL : L ≤ 3072) (hl : 0 ≤ l3.toInt ∧ l3.toInt + 6 ≤ L) (j : Nat) (hj : j ≤ 5) : wt_ix (l3 + nI j) L F = F (l3.toInt.toNat + j) := by
  have x := i_addn (x := l3) (by omega) j (by omega)
  unfold wt_ix
  rw [x, if_pos ⟨by omega, by omega⟩, show (l3.toInt + (j : Int)).toNat = l3.toInt.toNat + j by omega]
theorem ix_l1 (hL : L ≤ 3072) (hl : 0 ≤ l3.toInt ∧ l3.toInt + 6 ≤ L) : wt_ix (l3 + 1) L F = F (l3.toInt.toNat + 1) := ix_law hL hl 1 (by omega)
theorem ix_l2 (hL : L ≤ 3072) (hl : 0 ≤ l3.toInt ∧ l3.toInt + 6 ≤ L) : wt_ix (l3 + 2) L F = F (l3.toInt.toNat + 2) := ix_law hL hl 2 (by omega)
theorem ix_l3 (hL : L ≤ 3072) (hl : 0 ≤ l3.toInt ∧ l3.toInt + 6 ≤ L) : wt_ix (l3 + 3) L F = F (l3.toInt.toNat + 3) := ix_law hL hl 3 (by omega)
theorem ix_l4 (hL : L ≤ 3072) (hl : 0 ≤ l3.toInt ∧ l3.toInt + 6 ≤ L) : wt_ix (l3 + 4) L F = F (l3.toInt.toNat + 4) := ix_law hL hl 4 (by omega)
theorem ix_l5 (hL : L ≤ 3072) (hl : 0 ≤ l3.toInt ∧ l3.toInt + 6 ≤ L) : wt_ix (l3 + 5) L F = F (l3.toInt.toNat + 5) := ix_law hL hl 5 (by omega)
end
theorem law_o_set {L F B : Nat} {s : wt_S} {l3 : Int32} {P : Int32 → wt_S → Prop} {K : wt_S → Option (Int32 × wt_S)} (hL : L ≤ 3072) (hl : 0 ≤ l3.toInt ∧ l3.toInt + 6 ≤ L) (hF1 : F + 2401800 ≤ 1999990000) (hB1 : B + 2400 ≤ 2147200000) (h : LJ F B s) (go : ∀ s', LJ (F + 2401800) (B + 2400) s' → Ok P (K s')) : Ok P (wt_ix (l3 + 1) L fun k1 => (wt_ix (l3 + 2) L fun k2 => (wt_cl (gX10_set s (s 0 k1) (s 0 k2)) fun v s1 => (wt_ix (l3 + 1) L fun m1 => (wt_ix (l3 + 2) L fun m2 => (wt_cl (gX11_set s1 (s1 0 m1) (s1 0 m2)) fun w s2 => K s2)))))) := by
  have hF0 : F ≤ 1999990000 := Nat.le_trans (Nat.le_add_right _ _) hF1
  have hB0 : B ≤ 2147200000 := Nat.le_trans (Nat.le_add_right _ _) hB1
  obtain ⟨r, s1, r2, s2, e1, e2, e3, e4, e5⟩ := lo_set (a := s 0 (l3.toInt.toNat + 1)) (b := s 0 (l3.toInt.toNat + 2)) h hF0
  rw [ix_l1 hL hl, ix_l2 hL hl, e1, cl_some, ix_l1 hL hl, ix_l2 hL hl, e2, show gX11_set s1 (s 0 (l3.toInt.toNat + 1)) (s 0 (l3.toInt.toNat + 2)) = some (r2, s2) from e3, cl_some]
  exact go s2 (e5.mono (Nat.le_add_right _ _) (Nat.le_add_right _ _))
theorem law_e_set {L F B : Nat} {s : wt_S} {l3 : Int32} {P : Int32 → wt_S → Prop} {K : wt_S → Option (Int32 × wt_S)} (hL : L ≤ 3072) (hl : 0 ≤ l3.toInt ∧ l3.toInt + 6 ≤ L) (hF1 : F + 2401800 ≤ 1999990000) (hB1 : B + 2400 ≤ 2147200000) (h : LJ F B s) (go : ∀ s', LJ (F + 2401800) (B + 2400) s' → Ok P (K s')) : Ok P (wt_ix (l3 + 1) L fun k1 => (wt_ix (l3 + 2) L fun k2 => (wt_cl (gX10_set s (s 0 k1) (s 0 k2)) fun v s1 => (wt_ix (l3 + 1) L fun m1 => (wt_ix (l3 + 2) L fun m2 => (wt_cl (gX11_set s1 (s1 0 m1) (s1 0 m2)) fun w s2 => (if v = w then K s2 else some (0, s2)))))))) := by
  have hF0 : F ≤ 1999990000 := Nat.le_trans (Nat.le_add_right _ _) hF1
  have hB0 : B ≤ 2147200000 := Nat.le_trans (Nat.le_add_right _ _) hB1
  obtain ⟨r, s1, r2, s2, e1, e2, e3, e4, e5⟩ := lo_set (a := s 0 (l3.toInt.toNat + 1)) (b := s 0 (l3.toInt.toNat + 2)) h hF0
  rw [ix_l1 hL hl, ix_l2 hL hl, e1, cl_some, ix_l1 hL hl, ix_l2 hL hl, e2, show gX11_set s1 (s 0 (l3.toInt.toNat + 1)) (s 0 (l3.toInt.toNat + 2)) = some (r2, s2) from e3, cl_some, if_pos e4]
  exact go s2 (e5.mono (Nat.le_add_right _ _) (Nat.le_add_right _ _))
theorem law_o_function {L F B : Nat} {s : wt_S} {l3 : Int32} {P : Int32 → wt_S → Prop} {K : wt_S → Option (Int32 × wt_S)} (hL : L ≤ 3072) (hl : 0 ≤ l3.toInt ∧ l3.toInt + 6 ≤ L) (hF1 : F + 2401800 ≤ 1999990000) (hB1 : B + 2400 ≤ 2147200000) (h : LJ F B s) (go : ∀ s', LJ (F + 2401800) (B + 2400) s' → Ok P (K s')) : Ok P (wt_ix (l3 + 1) L fun k1 => (wt_ix (l3 + 2) L fun k2 => (wt_ix (l3 + 3) L fun k3 => (wt_cl (gX10_function s (s 0 k1) (s 0 k2) (s 0 k3)) fun v s1 => (wt_ix (l3 + 1) L fun m1 => (wt_ix (l3 + 2) L fun m2 => (wt_ix (l3 + 3) L fun m3 => (wt_cl (gX11_function s1 (s1 0 m1) (s1 0 m2) (s1 0 m3)) fun w s2 => K s2)))))))) := by
  have hF0 : F ≤ 1999990000 := Nat.le_trans (Nat.le_add_right _ _) hF1
  have hB0 : B ≤ 2147200000 := Nat.le_trans (Nat.le_add_right _ _) hB1
  obtain ⟨r, s1, r2, s2, e1, e2, e3, e4, e5⟩ := lo_function (a := s 0 (l3.toInt.toNat + 1)) (b := s 0 (l3.toInt.toNat + 2)) (c := s 0 (l3.toInt.toNat + 3)) h hF0
  rw [ix_l1 hL hl, ix_l2 hL hl, ix_l3 hL hl, e1, cl_some, ix_l1 hL hl, ix_l2 hL hl, ix_l3 hL hl, e2, show gX11_function s1 (s 0 (l3.toInt.toNat + 1)) (s 0 (l3.toInt.toNat + 2)) (s 0 (l3.toInt.toNat + 3)) = some (r2, s2) from e3, cl_some]
  exact go s2 (e5.mono (Nat.le_add_right _ _) (Nat.le_add_right _ _))
theorem law_e_function {L F B : Nat} {s : wt_S} {l3 : Int32} {P : Int32 → wt_S → Prop} {K : wt_S → Option (Int32 × wt_S)} (hL : L ≤ 3072) (hl : 0 ≤ l3.toInt ∧ l3.toInt + 6 ≤ L) (hF1 : F + 2401800 ≤ 1999990000) (hB1 : B + 2400 ≤ 2147200000) (h : LJ F B s) (go : ∀ s', LJ (F + 2401800) (B + 2400) s' → Ok P (K s')) : Ok P (wt_ix (l3 + 1) L fun k1 => (wt_ix (l3 + 2) L fun k2 => (wt_ix (l3 + 3) L fun k3 => (wt_cl (gX10_function s (s 0 k1) (s 0 k2) (s 0 k3)) fun v s1 => (wt_ix (l3 + 1) L fun m1 => (wt_ix (l3 + 2) L fun m2 => (wt_ix (l3 + 3) L fun m3 => (wt_cl (gX11_function s1 (s1 0 m1) (s1 0 m2) (s1 0 m3)) fun w s2 => (if v = w then K s2 else some (0, s2)))))))))) := by
  have hF0 : F ≤ 1999990000 := Nat.le_trans (Nat.le_add_right _ _) hF1
  have hB0 : B ≤ 2147200000 := Nat.le_trans (Nat.le_add_right _ _) hB1
  obtain ⟨r, s1, r2, s2, e1, e2, e3, e4, e5⟩ := lo_function (a := s 0 (l3.toInt.toNat + 1)) (b := s 0 (l3.toInt.toNat + 2)) (c := s 0 (l3.toInt.toNat + 3)) h hF0
  rw [ix_l1 hL hl, ix_l2 hL hl, ix_l3 hL hl, e1, cl_some, ix_l1 hL hl, ix_l2 hL hl, ix_l3 hL hl, e2, show gX11_function s1 (s 0 (l3.toInt.toNat + 1)) (s 0 (l3.toInt.toNat + 2)) (s 0 (l3.toInt.toNat + 3)) = some (r2, s2) from e3, cl_some, if_pos e4]
  exact go s2 (e5.mono (Nat.le_add_right _ _) (Nat.le_add_right _ _))
theorem law_o_line {L F B : Nat} {s : wt_S} {l3 : Int32} {P : Int32 → wt_S → Prop} {K : wt_S → Option (Int32 × wt_S)} (hL : L ≤ 3072) (hl : 0 ≤ l3.toInt ∧ l3.toInt + 6 ≤ L) (hF1 : F + 2401800 ≤ 1999990000) (hB1 : B + 2400 ≤ 2147200000) (h : LJ F B s) (go : ∀ s', LJ (F + 2401800) (B + 2400) s' → Ok P (K s')) : Ok P (wt_ix (l3 + 1) L fun k1 => (wt_ix (l3 + 2) L fun k2 => (wt_ix (l3 + 3) L fun k3 => (wt_ix (l3 + 4) L fun k4 => (wt_ix (l3 + 5) L fun k5 => (wt_cl (gX10_line s (s 0 k1) (s 0 k2) (s 0 k3) (s 0 k4) (s 0 k5)) fun v s1 => (wt_ix (l3 + 1) L fun m1 => (wt_ix (l3 + 2) L fun m2 => (wt_ix (l3 + 3) L fun m3 => (wt_ix (l3 + 4) L fun m4 => (wt_ix (l3 + 5) L fun m5 => (wt_cl (gX11_line s1 (s1 0 m1) (s1 0 m2) (s1 0 m3) (s1 0 m4) (s1 0 m5)) fun w s2 => K s2)))))))))))) := by
  have hF0 : F ≤ 1999990000 := Nat.le_trans (Nat.le_add_right _ _) hF1
  have hB0 : B ≤ 2147200000 := Nat.le_trans (Nat.le_add_right _ _) hB1
  obtain ⟨r, s1, r2, s2, e1, e2, e3, e4, e5⟩ := lo_line (k := s 0 (l3.toInt.toNat + 1)) (a := s 0 (l3.toInt.toNat + 2)) (b := s 0 (l3.toInt.toNat + 3)) (c := s 0 (l3.toInt.toNat + 4)) (d := s 0 (l3.toInt.toNat + 5)) h hF0
  rw [ix_l1 hL hl, ix_l2 hL hl, ix_l3 hL hl, ix_l4 hL hl, ix_l5 hL hl, e1, cl_some, ix_l1 hL hl, ix_l2 hL hl, ix_l3 hL hl, ix_l4 hL hl, ix_l5 hL hl, e2, show gX11_line s1 (s 0 (l3.toInt.toNat + 1)) (s 0 (l3.toInt.toNat + 2)) (s 0 (l3.toInt.toNat + 3)) (s 0 (l3.toInt.toNat + 4)) (s 0 (l3.toInt.toNat + 5)) = some (r2, s2) from e3, cl_some]
  exact go s2 (e5.mono (Nat.le_add_right _ _) (Nat.le_add_right _ _))
theorem law_e_line {L F B : Nat} {s : wt_S} {l3 : Int32} {P : Int32 → wt_S → Prop} {K : wt_S → Option (Int32 × wt_S)} (hL : L ≤ 3072) (hl : 0 ≤ l3.toInt ∧ l3.toInt + 6 ≤ L) (hF1 : F + 2401800 ≤ 1999990000) (hB1 : B + 2400 ≤ 2147200000) (h : LJ F B s) (go : ∀ s', LJ (F + 2401800) (B + 2400) s' → Ok P (K s')) : Ok P (wt_ix (l3 + 1) L fun k1 => (wt_ix (l3 + 2) L fun k2 => (wt_ix (l3 + 3) L fun k3 => (wt_ix (l3 + 4) L fun k4 => (wt_ix (l3 + 5) L fun k5 => (wt_cl (gX10_line s (s 0 k1) (s 0 k2) (s 0 k3) (s 0 k4) (s 0 k5)) fun v s1 => (wt_ix (l3 + 1) L fun m1 => (wt_ix (l3 + 2) L fun m2 => (wt_ix (l3 + 3) L fun m3 => (wt_ix (l3 + 4) L fun m4 => (wt_ix (l3 + 5) L fun m5 => (wt_cl (gX11_line s1 (s1 0 m1) (s1 0 m2) (s1 0 m3) (s1 0 m4) (s1 0 m5)) fun w s2 => (if v = w then K s2 else some (0, s2)))))))))))))) := by
  have hF0 : F ≤ 1999990000 := Nat.le_trans (Nat.le_add_right _ _) hF1
  have hB0 : B ≤ 2147200000 := Nat.le_trans (Nat.le_add_right _ _) hB1
  obtain ⟨r, s1, r2, s2, e1, e2, e3, e4, e5⟩ := lo_line (k := s 0 (l3.toInt.toNat + 1)) (a := s 0 (l3.toInt.toNat + 2)) (b := s 0 (l3.toInt.toNat + 3)) (c := s 0 (l3.toInt.toNat + 4)) (d := s 0 (l3.toInt.toNat + 5)) h hF0
  rw [ix_l1 hL hl, ix_l2 hL hl, ix_l3 hL hl, ix_l4 hL hl, ix_l5 hL hl, e1, cl_some, ix_l1 hL hl, ix_l2 hL hl, ix_l3 hL hl, ix_l4 hL hl, ix_l5 hL hl, e2, show gX11_line s1 (s 0 (l3.toInt.toNat + 1)) (s 0 (l3.toInt.toNat + 2)) (s 0 (l3.toInt.toNat + 3)) (s 0 (l3.toInt.toNat + 4)) (s 0 (l3.toInt.toNat + 5)) = some (r2, s2) from e3, cl_some, if_pos e4]
  exact go s2 (e5.mono (Nat.le_add_right _ _) (Nat.le_add_right _ _))
theorem law_o_start {L F B : Nat} {s : wt_S} {l3 : Int32} {P : Int32 → wt_S → Prop} {K : wt_S → Option (Int32 × wt_S)} (hL : L ≤ 3072) (hl : 0 ≤ l3.toInt ∧ l3.toInt + 6 ≤ L) (hF1 : F + 2401800 ≤ 1999990000) (hB1 : B + 2400 ≤ 2147200000) (h : LJ F B s) (go : ∀ s', LJ (F + 2401800) (B + 2400) s' → Ok P (K s')) : Ok P (wt_ix (l3 + 1) L fun k1 => (wt_ix (l3 + 2) L fun k2 => (wt_ix (l3 + 3) L fun k3 => (wt_ix (l3 + 4) L fun k4 => (wt_cl (gX10_start s (s 0 k1) (s 0 k2) (s 0 k3) (s 0 k4)) fun v s1 => (wt_ix (l3 + 1) L fun m1 => (wt_ix (l3 + 2) L fun m2 => (wt_ix (l3 + 3) L fun m3 => (wt_ix (l3 + 4) L fun m4 => (wt_cl (gX11_start s1 (s1 0 m1) (s1 0 m2) (s1 0 m3) (s1 0 m4)) fun w s2 => K s2)))))))))) := by
  have hF0 : F ≤ 1999990000 := Nat.le_trans (Nat.le_add_right _ _) hF1
  have hB0 : B ≤ 2147200000 := Nat.le_trans (Nat.le_add_right _ _) hB1
  obtain ⟨r, s1, r2, s2, e1, e2, e3, e4, e5⟩ := lo_start (a := s 0 (l3.toInt.toNat + 1)) (b := s 0 (l3.toInt.toNat + 2)) (c := s 0 (l3.toInt.toNat + 3)) (d := s 0 (l3.toInt.toNat + 4)) h hF0 hB0
  rw [ix_l1 hL hl, ix_l2 hL hl, ix_l3 hL hl, ix_l4 hL hl, e1, cl_some, ix_l1 hL hl, ix_l2 hL hl, ix_l3 hL hl, ix_l4 hL hl, e2, show gX11_start s1 (s 0 (l3.toInt.toNat + 1)) (s 0 (l3.toInt.toNat + 2)) (s 0 (l3.toInt.toNat + 3)) (s 0 (l3.toInt.toNat + 4)) = some (r2, s2) from e3, cl_some]
  exact go s2 (e5.mono (Nat.add_le_add_left (by decide) _) (Nat.add_le_add_left (by decide) _))
theorem law_e_start {L F B : Nat} {s : wt_S} {l3 : Int32} {P : Int32 → wt_S → Prop} {K : wt_S → Option (Int32 × wt_S)} (hL : L ≤ 3072) (hl : 0 ≤ l3.toInt ∧ l3.toInt + 6 ≤ L) (hF1 : F + 2401800 ≤ 1999990000) (hB1 : B + 2400 ≤ 2147200000) (h : LJ F B s) (go : ∀ s', LJ (F + 2401800) (B + 2400) s' → Ok P (K s')) : Ok P (wt_ix (l3 + 1) L fun k1 => (wt_ix (l3 + 2) L fun k2 => (wt_ix (l3 + 3) L fun k3 => (wt_ix (l3 + 4) L fun k4 => (wt_cl (gX10_start s (s 0 k1) (s 0 k2) (s 0 k3) (s 0 k4)) fun v s1 => (wt_ix (l3 + 1) L fun m1 => (wt_ix (l3 + 2) L fun m2 => (wt_ix (l3 + 3) L fun m3 => (wt_ix (l3 + 4) L fun m4 => (wt_cl (gX11_start s1 (s1 0 m1) (s1 0 m2) (s1 0 m3) (s1 0 m4)) fun w s2 => (if v = w then K s2 else some (0, s2)))))))))))) := by
  have hF0 : F ≤ 1999990000 := Nat.le_trans (Nat.le_add_right _ _) hF1
  have hB0 : B ≤ 2147200000 := Nat.le_trans (Nat.le_add_right _ _) hB1
  obtain ⟨r, s1, r2, s2, e1, e2, e3, e4, e5⟩ := lo_start (a := s 0 (l3.toInt.toNat + 1)) (b := s 0 (l3.toInt.toNat + 2)) (c := s 0 (l3.toInt.toNat + 3)) (d := s 0 (l3.toInt.toNat + 4)) h hF0 hB0
  rw [ix_l1 hL hl, ix_l2 hL hl, ix_l3 hL hl, ix_l4 hL hl, e1, cl_some, ix_l1 hL hl, ix_l2 hL hl, ix_l3 hL hl, ix_l4 hL hl, e2, show gX11_start s1 (s 0 (l3.toInt.toNat + 1)) (s 0 (l3.toInt.toNat + 2)) (s 0 (l3.toInt.toNat + 3)) (s 0 (l3.toInt.toNat + 4)) = some (r2, s2) from e3, cl_some, if_pos e4]
  exact go s2 (e5.mono (Nat.add_le_add_left (by decide) _) (Nat.add_le_add_left (by decide) _))
theorem law_o_step {L F B : Nat} {s : wt_S} {l3 : Int32} {P : Int32 → wt_S → Prop} {K : wt_S → Option (Int32 × wt_S)} (hL : L ≤ 3072) (hl : 0 ≤ l3.toInt ∧ l3.toInt + 6 ≤ L) (hF1 : F + 2401800 ≤ 1999990000) (hB1 : B + 2400 ≤ 2147200000) (h : LJ F B s) (go : ∀ s', LJ (F + 2401800) (B + 2400) s' → Ok P (K s')) : Ok P (wt_ix (l3 + 1) L fun k1 => (wt_ix (l3 + 2) L fun k2 => (wt_cl (gX10_step s (s 0 k1) (s 0 k2)) fun v s1 => (wt_ix (l3 + 1) L fun m1 => (wt_ix (l3 + 2) L fun m2 => (wt_cl (gX11_step s1 (s1 0 m1) (s1 0 m2)) fun w s2 => K s2)))))) := by
  have hF0 : F ≤ 1999990000 := Nat.le_trans (Nat.le_add_right _ _) hF1
  have hB0 : B ≤ 2147200000 := Nat.le_trans (Nat.le_add_right _ _) hB1
  obtain ⟨r, s1, r2, s2, e1, e2, e3, e4, e5⟩ := lo_step (a := s 0 (l3.toInt.toNat + 1)) (b := s 0 (l3.toInt.toNat + 2)) h (Nat.le_trans (Nat.add_le_add_left (by decide) F) hF1) hB0
  rw [ix_l1 hL hl, ix_l2 hL hl, e1, cl_some, ix_l1 hL hl, ix_l2 hL hl, e2, show gX11_step s1 (s 0 (l3.toInt.toNat + 1)) (s 0 (l3.toInt.toNat + 2)) = some (r2, s2) from e3, cl_some]
  exact go s2 (e5.mono (Nat.add_le_add_left (by decide) _) (Nat.add_le_add_left (by decide) _))
theorem law_e_step {L F B : Nat} {s : wt_S} {l3 : Int32} {P : Int32 → wt_S → Prop} {K : wt_S → Option (Int32 × wt_S)} (hL : L ≤ 3072) (hl : 0 ≤ l3.toInt ∧ l3.toInt + 6 ≤ L) (hF1 : F + 2401800 ≤ 1999990000) (hB1 : B + 2400 ≤ 2147200000) (h : LJ F B s) (go : ∀ s', LJ (F + 2401800) (B + 2400) s' → Ok P (K s')) : Ok P (wt_ix (l3 + 1) L fun k1 => (wt_ix (l3 + 2) L fun k2 => (wt_cl (gX10_step s (s 0 k1) (s 0 k2)) fun v s1 => (wt_ix (l3 + 1) L fun m1 => (wt_ix (l3 + 2) L fun m2 => (wt_cl (gX11_step s1 (s1 0 m1) (s1 0 m2)) fun w s2 => (if v = w then K s2 else some (0, s2)))))))) := by
  have hF0 : F ≤ 1999990000 := Nat.le_trans (Nat.le_add_right _ _) hF1
  have hB0 : B ≤ 2147200000 := Nat.le_trans (Nat.le_add_right _ _) hB1
  obtain ⟨r, s1, r2, s2, e1, e2, e3, e4, e5⟩ := lo_step (a := s 0 (l3.toInt.toNat + 1)) (b := s 0 (l3.toInt.toNat + 2)) h (Nat.le_trans (Nat.add_le_add_left (by decide) F) hF1) hB0
  rw [ix_l1 hL hl, ix_l2 hL hl, e1, cl_some, ix_l1 hL hl, ix_l2 hL hl, e2, show gX11_step s1 (s 0 (l3.toInt.toNat + 1)) (s 0 (l3.toInt.toNat + 2)) = some (r2, s2) from e3, cl_some, if_pos e4]
  exact go s2 (e5.mono (Nat.add_le_add_left (by decide) _) (Nat.add_le_add_left (by decide) _))
theorem law_o_round {L F B : Nat} {s : wt_S} {l3 : Int32} {P : Int32 → wt_S → Prop} {K : wt_S → Option (Int32 × wt_S)} (hL : L ≤ 3072) (hl : 0 ≤ l3.toInt ∧ l3.toInt + 6 ≤ L) (hF1 : F + 2401800 ≤ 1999990000) (hB1 : B + 2400 ≤ 2147200000) (h : LJ F B s) (go : ∀ s', LJ (F + 2401800) (B + 2400) s' → Ok P (K s')) : Ok P (wt_ix (l3 + 1) L fun k1 => (wt_cl (gX10_round s (s 0 k1)) fun v s1 => (wt_ix (l3 + 1) L fun m1 => (wt_cl (gX11_round s1 (s1 0 m1)) fun w s2 => K s2)))) := by
  have hF0 : F ≤ 1999990000 := Nat.le_trans (Nat.le_add_right _ _) hF1
  have hB0 : B ≤ 2147200000 := Nat.le_trans (Nat.le_add_right _ _) hB1
  obtain ⟨r, s1, r2, s2, e1, e2, e3, e4, e5⟩ := lo_round (a := s 0 (l3.toInt.toNat + 1)) h hF1 hB0
  rw [ix_l1 hL hl, e1, cl_some, ix_l1 hL hl, e2, show gX11_round s1 (s 0 (l3.toInt.toNat + 1)) = some (r2, s2) from e3, cl_some]
  exact go s2 (e5.mono (Nat.le_refl _) (Nat.le_refl _))
theorem law_e_round {L F B : Nat} {s : wt_S} {l3 : Int32} {P : Int32 → wt_S → Prop} {K : wt_S → Option (Int32 × wt_S)} (hL : L ≤ 3072) (hl : 0 ≤ l3.toInt ∧ l3.toInt + 6 ≤ L) (hF1 : F + 2401800 ≤ 1999990000) (hB1 : B + 2400 ≤ 2147200000) (h : LJ F B s) (go : ∀ s', LJ (F + 2401800) (B + 2400) s' → Ok P (K s')) : Ok P (wt_ix (l3 + 1) L fun k1 => (wt_cl (gX10_round s (s 0 k1)) fun v s1 => (wt_ix (l3 + 1) L fun m1 => (wt_cl (gX11_round s1 (s1 0 m1)) fun w s2 => (if v = w then K s2 else some (0, s2)))))) := by
  have hF0 : F ≤ 1999990000 := Nat.le_trans (Nat.le_add_right _ _) hF1
  have hB0 : B ≤ 2147200000 := Nat.le_trans (Nat.le_add_right _ _) hB1
  obtain ⟨r, s1, r2, s2, e1, e2, e3, e4, e5⟩ := lo_round (a := s 0 (l3.toInt.toNat + 1)) h hF1 hB0
  rw [ix_l1 hL hl, e1, cl_some, ix_l1 hL hl, e2, show gX11_round s1 (s 0 (l3.toInt.toNat + 1)) = some (r2, s2) from e3, cl_some, if_pos e4]
  exact go s2 (e5.mono (Nat.le_refl _) (Nat.le_refl _))
theorem law_o_stop {L F B : Nat} {s : wt_S} {l3 : Int32} {P : Int32 → wt_S → Prop} {K : wt_S → Option (Int32 × wt_S)} (hL : L ≤ 3072) (hl : 0 ≤ l3.toInt ∧ l3.toInt + 6 ≤ L) (hF1 : F + 2401800 ≤ 1999990000) (hB1 : B + 2400 ≤ 2147200000) (h : LJ F B s) (go : ∀ s', LJ (F + 2401800) (B + 2400) s' → Ok P (K s')) : Ok P (wt_ix (l3 + 1) L fun k1 => (wt_cl (gX10_stop s (s 0 k1)) fun v s1 => (wt_ix (l3 + 1) L fun m1 => (wt_cl (gX11_stop s1 (s1 0 m1)) fun w s2 => K s2)))) := by
  have hF0 : F ≤ 1999990000 := Nat.le_trans (Nat.le_add_right _ _) hF1
  have hB0 : B ≤ 2147200000 := Nat.le_trans (Nat.le_add_right _ _) hB1
  obtain ⟨r, s1, r2, s2, e1, e2, e3, e4, e5⟩ := lo_stop (a := s 0 (l3.toInt.toNat + 1)) h hF0
  rw [ix_l1 hL hl, e1, cl_some, ix_l1 hL hl, e2, show gX11_stop s1 (s 0 (l3.toInt.toNat + 1)) = some (r2, s2) from e3, cl_some]
  exact go s2 (e5.mono (Nat.le_add_right _ _) (Nat.le_add_right _ _))
theorem law_e_stop {L F B : Nat} {s : wt_S} {l3 : Int32} {P : Int32 → wt_S → Prop} {K : wt_S → Option (Int32 × wt_S)} (hL : L ≤ 3072) (hl : 0 ≤ l3.toInt ∧ l3.toInt + 6 ≤ L) (hF1 : F + 2401800 ≤ 1999990000) (hB1 : B + 2400 ≤ 2147200000) (h : LJ F B s) (go : ∀ s', LJ (F + 2401800) (B + 2400) s' → Ok P (K s')) : Ok P (wt_ix (l3 + 1) L fun k1 => (wt_cl (gX10_stop s (s 0 k1)) fun v s1 => (wt_ix (l3 + 1) L fun m1 => (wt_cl (gX11_stop s1 (s1 0 m1)) fun w s2 => (if v = w then K s2 else some (0, s2)))))) := by
  have hF0 : F ≤ 1999990000 := Nat.le_trans (Nat.le_add_right _ _) hF1
  have hB0 : B ≤ 2147200000 := Nat.le_trans (Nat.le_add_right _ _) hB1
  obtain ⟨r, s1, r2, s2, e1, e2, e3, e4, e5⟩ := lo_stop (a := s 0 (l3.toInt.toNat + 1)) h hF0
  rw [ix_l1 hL hl, e1, cl_some, ix_l1 hL hl, e2, show gX11_stop s1 (s 0 (l3.toInt.toNat + 1)) = some (r2, s2) from e3, cl_some, if_pos e4]
  exact go s2 (e5.mono (Nat.le_add_right _ _) (Nat.le_add_right _ _))
theorem law_o_quiet {L F B : Nat} {s : wt_S} {l3 : Int32} {P : Int32 → wt_S → Prop} {K : wt_S → Option (Int32 × wt_S)} (hL : L ≤ 3072) (hl : 0 ≤ l3.toInt ∧ l3.toInt + 6 ≤ L) (hF1 : F + 2401800 ≤ 1999990000) (hB1 : B + 2400 ≤ 2147200000) (h : LJ F B s) (go : ∀ s', LJ (F + 2401800) (B + 2400) s' → Ok P (K s')) : Ok P (wt_ix (l3 + 1) L fun k1 => (wt_cl (gX10_quiet s (s 0 k1)) fun v s1 => (wt_ix (l3 + 1) L fun m1 => (wt_cl (gX11_quiet s1 (s1 0 m1)) fun w s2 => K s2)))) := by
  have hF0 : F ≤ 1999990000 := Nat.le_trans (Nat.le_add_right _ _) hF1
  have hB0 : B ≤ 2147200000 := Nat.le_trans (Nat.le_add_right _ _) hB1
  obtain ⟨r, s1, r2, s2, e1, e2, e3, e4, e5⟩ := lo_quiet (a := s 0 (l3.toInt.toNat + 1)) h hF0 hB0
  rw [ix_l1 hL hl, e1, cl_some, ix_l1 hL hl, e2, show gX11_quiet s1 (s 0 (l3.toInt.toNat + 1)) = some (r2, s2) from e3, cl_some]
  exact go s2 (e5.mono (Nat.le_add_right _ _) (Nat.add_le_add_left (by decide) _))
theorem law_e_quiet {L F B : Nat} {s : wt_S} {l3 : Int32} {P : Int32 → wt_S → Prop} {K : wt_S → Option (Int32 × wt_S)} (hL : L ≤ 3072) (hl : 0 ≤ l3.toInt ∧ l3.toInt + 6 ≤ L) (hF1 : F + 2401800 ≤ 1999990000) (hB1 : B + 2400 ≤ 2147200000) (h : LJ F B s) (go : ∀ s', LJ (F + 2401800) (B + 2400) s' → Ok P (K s')) : Ok P (wt_ix (l3 + 1) L fun k1 => (wt_cl (gX10_quiet s (s 0 k1)) fun v s1 => (wt_ix (l3 + 1) L fun m1 => (wt_cl (gX11_quiet s1 (s1 0 m1)) fun w s2 => (if v = w then K s2 else some (0, s2)))))) := by
  have hF0 : F ≤ 1999990000 := Nat.le_trans (Nat.le_add_right _ _) hF1
  have hB0 : B ≤ 2147200000 := Nat.le_trans (Nat.le_add_right _ _) hB1
  obtain ⟨r, s1, r2, s2, e1, e2, e3, e4, e5⟩ := lo_quiet (a := s 0 (l3.toInt.toNat + 1)) h hF0 hB0
  rw [ix_l1 hL hl, e1, cl_some, ix_l1 hL hl, e2, show gX11_quiet s1 (s 0 (l3.toInt.toNat + 1)) = some (r2, s2) from e3, cl_some, if_pos e4]
  exact go s2 (e5.mono (Nat.le_add_right _ _) (Nat.add_le_add_left (by decide) _))
theorem law_o_join {L F B : Nat} {s : wt_S} {l3 : Int32} {P : Int32 → wt_S → Prop} {K : wt_S → Option (Int32 × wt_S)} (hL : L ≤ 3072) (hl : 0 ≤ l3.toInt ∧ l3.toInt + 6 ≤ L) (hF1 : F + 2401800 ≤ 1999990000) (hB1 : B + 2400 ≤ 2147200000) (h : LJ F B s) (go : ∀ s', LJ (F + 2401800) (B + 2400) s' → Ok P (K s')) : Ok P (wt_ix (l3 + 1) L fun k1 => (wt_cl (gX10_join s (s 0 k1)) fun v s1 => (wt_ix (l3 + 1) L fun m1 => (wt_cl (gX11_join s1 (s1 0 m1)) fun w s2 => K s2)))) := by
  have hF0 : F ≤ 1999990000 := Nat.le_trans (Nat.le_add_right _ _) hF1
  have hB0 : B ≤ 2147200000 := Nat.le_trans (Nat.le_add_right _ _) hB1
  obtain ⟨r, s1, r2, s2, e1, e2, e3, e4, e5⟩ := lo_join (a := s 0 (l3.toInt.toNat + 1)) h hF0 hB0
  rw [ix_l1 hL hl, e1, cl_some, ix_l1 hL hl, e2, show gX11_join s1 (s 0 (l3.toInt.toNat + 1)) = some (r2, s2) from e3, cl_some]
  exact go s2 (e5.mono (Nat.le_add_right _ _) (Nat.add_le_add_left (by decide) _))
theorem law_e_join {L F B : Nat} {s : wt_S} {l3 : Int32} {P : Int32 → wt_S → Prop} {K : wt_S → Option (Int32 × wt_S)} (hL : L ≤ 3072) (hl : 0 ≤ l3.toInt ∧ l3.toInt + 6 ≤ L) (hF1 : F + 2401800 ≤ 1999990000) (hB1 : B + 2400 ≤ 2147200000) (h : LJ F B s) (go : ∀ s', LJ (F + 2401800) (B + 2400) s' → Ok P (K s')) : Ok P (wt_ix (l3 + 1) L fun k1 => (wt_cl (gX10_join s (s 0 k1)) fun v s1 => (wt_ix (l3 + 1) L fun m1 => (wt_cl (gX11_join s1 (s1 0 m1)) fun w s2 => (if v = w then K s2 else some (0, s2)))))) := by
  have hF0 : F ≤ 1999990000 := Nat.le_trans (Nat.le_add_right _ _) hF1
  have hB0 : B ≤ 2147200000 := Nat.le_trans (Nat.le_add_right _ _) hB1
  obtain ⟨r, s1, r2, s2, e1, e2, e3, e4, e5⟩ := lo_join (a := s 0 (l3.toInt.toNat + 1)) h hF0 hB0
  rw [ix_l1 hL hl, e1, cl_some, ix_l1 hL hl, e2, show gX11_join s1 (s 0 (l3.toInt.toNat + 1)) = some (r2, s2) from e3, cl_some, if_pos e4]
  exact go s2 (e5.mono (Nat.le_add_right _ _) (Nat.add_le_add_left (by decide) _))
theorem law_o_compact {L F B : Nat} {s : wt_S} {l3 : Int32} {P : Int32 → wt_S → Prop} {K : wt_S → Option (Int32 × wt_S)} (hL : L ≤ 3072) (hl : 0 ≤ l3.toInt ∧ l3.toInt + 6 ≤ L) (hF1 : F + 2401800 ≤ 1999990000) (hB1 : B + 2400 ≤ 2147200000) (h : LJ F B s) (go : ∀ s', LJ (F + 2401800) (B + 2400) s' → Ok P (K s')) : Ok P (wt_cl (gX10_compact s) fun v s1 => (wt_cl (gX11_compact s1) fun w s2 => K s2)) := by
  have hF0 : F ≤ 1999990000 := Nat.le_trans (Nat.le_add_right _ _) hF1
  have hB0 : B ≤ 2147200000 := Nat.le_trans (Nat.le_add_right _ _) hB1
  obtain ⟨r, s1, r2, s2, e1, e2, e3, e4, e5⟩ := lo_compact  h hF0 hB0
  rw [e1, cl_some, show gX11_compact s1 = some (r2, s2) from e3, cl_some]
  exact go s2 (e5.mono (Nat.le_add_right _ _) (Nat.add_le_add_left (by decide) _))
theorem law_e_compact {L F B : Nat} {s : wt_S} {l3 : Int32} {P : Int32 → wt_S → Prop} {K : wt_S → Option (Int32 × wt_S)} (hL : L ≤ 3072) (hl : 0 ≤ l3.toInt ∧ l3.toInt + 6 ≤ L) (hF1 : F + 2401800 ≤ 1999990000) (hB1 : B + 2400 ≤ 2147200000) (h : LJ F B s) (go : ∀ s', LJ (F + 2401800) (B + 2400) s' → Ok P (K s')) : Ok P (wt_cl (gX10_compact s) fun v s1 => (wt_cl (gX11_compact s1) fun w s2 => (if v = w then K s2 else some (0, s2)))) := by
  have hF0 : F ≤ 1999990000 := Nat.le_trans (Nat.le_add_right _ _) hF1
  have hB0 : B ≤ 2147200000 := Nat.le_trans (Nat.le_add_right _ _) hB1
  obtain ⟨r, s1, r2, s2, e1, e2, e3, e4, e5⟩ := lo_compact  h hF0 hB0
  rw [e1, cl_some, show gX11_compact s1 = some (r2, s2) from e3, cl_some, if_pos e4]
  exact go s2 (e5.mono (Nat.le_add_right _ _) (Nat.add_le_add_left (by decide) _))
theorem law_o_deep {L F B : Nat} {s : wt_S} {l3 : Int32} {P : Int32 → wt_S → Prop} {K : wt_S → Option (Int32 × wt_S)} (hL : L ≤ 3072) (hl : 0 ≤ l3.toInt ∧ l3.toInt + 6 ≤ L) (hF1 : F + 2401800 ≤ 1999990000) (hB1 : B + 2400 ≤ 2147200000) (h : LJ F B s) (go : ∀ s', LJ (F + 2401800) (B + 2400) s' → Ok P (K s')) : Ok P (wt_ix (l3 + 1) L fun k1 => (wt_cl (gX10_deep s (s 0 k1)) fun v s1 => (wt_ix (l3 + 1) L fun m1 => (wt_cl (gX11_deep s1 (s1 0 m1)) fun w s2 => K s2)))) := by
  have hF0 : F ≤ 1999990000 := Nat.le_trans (Nat.le_add_right _ _) hF1
  have hB0 : B ≤ 2147200000 := Nat.le_trans (Nat.le_add_right _ _) hB1
  obtain ⟨r, s1, r2, s2, e1, e2, e3, e4, e5⟩ := lo_deep (a := s 0 (l3.toInt.toNat + 1)) h hF0
  rw [ix_l1 hL hl, e1, cl_some, ix_l1 hL hl, e2, show gX11_deep s1 (s 0 (l3.toInt.toNat + 1)) = some (r2, s2) from e3, cl_some]
  exact go s2 (e5.mono (Nat.le_add_right _ _) (Nat.le_add_right _ _))
theorem law_o_need {L F B : Nat} {s : wt_S} {l3 : Int32} {P : Int32 → wt_S → Prop} {K : wt_S → Option (Int32 × wt_S)} (hL : L ≤ 3072) (hl : 0 ≤ l3.toInt ∧ l3.toInt + 6 ≤ L) (hF1 : F + 2401800 ≤ 1999990000) (hB1 : B + 2400 ≤ 2147200000) (h : LJ F B s) (go : ∀ s', LJ (F + 2401800) (B + 2400) s' → Ok P (K s')) : Ok P (wt_ix (l3 + 1) L fun k1 => (wt_cl (gX10_need s (s 0 k1)) fun v s1 => (wt_ix (l3 + 1) L fun m1 => (wt_cl (gX11_need s1 (s1 0 m1)) fun w s2 => K s2)))) := by
  have hF0 : F ≤ 1999990000 := Nat.le_trans (Nat.le_add_right _ _) hF1
  have hB0 : B ≤ 2147200000 := Nat.le_trans (Nat.le_add_right _ _) hB1
  obtain ⟨r, s1, r2, s2, e1, e2, e3, e4, e5⟩ := lo_need (a := s 0 (l3.toInt.toNat + 1)) h hF0
  rw [ix_l1 hL hl, e1, cl_some, ix_l1 hL hl, e2, show gX11_need s1 (s 0 (l3.toInt.toNat + 1)) = some (r2, s2) from e3, cl_some]
  exact go s2 (e5.mono (Nat.le_add_right _ _) (Nat.le_add_right _ _))
theorem law_o_task {L F B : Nat} {s : wt_S} {l3 : Int32} {P : Int32 → wt_S → Prop} {K : wt_S → Option (Int32 × wt_S)} (hL : L ≤ 3072) (hl : 0 ≤ l3.toInt ∧ l3.toInt + 6 ≤ L) (hF1 : F + 2401800 ≤ 1999990000) (hB1 : B + 2400 ≤ 2147200000) (h : LJ F B s) (go : ∀ s', LJ (F + 2401800) (B + 2400) s' → Ok P (K s')) : Ok P (wt_ix (l3 + 1) L fun k1 => (wt_ix (l3 + 2) L fun k2 => (wt_cl (gX10_task s (s 0 k1) (s 0 k2)) fun v s1 => (wt_ix (l3 + 1) L fun m1 => (wt_ix (l3 + 2) L fun m2 => (wt_cl (gX11_task s1 (s1 0 m1) (s1 0 m2)) fun w s2 => K s2)))))) := by
  have hF0 : F ≤ 1999990000 := Nat.le_trans (Nat.le_add_right _ _) hF1
  have hB0 : B ≤ 2147200000 := Nat.le_trans (Nat.le_add_right _ _) hB1
  obtain ⟨r, s1, r2, s2, e1, e2, e3, e4, e5⟩ := lo_task (a := s 0 (l3.toInt.toNat + 1)) (b := s 0 (l3.toInt.toNat + 2)) h hF0
  rw [ix_l1 hL hl, ix_l2 hL hl, e1, cl_some, ix_l1 hL hl, ix_l2 hL hl, e2, show gX11_task s1 (s 0 (l3.toInt.toNat + 1)) (s 0 (l3.toInt.toNat + 2)) = some (r2, s2) from e3, cl_some]
  exact go s2 (e5.mono (Nat.le_add_right _ _) (Nat.le_add_right _ _))
theorem law_o_frame {L F B : Nat} {s : wt_S} {l3 : Int32} {P : Int32 → wt_S → Prop} {K : wt_S → Option (Int32 × wt_S)} (hL : L ≤ 3072) (hl : 0 ≤ l3.toInt ∧ l3.toInt + 6 ≤ L) (hF1 : F + 2401800 ≤ 1999990000) (hB1 : B + 2400 ≤ 2147200000) (h : LJ F B s) (go : ∀ s', LJ (F + 2401800) (B + 2400) s' → Ok P (K s')) : Ok P (wt_ix (l3 + 1) L fun k1 => (wt_ix (l3 + 2) L fun k2 => (wt_ix (l3 + 3) L fun k3 => (wt_cl (gX10_frame s (s 0 k1) (s 0 k2) (s 0 k3)) fun v s1 => (wt_ix (l3 + 1) L fun m1 => (wt_ix (l3 + 2) L fun m2 => (wt_ix (l3 + 3) L fun m3 => (wt_cl (gX11_frame s1 (s1 0 m1) (s1 0 m2) (s1 0 m3)) fun w s2 => K s2)))))))) := by
  have hF0 : F ≤ 1999990000 := Nat.le_trans (Nat.le_add_right _ _) hF1
  have hB0 : B ≤ 2147200000 := Nat.le_trans (Nat.le_add_right _ _) hB1
  obtain ⟨r, s1, r2, s2, e1, e2, e3, e4, e5⟩ := lo_frame (a := s 0 (l3.toInt.toNat + 1)) (b := s 0 (l3.toInt.toNat + 2)) (c := s 0 (l3.toInt.toNat + 3)) h hF0
  rw [ix_l1 hL hl, ix_l2 hL hl, ix_l3 hL hl, e1, cl_some, ix_l1 hL hl, ix_l2 hL hl, ix_l3 hL hl, e2, show gX11_frame s1 (s 0 (l3.toInt.toNat + 1)) (s 0 (l3.toInt.toNat + 2)) (s 0 (l3.toInt.toNat + 3)) = some (r2, s2) from e3, cl_some]
  exact go s2 (e5.mono (Nat.le_add_right _ _) (Nat.le_add_right _ _))
theorem law_o_slot {L F B : Nat} {s : wt_S} {l3 : Int32} {P : Int32 → wt_S → Prop} {K : wt_S → Option (Int32 × wt_S)} (hL : L ≤ 3072) (hl : 0 ≤ l3.toInt ∧ l3.toInt + 6 ≤ L) (hF1 : F + 2401800 ≤ 1999990000) (hB1 : B + 2400 ≤ 2147200000) (h : LJ F B s) (go : ∀ s', LJ (F + 2401800) (B + 2400) s' → Ok P (K s')) : Ok P (wt_ix (l3 + 1) L fun k1 => (wt_ix (l3 + 2) L fun k2 => (wt_ix (l3 + 3) L fun k3 => (wt_ix (l3 + 4) L fun k4 => (wt_cl (gX10_slot s (s 0 k1) (s 0 k2) (s 0 k3) (s 0 k4)) fun v s1 => (wt_ix (l3 + 1) L fun m1 => (wt_ix (l3 + 2) L fun m2 => (wt_ix (l3 + 3) L fun m3 => (wt_ix (l3 + 4) L fun m4 => (wt_cl (gX11_slot s1 (s1 0 m1) (s1 0 m2) (s1 0 m3) (s1 0 m4)) fun w s2 => K s2)))))))))) := by
  have hF0 : F ≤ 1999990000 := Nat.le_trans (Nat.le_add_right _ _) hF1
  have hB0 : B ≤ 2147200000 := Nat.le_trans (Nat.le_add_right _ _) hB1
  obtain ⟨r, s1, r2, s2, e1, e2, e3, e4, e5⟩ := lo_slot (a := s 0 (l3.toInt.toNat + 1)) (b := s 0 (l3.toInt.toNat + 2)) (c := s 0 (l3.toInt.toNat + 3)) (d := s 0 (l3.toInt.toNat + 4)) h hF0
  rw [ix_l1 hL hl, ix_l2 hL hl, ix_l3 hL hl, ix_l4 hL hl, e1, cl_some, ix_l1 hL hl, ix_l2 hL hl, ix_l3 hL hl, ix_l4 hL hl, e2, show gX11_slot s1 (s 0 (l3.toInt.toNat + 1)) (s 0 (l3.toInt.toNat + 2)) (s 0 (l3.toInt.toNat + 3)) (s 0 (l3.toInt.toNat + 4)) = some (r2, s2) from e3, cl_some]
  exact go s2 (e5.mono (Nat.le_add_right _ _) (Nat.le_add_right _ _))
theorem law_o_piece {L F B : Nat} {s : wt_S} {l3 : Int32} {P : Int32 → wt_S → Prop} {K : wt_S → Option (Int32 × wt_S)} (hL : L ≤ 3072) (hl : 0 ≤ l3.toInt ∧ l3.toInt + 6 ≤ L) (hF1 : F + 2401800 ≤ 1999990000) (hB1 : B + 2400 ≤ 2147200000) (h : LJ F B s) (go : ∀ s', LJ (F + 2401800) (B + 2400) s' → Ok P (K s')) : Ok P (wt_ix (l3 + 1) L fun k1 => (wt_ix (l3 + 2) L fun k2 => (wt_ix (l3 + 3) L fun k3 => (wt_cl (gX10_piece s (s 0 k1) (s 0 k2) (s 0 k3)) fun v s1 => (wt_ix (l3 + 1) L fun m1 => (wt_ix (l3 + 2) L fun m2 => (wt_ix (l3 + 3) L fun m3 => (wt_cl (gX11_piece s1 (s1 0 m1) (s1 0 m2) (s1 0 m3)) fun w s2 => K s2)))))))) := by
  have hF0 : F ≤ 1999990000 := Nat.le_trans (Nat.le_add_right _ _) hF1
  have hB0 : B ≤ 2147200000 := Nat.le_trans (Nat.le_add_right _ _) hB1
  obtain ⟨r, s1, r2, s2, e1, e2, e3, e4, e5⟩ := lo_piece (a := s 0 (l3.toInt.toNat + 1)) (b := s 0 (l3.toInt.toNat + 2)) (c := s 0 (l3.toInt.toNat + 3)) h hF0
  rw [ix_l1 hL hl, ix_l2 hL hl, ix_l3 hL hl, e1, cl_some, ix_l1 hL hl, ix_l2 hL hl, ix_l3 hL hl, e2, show gX11_piece s1 (s 0 (l3.toInt.toNat + 1)) (s 0 (l3.toInt.toNat + 2)) (s 0 (l3.toInt.toNat + 3)) = some (r2, s2) from e3, cl_some]
  exact go s2 (e5.mono (Nat.le_add_right _ _) (Nat.le_add_right _ _))
theorem law_o_gap {L F B : Nat} {s : wt_S} {l3 : Int32} {P : Int32 → wt_S → Prop} {K : wt_S → Option (Int32 × wt_S)} (hL : L ≤ 3072) (hl : 0 ≤ l3.toInt ∧ l3.toInt + 6 ≤ L) (hF1 : F + 2401800 ≤ 1999990000) (hB1 : B + 2400 ≤ 2147200000) (h : LJ F B s) (go : ∀ s', LJ (F + 2401800) (B + 2400) s' → Ok P (K s')) : Ok P (wt_ix (l3 + 1) L fun k1 => (wt_ix (l3 + 2) L fun k2 => (wt_cl (gX10_gap s (s 0 k1) (s 0 k2)) fun v s1 => (wt_ix (l3 + 1) L fun m1 => (wt_ix (l3 + 2) L fun m2 => (wt_cl (gX11_gap s1 (s1 0 m1) (s1 0 m2)) fun w s2 => K s2)))))) := by
  have hF0 : F ≤ 1999990000 := Nat.le_trans (Nat.le_add_right _ _) hF1
  have hB0 : B ≤ 2147200000 := Nat.le_trans (Nat.le_add_right _ _) hB1
  obtain ⟨r, s1, r2, s2, e1, e2, e3, e4, e5⟩ := lo_gap (a := s 0 (l3.toInt.toNat + 1)) (b := s 0 (l3.toInt.toNat + 2)) h hF0
  rw [ix_l1 hL hl, ix_l2 hL hl, e1, cl_some, ix_l1 hL hl, ix_l2 hL hl, e2, show gX11_gap s1 (s 0 (l3.toInt.toNat + 1)) (s 0 (l3.toInt.toNat + 2)) = some (r2, s2) from e3, cl_some]
  exact go s2 (e5.mono (Nat.le_add_right _ _) (Nat.le_add_right _ _))
theorem law_o_endless {L F B : Nat} {s : wt_S} {l3 : Int32} {P : Int32 → wt_S → Prop} {K : wt_S → Option (Int32 × wt_S)} (hL : L ≤ 3072) (hl : 0 ≤ l3.toInt ∧ l3.toInt + 6 ≤ L) (hF1 : F + 2401800 ≤ 1999990000) (hB1 : B + 2400 ≤ 2147200000) (h : LJ F B s) (go : ∀ s', LJ (F + 2401800) (B + 2400) s' → Ok P (K s')) : Ok P (wt_ix (l3 + 1) L fun k1 => (wt_ix (l3 + 2) L fun k2 => (wt_ix (l3 + 3) L fun k3 => (wt_cl (gX10_endless s (s 0 k1) (s 0 k2) (s 0 k3)) fun v s1 => (wt_ix (l3 + 1) L fun m1 => (wt_ix (l3 + 2) L fun m2 => (wt_ix (l3 + 3) L fun m3 => (wt_cl (gX11_endless s1 (s1 0 m1) (s1 0 m2) (s1 0 m3)) fun w s2 => K s2)))))))) := by
  have hF0 : F ≤ 1999990000 := Nat.le_trans (Nat.le_add_right _ _) hF1
  have hB0 : B ≤ 2147200000 := Nat.le_trans (Nat.le_add_right _ _) hB1
  obtain ⟨r, s1, r2, s2, e1, e2, e3, e4, e5⟩ := lo_endless (a := s 0 (l3.toInt.toNat + 1)) (b := s 0 (l3.toInt.toNat + 2)) (c := s 0 (l3.toInt.toNat + 3)) h (Nat.le_trans (Nat.add_le_add_left (by decide) F) hF1)
  rw [ix_l1 hL hl, ix_l2 hL hl, ix_l3 hL hl, e1, cl_some, ix_l1 hL hl, ix_l2 hL hl, ix_l3 hL hl, e2, show gX11_endless s1 (s 0 (l3.toInt.toNat + 1)) (s 0 (l3.toInt.toNat + 2)) (s 0 (l3.toInt.toNat + 3)) = some (r2, s2) from e3, cl_some]
  exact go s2 (e5.mono (Nat.add_le_add_left (by decide) _) (Nat.le_add_right _ _))
theorem law_o_land {L F B : Nat} {s : wt_S} {l3 : Int32} {P : Int32 → wt_S → Prop} {K : wt_S → Option (Int32 × wt_S)} (hL : L ≤ 3072) (hl : 0 ≤ l3.toInt ∧ l3.toInt + 6 ≤ L) (hF1 : F + 2401800 ≤ 1999990000) (hB1 : B + 2400 ≤ 2147200000) (h : LJ F B s) (go : ∀ s', LJ (F + 2401800) (B + 2400) s' → Ok P (K s')) : Ok P (wt_ix (l3 + 1) L fun k1 => (wt_ix (l3 + 2) L fun k2 => (wt_ix (l3 + 3) L fun k3 => (wt_cl (gX10_land s (s 0 k1) (s 0 k2) (s 0 k3)) fun v s1 => (wt_ix (l3 + 1) L fun m1 => (wt_ix (l3 + 2) L fun m2 => (wt_ix (l3 + 3) L fun m3 => (wt_cl (gX11_land s1 (s1 0 m1) (s1 0 m2) (s1 0 m3)) fun w s2 => K s2)))))))) := by
  have hF0 : F ≤ 1999990000 := Nat.le_trans (Nat.le_add_right _ _) hF1
  have hB0 : B ≤ 2147200000 := Nat.le_trans (Nat.le_add_right _ _) hB1
  obtain ⟨r, s1, r2, s2, e1, e2, e3, e4, e5⟩ := lo_land (a := s 0 (l3.toInt.toNat + 1)) (b := s 0 (l3.toInt.toNat + 2)) (c := s 0 (l3.toInt.toNat + 3)) h (Nat.le_trans (Nat.add_le_add_left (by decide) F) hF1) hB0
  rw [ix_l1 hL hl, ix_l2 hL hl, ix_l3 hL hl, e1, cl_some, ix_l1 hL hl, ix_l2 hL hl, ix_l3 hL hl, e2, show gX11_land s1 (s 0 (l3.toInt.toNat + 1)) (s 0 (l3.toInt.toNat + 2)) (s 0 (l3.toInt.toNat + 3)) = some (r2, s2) from e3, cl_some]
  exact go s2 (e5.mono (Nat.add_le_add_left (by decide) _) (Nat.le_add_right _ _))
theorem law_o_alone {L F B : Nat} {s : wt_S} {l3 : Int32} {P : Int32 → wt_S → Prop} {K : wt_S → Option (Int32 × wt_S)} (hL : L ≤ 3072) (hl : 0 ≤ l3.toInt ∧ l3.toInt + 6 ≤ L) (hF1 : F + 2401800 ≤ 1999990000) (hB1 : B + 2400 ≤ 2147200000) (h : LJ F B s) (go : ∀ s', LJ (F + 2401800) (B + 2400) s' → Ok P (K s')) : Ok P (wt_ix (l3 + 1) L fun k1 => (wt_ix (l3 + 2) L fun k2 => (wt_ix (l3 + 3) L fun k3 => (wt_ix (l3 + 4) L fun k4 => (wt_cl (gX10_alone s (s 0 k1) (s 0 k2) (s 0 k3) (s 0 k4)) fun v s1 => (wt_ix (l3 + 1) L fun m1 => (wt_ix (l3 + 2) L fun m2 => (wt_ix (l3 + 3) L fun m3 => (wt_ix (l3 + 4) L fun m4 => (wt_cl (gX11_alone s1 (s1 0 m1) (s1 0 m2) (s1 0 m3) (s1 0 m4)) fun w s2 => K s2)))))))))) := by
  have hF0 : F ≤ 1999990000 := Nat.le_trans (Nat.le_add_right _ _) hF1
  have hB0 : B ≤ 2147200000 := Nat.le_trans (Nat.le_add_right _ _) hB1
  obtain ⟨r, s1, r2, s2, e1, e2, e3, e4, e5⟩ := lo_alone (a := s 0 (l3.toInt.toNat + 1)) (b := s 0 (l3.toInt.toNat + 2)) (c := s 0 (l3.toInt.toNat + 3)) (d := s 0 (l3.toInt.toNat + 4)) h (Nat.le_trans (Nat.add_le_add_left (by decide) F) hF1) hB0
  rw [ix_l1 hL hl, ix_l2 hL hl, ix_l3 hL hl, ix_l4 hL hl, e1, cl_some, ix_l1 hL hl, ix_l2 hL hl, ix_l3 hL hl, ix_l4 hL hl, e2, show gX11_alone s1 (s 0 (l3.toInt.toNat + 1)) (s 0 (l3.toInt.toNat + 2)) (s 0 (l3.toInt.toNat + 3)) (s 0 (l3.toInt.toNat + 4)) = some (r2, s2) from e3, cl_some]
  exact go s2 (e5.mono (Nat.add_le_add_left (by decide) _) (Nat.le_add_right _ _))
theorem law_o_log {L F B : Nat} {s : wt_S} {l3 : Int32} {P : Int32 → wt_S → Prop} {K : wt_S → Option (Int32 × wt_S)} (hL : L ≤ 3072) (hl : 0 ≤ l3.toInt ∧ l3.toInt + 6 ≤ L) (hF1 : F + 2401800 ≤ 1999990000) (hB1 : B + 2400 ≤ 2147200000) (h : LJ F B s) (go : ∀ s', LJ (F + 2401800) (B + 2400) s' → Ok P (K s')) : Ok P (wt_ix (l3 + 1) L fun k1 => (wt_ix (l3 + 2) L fun k2 => (wt_cl (gX10_log s (s 0 k1) (s 0 k2)) fun v s1 => (wt_ix (l3 + 1) L fun m1 => (wt_ix (l3 + 2) L fun m2 => (wt_cl (gX11_log s1 (s1 0 m1) (s1 0 m2)) fun w s2 => K s2)))))) := by
  have hF0 : F ≤ 1999990000 := Nat.le_trans (Nat.le_add_right _ _) hF1
  have hB0 : B ≤ 2147200000 := Nat.le_trans (Nat.le_add_right _ _) hB1
  obtain ⟨r, s1, r2, s2, e1, e2, e3, e4, e5⟩ := lo_log (a := s 0 (l3.toInt.toNat + 1)) (b := s 0 (l3.toInt.toNat + 2)) h hB0
  rw [ix_l1 hL hl, ix_l2 hL hl, e1, cl_some, ix_l1 hL hl, ix_l2 hL hl, e2, show gX11_log s1 (s 0 (l3.toInt.toNat + 1)) (s 0 (l3.toInt.toNat + 2)) = some (r2, s2) from e3, cl_some]
  exact go s2 (e5.mono (Nat.le_add_right _ _) (Nat.le_add_right _ _))
theorem law_o_never {L F B : Nat} {s : wt_S} {l3 : Int32} {P : Int32 → wt_S → Prop} {K : wt_S → Option (Int32 × wt_S)} (hL : L ≤ 3072) (hl : 0 ≤ l3.toInt ∧ l3.toInt + 6 ≤ L) (hF1 : F + 2401800 ≤ 1999990000) (hB1 : B + 2400 ≤ 2147200000) (h : LJ F B s) (go : ∀ s', LJ (F + 2401800) (B + 2400) s' → Ok P (K s')) : Ok P (wt_ix (l3 + 1) L fun k1 => (wt_cl (gX10_never s (s 0 k1)) fun v s1 => (wt_ix (l3 + 1) L fun m1 => (wt_cl (gX11_never s1 (s1 0 m1)) fun w s2 => K s2)))) := by
  have hF0 : F ≤ 1999990000 := Nat.le_trans (Nat.le_add_right _ _) hF1
  have hB0 : B ≤ 2147200000 := Nat.le_trans (Nat.le_add_right _ _) hB1
  obtain ⟨r, s1, r2, s2, e1, e2, e3, e4, e5⟩ := lo_never (a := s 0 (l3.toInt.toNat + 1)) h hF0
  rw [ix_l1 hL hl, e1, cl_some, ix_l1 hL hl, e2, show gX11_never s1 (s 0 (l3.toInt.toNat + 1)) = some (r2, s2) from e3, cl_some]
  exact go s2 (e5.mono (Nat.le_add_right _ _) (Nat.le_add_right _ _))
theorem law_o_count {L F B : Nat} {s : wt_S} {l3 : Int32} {P : Int32 → wt_S → Prop} {K : wt_S → Option (Int32 × wt_S)} (hL : L ≤ 3072) (hl : 0 ≤ l3.toInt ∧ l3.toInt + 6 ≤ L) (hF1 : F + 2401800 ≤ 1999990000) (hB1 : B + 2400 ≤ 2147200000) (h : LJ F B s) (go : ∀ s', LJ (F + 2401800) (B + 2400) s' → Ok P (K s')) : Ok P (wt_ix (l3 + 1) L fun k1 => (wt_cl (gX10_count s (s 0 k1)) fun v s1 => (wt_ix (l3 + 1) L fun m1 => (wt_cl (gX11_count s1 (s1 0 m1)) fun w s2 => K s2)))) := by
  have hF0 : F ≤ 1999990000 := Nat.le_trans (Nat.le_add_right _ _) hF1
  have hB0 : B ≤ 2147200000 := Nat.le_trans (Nat.le_add_right _ _) hB1
  obtain ⟨r, s1, r2, s2, e1, e2, e3, e4, e5⟩ := lo_count (a := s 0 (l3.toInt.toNat + 1)) h hF0
  rw [ix_l1 hL hl, e1, cl_some, ix_l1 hL hl, e2, show gX11_count s1 (s 0 (l3.toInt.toNat + 1)) = some (r2, s2) from e3, cl_some]
  exact go s2 (e5.mono (Nat.le_add_right _ _) (Nat.le_add_right _ _))
theorem law_o_look {L F B : Nat} {s : wt_S} {l3 : Int32} {P : Int32 → wt_S → Prop} {K : wt_S → Option (Int32 × wt_S)} (hL : L ≤ 3072) (hl : 0 ≤ l3.toInt ∧ l3.toInt + 6 ≤ L) (hF1 : F + 2401800 ≤ 1999990000) (hB1 : B + 2400 ≤ 2147200000) (h : LJ F B s) (go : ∀ s', LJ (F + 2401800) (B + 2400) s' → Ok P (K s')) : Ok P (wt_ix (l3 + 1) L fun k1 => (wt_cl (gX10_look s (s 0 k1)) fun v s1 => (wt_ix (l3 + 1) L fun m1 => (wt_cl (gX11_look s1 (s1 0 m1)) fun w s2 => K s2)))) := by
  have hF0 : F ≤ 1999990000 := Nat.le_trans (Nat.le_add_right _ _) hF1
  have hB0 : B ≤ 2147200000 := Nat.le_trans (Nat.le_add_right _ _) hB1
  obtain ⟨r, s1, r2, s2, e1, e2, e3, e4, e5⟩ := lo_look (a := s 0 (l3.toInt.toNat + 1)) h hF0
  rw [ix_l1 hL hl, e1, cl_some, ix_l1 hL hl, e2, show gX11_look s1 (s 0 (l3.toInt.toNat + 1)) = some (r2, s2) from e3, cl_some]
  exact go s2 (e5.mono (Nat.le_add_right _ _) (Nat.le_add_right _ _))
end
