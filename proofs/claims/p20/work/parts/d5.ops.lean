section
/-! ===== an operation of the law (written by wip/p2/gen_ops.py) ===== -/
theorem i_addn {x : Int32} (h : 0 ≤ x.toInt ∧ x.toInt ≤ 3072) (j : Nat) (hj : j ≤ 6) : (x + nI j).toInt = x.toInt + j := by
  obtain ⟨a, a1, rfl, a3, a4⟩ := i_nat (x := x) h.1
  rw [nI_add, nI_int (by omega)]
  omega
section
variable {α : Type} {L : Nat} {l3 : Int32} {F : Nat → Option α}
theorem ix_law (hL : L ≤ 3072) (hl : 0 ≤ l3.toInt ∧ l3.toInt + 6 ≤ L) (j : Nat) (hj : j ≤ 5) : wt_ix (l3 + nI j) L F = F (l3.toInt.toNat + j) := by
  have x := i_addn (x := l3) (by omega) j (by omega)
  unfold wt_ix
  rw [x, if_pos ⟨by omega, by omega⟩, show (l3.toInt + (j : Int)).toNat = l3.toInt.toNat + j by omega]
theorem ix_l1 (hL : L ≤ 3072) (hl : 0 ≤ l3.toInt ∧ l3.toInt + 6 ≤ L) : wt_ix (l3 + 1) L F = F (l3.toInt.toNat + 1) := ix_law hL hl 1 (by omega)
theorem ix_l2 (hL : L ≤ 3072) (hl : 0 ≤ l3.toInt ∧ l3.toInt + 6 ≤ L) : wt_ix (l3 + 2) L F = F (l3.toInt.toNat + 2) := ix_law hL hl 2 (by omega)
theorem ix_l3 (hL : L ≤ 3072) (hl : 0 ≤ l3.toInt ∧ l3.toInt + 6 ≤ L) : wt_ix (l3 + 3) L F = F (l3.toInt.toNat + 3) := ix_law hL hl 3 (by omega)
theorem ix_l4 (hL : L ≤ 3072) (hl : 0 ≤ l3.toInt ∧ l3.toInt + 6 ≤ L) : wt_ix (l3 + 4) L F = F (l3.toInt.toNat + 4) := ix_law hL hl 4 (by omega)
theorem ix_l5 (hL : L ≤ 3072) (hl : 0 ≤ l3.toInt ∧ l3.toInt + 6 ≤ L) : wt_ix (l3 + 5) L F = F (l3.toInt.toNat + 5) := ix_law hL hl 5 (by omega)
end
theorem law_o_set {L F B : Nat} {s : wt_S} {l3 : Int32} {P : Int32 → wt_S → Prop} {K : wt_S → Option (Int32 × wt_S)} (hL : L ≤ 3072) (hl : 0 ≤ l3.toInt ∧ l3.toInt + 6 ≤ L) (hF1 : F + 2401800 ≤ 1999990000) (hB1 : B + 2400 ≤ 2147200000) (h : LJ F B s) (go : ∀ s', LJ (F + 2401800) (B + 2400) s' → Ok P (K s')) : Ok P (wt_ix (l3 + 1) L fun k1 => (wt_ix (l3 + 2) L fun k2 => (wt_cl (gX10_set s (s 0 k1) (s 0 k2)) fun v s1 => (wt_ix (l3 + 1) L fun m1 => (wt_ix (l3 + 2) L fun m2 => (wt_cl (gX11_set s1 (s1 0 m1) (s1 0 m2)) fun w s2 => K s2)))))) := by
  have hF0 : F ≤ 1999990000 := Nat.le_trans (Nat.le_add_right _ _) hF1
  have hB0 : B ≤ 2147200000 := Nat.le_trans (Nat.le_add_right _ _) hB1
  obtain ⟨r, s1, r2, s2, e1, e2, e3, e4, e5⟩ := lo_set (a := s 0 (l3.toInt.toNat + 1)) (b := s 0 (l3.toInt.toNat + 2)) h hF0
  rw [ix_l1 hL hl, ix_l2 hL hl, e1, cl_some, ix_l1 hL hl, ix_l2 hL hl, e2, show gX11_set s1 (s 0 (l3.toInt.toNat + 1)) (s 0 (l3.toInt.toNat + 2)) = some (r2, s2) from e3, cl_some]
  exact go s2 (e5.mono (Nat.le_add_right _ _) (Nat.le_add_right _ _))
theorem law_e_set {L F B : Nat} {s : wt_S} {l3 : Int32} {P : Int32 → wt_S → Prop} {K : wt_S → Option (Int32 × wt_S)} (hL : L ≤ 3072) (hl : 0 ≤ l3.toInt ∧ l3.toInt + 6 ≤ L) (hF1 : F + 2401800 ≤ 1999990000) (hB1 : B + 2400 ≤ 2147200000) (h : LJ F B s) (go : ∀ s', LJ (F + 2401800) (B + 2400) s' → Ok P (K s')) : Ok P (wt_ix (l3 + 1) L fun k1 => (wt_ix (l3 + 2) L fun k2 => (wt_cl (gX10_set s (s 0 k1) (s 0 k2)) fun v s1 => (wt_ix (l3 + 1) L fun m1 => (wt_ix (l3 + 2) L fun m2 => (wt_cl (gX11_set s1 (s1 0 m1) (s1 0 m2)) fun w s2 => (if v = w then K s2 else some (0, s2)))))))) := by
  have hF0 : F ≤ 1999990000 := Nat.le_trans (Nat.le_add_right _ _) hF1
  have hB0 : B ≤ 2147200000 := Nat.le_trans (Nat.le_add_right _ _) hB1
  obtain ⟨r, s1, r2, s2, e1, e2, e3, e4, e5⟩ := lo_set (a := s 0 (l3.toInt.toNat + 1)) (b := s 0 (l3.toInt.toNat + 2)) h hF0
  rw [ix_l1 hL hl, ix_l2 hL hl, e1, cl_some, ix_l1 hL hl, ix_l2 hL hl, e2, show gX11_set s1 (s 0 (l3.toInt.toNat + 1)) (s 0 (l3.toInt.toNat + 2)) = some (r2, s2) from e3, cl_some, if_pos e4]
  exact go s2 (e5.mono (Nat.le_add_right _ _) (Nat.le_add_right _ _))
theorem law_o_function {L F B : Nat} {s : wt_S} {l3 : Int32} {P : Int32 → wt_S → Prop} {K : wt_S → Option (Int32 × wt_S)} (hL : L ≤ 3072) (hl : 0 ≤ l3.toInt ∧ l3.toInt + 6 ≤ L) (hF1 : F + 2401800 ≤ 1999990000) (hB1 : B + 2400 ≤ 2147200000) (h : LJ F B s) (go : ∀ s', LJ (F + 2401800) (B + 2400) s' → Ok P (K s')) : Ok P (wt_ix (l3 + 1) L fun k1 => (wt_ix (l3 + 2) L fun k2 => (wt_ix (l3 + 3) L fun k3 => (wt_cl (gX10_function s (s 0 k1) (s 0 k2) (s 0 k3)) fun v s1 => (wt_ix (l3 + 1) L fun m1 => (wt_ix (l3 + 2) L fun m2 => (wt_ix (l3 + 3) L fun m3 => (wt_cl (gX11_function s1 (s1 0 m1) (s1 0 m2) (s1 0 m3)) fun w s2 => K s2)))))))) := by
  have hF0 : F ≤ 1999990000 := Nat.le_trans (Nat.le_add_right _ _) hF1
  have hB0 : B ≤ 2147200000 := Nat.le_trans (Nat.le_add_right _ _) hB1
  obtain ⟨r, s1, r2, s2, e1, e2, e3, e4, e5⟩ := lo_function (a := s 0 (l3.toInt.toNat + 1)) (b := s 0 (l3.toInt.toNat + 2)) (c := s 0 (l3.toInt.toNat + 3)) h hF0
  rw [ix_l1 hL hl, ix_l2 hL hl, ix_l3 hL hl, e1, cl_some, ix_l1 hL hl, ix_l2 hL hl, ix_l3 hL hl, e2, show gX11_function s1 (s 0 (l3.toInt.toNat + 1)) (s 0 (l3.toInt.toNat + 2)) (s 0 (l3.toInt.toNat + 3)) = some (r2, s2) from e3, cl_some]
  exact go s2 (e5.mono (Nat.le_add_right _ _) (Nat.le_add_right _ _))
theorem law_e_function {L F B : Nat} {s : wt_S} {l3 : Int32} {P : Int32 → wt_S → Prop} {K : wt_S → Option (Int32 × wt_S)} (hL : L ≤ 3072) (hl : 0 ≤ l3.toInt ∧ l3.toInt + 6 ≤ L) (hF1 : F + 2401800 ≤ 1999990000) (hB1 : B + 2400 ≤ 2147200000) (h : LJ F B s) (go : ∀ s', LJ (F + 2401800) (B + 2400) s' → Ok P (K s')) : Ok P (wt_ix (l3 + 1) L fun k1 => (wt_ix (l3 + 2) L fun k2 => (wt_ix (l3 + 3) L fun k3 => (wt_cl (gX10_function s (s 0 k1) (s 0 k2) (s 0 k3)) fun v s1 => (wt_ix (l3 + 1) L fun m1 => (wt_ix (l3 + 2) L fun m2 => (wt_ix (l3 + 3) L fun m3 => (wt_cl (gX11_function s1 (s1 0 m1) (s1 0 m2) (s1 0 m3)) fun w s2 => (if v = w then K s2 else some (0, s2)))))))))) := by
  have hF0 : F ≤ 1999990000 := Nat.le_trans (Nat.le_add_right _ _) hF1
  have hB0 : B ≤ 2147200000 := Nat.le_trans (Nat.le_add_right _ _) hB1
  obtain ⟨r, s1, r2, s2, e1, e2, e3, e4, e5⟩ := lo_function (a := s 0 (l3.toInt.toNat + 1)) (b := s 0 (l3.toInt.toNat + 2)) (c := s 0 (l3.toInt.toNat + 3)) h hF0
  rw [ix_l1 hL hl, ix_l2 hL hl, ix_l3 hL hl, e1, cl_some, ix_l1 hL hl, ix_l2 hL hl, ix_l3 hL hl, e2, show gX11_function s1 (s 0 (l3.toInt.toNat + 1)) (s 0 (l3.toInt.toNat + 2)) (s 0 (l3.toInt.toNat + 3)) = some (r2, s2) from e3, cl_some, if_pos e4]
  exact go s2 (e5.mono (Nat.le_add_right _ _) (Nat.le_add_right _ _))
theorem law_o_line {L F B : Nat} {s : wt_S} {l3 : Int32} {P : Int32 → wt_S → Prop} {K : wt_S → Option (Int32 × wt_S)} (hL : L ≤ 3072) (hl : 0 ≤ l3.toInt ∧ l3.toInt + 6 ≤ L) (hF1 : F + 2401800 ≤ 1999990000) (hB1 : B + 2400 ≤ 2147200000) (h : LJ F B s) (go : ∀ s', LJ (F + 2401800) (B + 2400) s' → Ok P (K s')) : Ok P (wt_ix (l3 + 1) L fun k1 => (wt_ix (l3 + 2) L fun k2 => (wt_ix (l3 + 3) L fun k3 => (wt_ix (l3 + 4) L fun k4 => (wt_ix (l3 + 5) L fun k5 => (wt_cl (gX10_line s (s 0 k1) (s 0 k2) (s 0 k3) (s 0 k4) (s 0 k5)) fun v s1 => (wt_ix (l3 + 1) L fun m1 => (wt_ix (l3 + 2) L fun m2 => (wt_ix (l3 + 3) L fun m3 => (wt_ix (l3 + 4) L fun m4 => (wt_ix (l3 + 5) L fun m5 => (wt_cl (gX11_line s1 (s1 0 m1) (s1 0 m2) (s1 0 m3) (s1 0 m4) (s1 0 m5)) fun w s2 => K s2)))))))))))) := by
  have hF0 : F ≤ 1999990000 := Nat.le_trans (Nat.le_add_right _ _) hF1
  have hB0 : B ≤ 2147200000 := Nat.le_trans (Nat.le_add_right _ _) hB1
  obtain ⟨r, s1, r2, s2, e1, e2, e3, e4, e5⟩ := lo_line (k := s 0 (l3.toInt.toNat + 1)) (a := s 0 (l3.toInt.toNat + 2)) (b := s 0 (l3.toInt.toNat + 3)) (c := s 0 (l3.toInt.toNat + 4)) (d := s 0 (l3.toInt.toNat + 5)) h hF0
  rw [ix_l1 hL hl, ix_l2 hL hl, ix_l3 hL hl, ix_l4 hL hl, ix_l5 hL hl, e1, cl_some, ix_l1 hL hl, ix_l2 hL hl, ix_l3 hL hl, ix_l4 hL hl, ix_l5 hL hl, e2, show gX11_line s1 (s 0 (l3.toInt.toNat + 1)) (s 0 (l3.toInt.toNat + 2)) (s 0 (l3.toInt.toNat + 3)) (s 0 (l3.toInt.toNat + 4)) (s 0 (l3.toInt.toNat + 5)) = some (r2, s2) from e3, cl_some]
  exact go s2 (e5.mono (Nat.le_add_right _ _) (Nat.le_add_right _ _))
theorem law_e_line {L F B : Nat} {s : wt_S} {l3 : Int32} {P : Int32 → wt_S → Prop} {K : wt_S → Option (Int32 × wt_S)} (hL : L ≤ 3072) (hl : 0 ≤ l3.toInt ∧ l3.toInt + 6 ≤ L) (hF1 : F + 2401800 ≤ 1999990000) (hB1 : B + 2400 ≤ 2147200000) (h : LJ F B s) (go : ∀ s', LJ (F + 2401800) (B + 2400) s' → Ok P (K s')) : Ok P (wt_ix (l3 + 1) L fun k1 => (wt_ix (l3 + 2) L fun k2 => (wt_ix (l3 + 3) L fun k3 => (wt_ix (l3 + 4) L fun k4 => (wt_ix (l3 + 5) L fun k5 => (wt_cl (gX10_line s (s 0 k1) (s 0 k2) (s 0 k3) (s 0 k4) (s 0 k5)) fun v s1 => (wt_ix (l3 + 1) L fun m1 => (wt_ix (l3 + 2) L fun m2 => (wt_ix (l3 + 3) L fun m3 => (wt_ix (l3 + 4) L fun m4 => (wt_ix (l3 + 5) L fun m5 => (wt_cl (gX11_line s1 (s1 0 m1) (s1 0 m2) (s1 0 m3) (s1 0 m4) (s1 0 m5)) fun w s2 => (if v = w then K s2 else some (0, s2)))))))))))))) := by
  have hF0 : F ≤ 1999990000 := Nat.le_trans (Nat.le_add_right _ _) hF1
  have hB0 : B ≤ 2147200000 := Nat.le_trans (Nat.le_add_right _ _) hB1
  obtain ⟨r, s1, r2, s2, e1, e2, e3, e4, e5⟩ := lo_line (k := s 0 (l3.toInt.toNat + 1)) (a := s 0 (l3.toInt.toNat + 2)) (b := s 0 (l3.toInt.toNat + 3)) (c := s 0 (l3.toInt.toNat + 4)) (d := s 0 (l3.toInt.toNat + 5)) h hF0
  rw [ix_l1 hL hl, ix_l2 hL hl, ix_l3 hL hl, ix_l4 hL hl, ix_l5 hL hl, e1, cl_some, ix_l1 hL hl, ix_l2 hL hl, ix_l3 hL hl, ix_l4 hL hl, ix_l5 hL hl, e2, show gX11_line s1 (s 0 (l3.toInt.toNat + 1)) (s 0 (l3.toInt.toNat + 2)) (s 0 (l3.toInt.toNat + 3)) (s 0 (l3.toInt.toNat + 4)) (s 0 (l3.toInt.toNat + 5)) = some (r2, s2) from e3, cl_some, if_pos e4]
  exact go s2 (e5.mono (Nat.le_add_right _ _) (Nat.le_add_right _ _))
theorem law_o_start {L F B : Nat} {s : wt_S} {l3 : Int32} {P : Int32 → wt_S → Prop} {K : wt_S → Option (Int32 × wt_S)} (hL : L ≤ 3072) (hl : 0 ≤ l3.toInt ∧ l3.toInt + 6 ≤ L) (hF1 : F + 2401800 ≤ 1999990000) (hB1 : B + 2400 ≤ 2147200000) (h : LJ F B s) (go : ∀ s', LJ (F + 2401800) (B + 2400) s' → Ok P (K s')) : Ok P (wt_ix (l3 + 1) L fun k1 => (wt_ix (l3 + 2) L fun k2 => (wt_ix (l3 + 3) L fun k3 => (wt_ix (l3 + 4) L fun k4 => (wt_cl (gX10_start s (s 0 k1) (s 0 k2) (s 0 k3) (s 0 k4)) fun v s1 => (wt_ix (l3 + 1) L fun m1 => (wt_ix (l3 + 2) L fun m2 => (wt_ix (l3 + 3) L fun m3 => (wt_ix (l3 + 4) L fun m4 => (wt_cl (gX11_start s1 (s1 0 m1) (s1 0 m2) (s1 0 m3) (s1 0 m4)) fun w s2 => K s2)))))))))) := by
  have hF0 : F ≤ 1999990000 := Nat.le_trans (Nat.le_add_right _ _) hF1
  have hB0 : B ≤ 2147200000 := Nat.le_trans (Nat.le_add_right _ _) hB1
  obtain ⟨r, s1, r2, s2, e1, e2, e3, e4, e5⟩ := lo_start (a := s 0 (l3.toInt.toNat + 1)) (b := s 0 (l3.toInt.toNat + 2)) (c := s 0 (l3.toInt.toNat + 3)) (d := s 0 (l3.toInt.toNat + 4)) h hF0 hB0
  rw [ix_l1 hL hl, ix_l2 hL hl, ix_l3 hL hl, ix_l4 hL hl, e1, cl_some, ix_l1 hL hl, ix_l2 hL hl, ix_l3 hL hl, ix_l4 hL hl, e2, show gX11_start s1 (s 0 (l3.toInt.toNat + 1)) (s 0 (l3.toInt.toNat + 2)) (s 0 (l3.toInt.toNat + 3)) (s 0 (l3.toInt.toNat + 4)) = some (r2, s2) from e3, cl_some]
  exact go s2 (e5.mono (Nat.add_le_add_left (by decide) _) (Nat.add_le_add_left (by decide) _))
theorem law_e_start {L F B : Nat} {s : wt_S} {l3 : Int32} {P : Int32 → wt_S → Prop} {K : wt_S → Option (Int32 × wt_S)} (hL : L ≤ 3072) (hl : 0 ≤ l3.toInt ∧ l3.toInt + 6 ≤ L) (hF1 : F + 2401800 ≤ 1999990000) (hB1 : B + 2400 ≤ 2147200000) (h : LJ F B s) (go : ∀ s', LJ (F + 2401800) (B + 2400) s' → Ok P (K s')) : Ok P (wt_ix (l3 + 1) L fun k1 => (wt_ix (l3 + 2) L fun k2 => (wt_ix (l3 + 3) L fun k3 => (wt_ix (l3 + 4) L fun k4 => (wt_cl (gX10_start s (s 0 k1) (s 0 k2) (s 0 k3) (s 0 k4)) fun v s1 => (wt_ix (l3 + 1) L fun m1 => (wt_ix (l3 + 2) L fun m2 => (wt_ix (l3 + 3) L fun m3 => (wt_ix (l3 + 4) L fun m4 => (wt_cl (gX11_start s1 (s1 0 m1) (s1 0 m2) (s1 0 m3) (s1 0 m4)) fun w s2 => (if v = w then K s2 else some (0, s2)))))))))))) := by
  have hF0 : F ≤ 1999990000 := Nat.le_trans (Nat.le_add_right _ _) hF1
  have hB0 : B ≤ 2147200000 := Nat.le_trans (Nat.le_add_right _ _) hB1
  obtain ⟨r, s1, r2, s2, e1, e2, e3, e4, e5⟩ := lo_start (a := s 0 (l3.toInt.toNat + 1)) (b := s 0 (l3.toInt.toNat + 2)) (c := s 0 (l3.toInt.toNat + 3)) (d := s 0 (l3.toInt.toNat + 4)) h hF0 hB0
  rw [ix_l1 hL hl, ix_l2 hL hl, ix_l3 hL hl, ix_l4 hL hl, e1, cl_some, ix_l1 hL hl, ix_l2 hL hl, ix_l3 hL hl, ix_l4 hL hl, e2, show gX11_start s1 (s 0 (l3.toInt.toNat + 1)) (s 0 (l3.toInt.toNat + 2)) (s 0 (l3.toInt.toNat + 3)) (s 0 (l3.toInt.toNat + 4)) = some (r2, s2) from e3, cl_some, if_pos e4]
  exact go s2 (e5.mono (Nat.add_le_add_left (by decide) _) (Nat.add_le_add_left (by decide) _))
theorem law_o_step {L F B : Nat} {s : wt_S} {l3 : Int32} {P : Int32 → wt_S → Prop} {K : wt_S → Option (Int32 × wt_S)} (hL : L ≤ 3072) (hl : 0 ≤ l3.toInt ∧ l3.toInt + 6 ≤ L) (hF1 : F + 2401800 ≤ 1999990000) (hB1 : B + 2400 ≤ 2147200000) (h : LJ F B s) (go : ∀ s', LJ (F + 2401800) (B + 2400) s' → Ok P (K s')) : Ok P (wt_ix (l3 + 1) L fun k1 => (wt_ix (l3 + 2) L fun k2 => (wt_cl (gX10_step s (s 0 k1) (s 0 k2)) fun v s1 => (wt_ix (l3 + 1) L fun m1 => (wt_ix (l3 + 2) L fun m2 => (wt_cl (gX11_step s1 (s1 0 m1) (s1 0 m2)) fun w s2 => K s2)))))) := by
  have hF0 : F ≤ 1999990000 := Nat.le_trans (Nat.le_add_right _ _) hF1
  have hB0 : B ≤ 2147200000 := Nat.le_trans (Nat.le_add_right _ _) hB1
  obtain ⟨r, s1, r2, s2, e1, e2, e3, e4, e5⟩ := lo_step (a := s 0 (l3.toInt.toNat + 1)) (b := s 0 (l3.toInt.toNat + 2)) h (Nat.le_trans (Nat.add_le_add_left (by decide) F) hF1) hB0
  rw [ix_l1 hL hl, ix_l2 hL hl, e1, cl_some, ix_l1 hL hl, ix_l2 hL hl, e2, show gX11_step s1 (s 0 (l3.toInt.toNat + 1)) (s 0 (l3.toInt.toNat + 2)) = some (r2, s2) from e3, cl_some]
  exact go s2 (e5.mono (Nat.add_le_add_left (by decide) _) (Nat.add_le_add_left (by decide) _))
theorem law_e_step {L F B : Nat} {s : wt_S} {l3 : Int32} {P : Int32 → wt_S → Prop} {K : wt_S → Option (Int32 × wt_S)} (hL : L ≤ 3072) (hl : 0 ≤ l3.toInt ∧ l3.toInt + 6 ≤ L) (hF1 : F + 2401800 ≤ 1999990000) (hB1 : B + 2400 ≤ 2147200000) (h : LJ F B s) (go : ∀ s', LJ (F + 2401800) (B + 2400) s' → Ok P (K s')) : Ok P (wt_ix (l3 + 1) L fun k1 => (wt_ix (l3 + 2) L fun k2 => (wt_cl (gX10_step s (s 0 k1) (s 0 k2)) fun v s1 => (wt_ix (l3 + 1) L fun m1 => (wt_ix (l3 + 2) L fun m2 => (wt_cl (gX11_step s1 (s1 0 m1) (s1 0 m2)) fun w s2 => (if v = w then K s2 else some (0, s2)))))))) := by
  have hF0 : F ≤ 1999990000 := Nat.le_trans (Nat.le_add_right _ _) hF1
  have hB0 : B ≤ 2147200000 := Nat.le_trans (Nat.le_add_right _ _) hB1
  obtain ⟨r, s1, r2, s2, e1, e2, e3, e4, e5⟩ := lo_step (a := s 0 (l3.toInt.toNat + 1)) (b := s 0 (l3.toInt.toNat + 2)) h (Nat.le_trans (Nat.add_le_add_left (by decide) F) hF1) hB0
  rw [ix_l1 hL hl, ix_l2 hL hl, e1, cl_some, ix_l1 hL hl, ix_l2 hL hl, e2, show gX11_step s1 (s 0 (l3.toInt.toNat + 1)) (s 0 (l3.toInt.toNat + 2)) = some (r2, s2) from e3, cl_some, if_pos e4]
  exact go s2 (e5.mono (Nat.add_le_add_left (by decide) _) (Nat.add_le_add_left (by decide) _))
theorem law_o_round {L F B : Nat} {s : wt_S} {l3 : Int32} {P : Int32 → wt_S → Prop} {K : wt_S → Option (Int32 × wt_S)} (hL : L ≤ 3072) (hl : 0 ≤ l3.toInt ∧ l3.toInt + 6 ≤ L) (hF1 : F + 2401800 ≤ 1999990000) (hB1 : B + 2400 ≤ 2147200000) (h : LJ F B s) (go : ∀ s', LJ (F + 2401800) (B + 2400) s' → Ok P (K s')) : Ok P (wt_ix (l3 + 1) L fun k1 => (wt_cl (gX10_round s (s 0 k1)) fun v s1 => (wt_ix (l3 + 1) L fun m1 => (wt_cl (gX11_round s1 (s1 0 m1)) fun w s2 => K s2)))) := by
  have hF0 : F ≤ 1999990000 := Nat.le_trans (Nat.le_add_right _ _) hF1
  have hB0 : B ≤ 2147200000 := Nat.le_trans (Nat.le_add_right _ _) hB1
  obtain ⟨r, s1, r2, s2, e1, e2, e3, e4, e5⟩ := lo_round (a := s 0 (l3.toInt.toNat + 1)) h hF1 hB0
  rw [ix_l1 hL hl, e1, cl_some, ix_l1 hL hl, e2, show gX11_round s1 (s 0 (l3.toInt.toNat + 1)) = some (r2, s2) from e3, cl_some]
  exact go s2 (e5.mono (Nat.le_refl _) (Nat.le_refl _))
theorem law_e_round {L F B : Nat} {s : wt_S} {l3 : Int32} {P : Int32 → wt_S → Prop} {K : wt_S → Option (Int32 × wt_S)} (hL : L ≤ 3072) (hl : 0 ≤ l3.toInt ∧ l3.toInt + 6 ≤ L) (hF1 : F + 2401800 ≤ 1999990000) (hB1 : B + 2400 ≤ 2147200000) (h : LJ F B s) (go : ∀ s', LJ (F + 2401800) (B + 2400) s' → Ok P (K s')) : Ok P (wt_ix (l3 + 1) L fun k1 => (wt_cl (gX10_round s (s 0 k1)) fun v s1 => (wt_ix (l3 + 1) L fun m1 => (wt_cl (gX11_round s1 (s1 0 m1)) fun w s2 => (if v = w then K s2 else some (0, s2)))))) := by
  have hF0 : F ≤ 1999990000 := Nat.le_trans (Nat.le_add_right _ _) hF1
  have hB0 : B ≤ 2147200000 := Nat.le_trans (Nat.le_add_right _ _) hB1
  obtain ⟨r, s1, r2, s2, e1, e2, e3, e4, e5⟩ := lo_round (a := s 0 (l3.toInt.toNat + 1)) h hF1 hB0
  rw [ix_l1 hL hl, e1, cl_some, ix_l1 hL hl, e2, show gX11_round s1 (s 0 (l3.toInt.toNat + 1)) = some (r2, s2) from e3, cl_some, if_pos e4]
  exact go s2 (e5.mono (Nat.le_refl _) (Nat.le_refl _))
theorem law_o_stop {L F B : Nat} {s : wt_S} {l3 : Int32} {P : Int32 → wt_S → Prop} {K : wt_S → Option (Int32 × wt_S)} (hL : L ≤ 3072) (hl : 0 ≤ l3.toInt ∧ l3.toInt + 6 ≤ L) (hF1 : F + 2401800 ≤ 1999990000) (hB1 : B + 2400 ≤ 2147200000) (h : LJ F B s) (go : ∀ s', LJ (F + 2401800) (B + 2400) s' → Ok P (K s')) : Ok P (wt_ix (l3 + 1) L fun k1 => (wt_cl (gX10_stop s (s 0 k1)) fun v s1 => (wt_ix (l3 + 1) L fun m1 => (wt_cl (gX11_stop s1 (s1 0 m1)) fun w s2 => K s2)))) := by
  have hF0 : F ≤ 1999990000 := Nat.le_trans (Nat.le_add_right _ _) hF1
  have hB0 : B ≤ 2147200000 := Nat.le_trans (Nat.le_add_right _ _) hB1
  obtain ⟨r, s1, r2, s2, e1, e2, e3, e4, e5⟩ := lo_stop (a := s 0 (l3.toInt.toNat + 1)) h hF0
  rw [ix_l1 hL hl, e1, cl_some, ix_l1 hL hl, e2, show gX11_stop s1 (s 0 (l3.toInt.toNat + 1)) = some (r2, s2) from e3, cl_some]
  exact go s2 (e5.mono (Nat.le_add_right _ _) (Nat.le_add_right _ _))
theorem law_e_stop {L F B : Nat} {s : wt_S} {l3 : Int32} {P : Int32 → wt_S → Prop} {K : wt_S → Option (Int32 × wt_S)} (hL : L ≤ 3072) (hl : 0 ≤ l3.toInt ∧ l3.toInt + 6 ≤ L) (hF1 : F + 2401800 ≤ 1999990000) (hB1 : B + 2400 ≤ 2147200000) (h : LJ F B s) (go : ∀ s', LJ (F + 2401800) (B + 2400) s' → Ok P (K s')) : Ok P (wt_ix (l3 + 1) L fun k1 => (wt_cl (gX10_stop s (s 0 k1)) fun v s1 => (wt_ix (l3 + 1) L fun m1 => (wt_cl (gX11_stop s1 (s1 0 m1)) fun w s2 => (if v = w then K s2 else some (0, s2)))))) := by
  have hF0 : F ≤ 1999990000 := Nat.le_trans (Nat.le_add_right _ _) hF1
  have hB0 : B ≤ 2147200000 := Nat.le_trans (Nat.le_add_right _ _) hB1
  obtain ⟨r, s1, r2, s2, e1, e2, e3, e4, e5⟩ := lo_stop (a := s 0 (l3.toInt.toNat + 1)) h hF0
  rw [ix_l1 hL hl, e1, cl_some, ix_l1 hL hl, e2, show gX11_stop s1 (s 0 (l3.toInt.toNat + 1)) = some (r2, s2) from e3, cl_some, if_pos e4]
  exact go s2 (e5.mono (Nat.le_add_right _ _) (Nat.le_add_right _ _))
theorem law_o_quiet {L F B : Nat} {s : wt_S} {l3 : Int32} {P : Int32 → wt_S → Prop} {K : wt_S → Option (Int32 × wt_S)} (hL : L ≤ 3072) (hl : 0 ≤ l3.toInt ∧ l3.toInt + 6 ≤ L) (hF1 : F + 2401800 ≤ 1999990000) (hB1 : B + 2400 ≤ 2147200000) (h : LJ F B s) (go : ∀ s', LJ (F + 2401800) (B + 2400) s' → Ok P (K s')) : Ok P (wt_ix (l3 + 1) L fun k1 => (wt_cl (gX10_quiet s (s 0 k1)) fun v s1 => (wt_ix (l3 + 1) L fun m1 => (wt_cl (gX11_quiet s1 (s1 0 m1)) fun w s2 => K s2)))) := by
  have hF0 : F ≤ 1999990000 := Nat.le_trans (Nat.le_add_right _ _) hF1
  have hB0 : B ≤ 2147200000 := Nat.le_trans (Nat.le_add_right _ _) hB1
  obtain ⟨r, s1, r2, s2, e1, e2, e3, e4, e5⟩ := lo_quiet (a := s 0 (l3.toInt.toNat + 1)) h hF0 hB0
  rw [ix_l1 hL hl, e1, cl_some, ix_l1 hL hl, e2, show gX11_quiet s1 (s 0 (l3.toInt.toNat + 1)) = some (r2, s2) from e3, cl_some]
  exact go s2 (e5.mono (Nat.le_add_right _ _) (Nat.add_le_add_left (by decide) _))
theorem law_e_quiet {L F B : Nat} {s : wt_S} {l3 : Int32} {P : Int32 → wt_S → Prop} {K : wt_S → Option (Int32 × wt_S)} (hL : L ≤ 3072) (hl : 0 ≤ l3.toInt ∧ l3.toInt + 6 ≤ L) (hF1 : F + 2401800 ≤ 1999990000) (hB1 : B + 2400 ≤ 2147200000) (h : LJ F B s) (go : ∀ s', LJ (F + 2401800) (B + 2400) s' → Ok P (K s')) : Ok P (wt_ix (l3 + 1) L fun k1 => (wt_cl (gX10_quiet s (s 0 k1)) fun v s1 => (wt_ix (l3 + 1) L fun m1 => (wt_cl (gX11_quiet s1 (s1 0 m1)) fun w s2 => (if v = w then K s2 else some (0, s2)))))) := by
  have hF0 : F ≤ 1999990000 := Nat.le_trans (Nat.le_add_right _ _) hF1
  have hB0 : B ≤ 2147200000 := Nat.le_trans (Nat.le_add_right _ _) hB1
  obtain ⟨r, s1, r2, s2, e1, e2, e3, e4, e5⟩ := lo_quiet (a := s 0 (l3.toInt.toNat + 1)) h hF0 hB0
  rw [ix_l1 hL hl, e1, cl_some, ix_l1 hL hl, e2, show gX11_quiet s1 (s 0 (l3.toInt.toNat + 1)) = some (r2, s2) from e3, cl_some, if_pos e4]
  exact go s2 (e5.mono (Nat.le_add_right _ _) (Nat.add_le_add_left (by decide) _))
theorem law_o_join {L F B : Nat} {s : wt_S} {l3 : Int32} {P : Int32 → wt_S → Prop} {K : wt_S → Option (Int32 × wt_S)} (hL : L ≤ 3072) (hl : 0 ≤ l3.toInt ∧ l3.toInt + 6 ≤ L) (hF1 : F + 2401800 ≤ 1999990000) (hB1 : B + 2400 ≤ 2147200000) (h : LJ F B s) (go : ∀ s', LJ (F + 2401800) (B + 2400) s' → Ok P (K s')) : Ok P (wt_ix (l3 + 1) L fun k1 => (wt_cl (gX10_join s (s 0 k1)) fun v s1 => (wt_ix (l3 + 1) L fun m1 => (wt_cl (gX11_join s1 (s1 0 m1)) fun w s2 => K s2)))) := by
  have hF0 : F ≤ 1999990000 := Nat.le_trans (Nat.le_add_right _ _) hF1
  have hB0 : B ≤ 2147200000 := Nat.le_trans (Nat.le_add_right _ _) hB1
  obtain ⟨r, s1, r2, s2, e1, e2, e3, e4, e5⟩ := lo_join (a := s 0 (l3.toInt.toNat + 1)) h hF0 hB0
  rw [ix_l1 hL hl, e1, cl_some, ix_l1 hL hl, e2, show gX11_join s1 (s 0 (l3.toInt.toNat + 1)) = some (r2, s2) from e3, cl_some]
  exact go s2 (e5.mono (Nat.le_add_right _ _) (Nat.add_le_add_left (by decide) _))
theorem law_e_join {L F B : Nat} {s : wt_S} {l3 : Int32} {P : Int32 → wt_S → Prop} {K : wt_S → Option (Int32 × wt_S)} (hL : L ≤ 3072) (hl : 0 ≤ l3.toInt ∧ l3.toInt + 6 ≤ L) (hF1 : F + 2401800 ≤ 1999990000) (hB1 : B + 2400 ≤ 2147200000) (h : LJ F B s) (go : ∀ s', LJ (F + 2401800) (B + 2400) s' → Ok P (K s')) : Ok P (wt_ix (l3 + 1) L fun k1 => (wt_cl (gX10_join s (s 0 k1)) fun v s1 => (wt_ix (l3 + 1) L fun m1 => (wt_cl (gX11_join s1 (s1 0 m1)) fun w s2 => (if v = w then K s2 else some (0, s2)))))) := by
  have hF0 : F ≤ 1999990000 := Nat.le_trans (Nat.le_add_right _ _) hF1
  have hB0 : B ≤ 2147200000 := Nat.le_trans (Nat.le_add_right _ _) hB1
  obtain ⟨r, s1, r2, s2, e1, e2, e3, e4, e5⟩ := lo_join (a := s 0 (l3.toInt.toNat + 1)) h hF0 hB0
  rw [ix_l1 hL hl, e1, cl_some, ix_l1 hL hl, e2, show gX11_join s1 (s 0 (l3.toInt.toNat + 1)) = some (r2, s2) from e3, cl_some, if_pos e4]
  exact go s2 (e5.mono (Nat.le_add_right _ _) (Nat.add_le_add_left (by decide) _))
theorem law_o_compact {L F B : Nat} {s : wt_S} {l3 : Int32} {P : Int32 → wt_S → Prop} {K : wt_S → Option (Int32 × wt_S)} (hL : L ≤ 3072) (hl : 0 ≤ l3.toInt ∧ l3.toInt + 6 ≤ L) (hF1 : F + 2401800 ≤ 1999990000) (hB1 : B + 2400 ≤ 2147200000) (h : LJ F B s) (go : ∀ s', LJ (F + 2401800) (B + 2400) s' → Ok P (K s')) : Ok P (wt_cl (gX10_compact s) fun v s1 => (wt_cl (gX11_compact s1) fun w s2 => K s2)) := by
  have hF0 : F ≤ 1999990000 := Nat.le_trans (Nat.le_add_right _ _) hF1
  have hB0 : B ≤ 2147200000 := Nat.le_trans (Nat.le_add_right _ _) hB1
  obtain ⟨r, s1, r2, s2, e1, e2, e3, e4, e5⟩ := lo_compact  h hF0 hB0
  rw [e1, cl_some, show gX11_compact s1 = some (r2, s2) from e3, cl_some]
  exact go s2 (e5.mono (Nat.le_add_right _ _) (Nat.add_le_add_left (by decide) _))
theorem law_e_compact {L F B : Nat} {s : wt_S} {l3 : Int32} {P : Int32 → wt_S → Prop} {K : wt_S → Option (Int32 × wt_S)} (hL : L ≤ 3072) (hl : 0 ≤ l3.toInt ∧ l3.toInt + 6 ≤ L) (hF1 : F + 2401800 ≤ 1999990000) (hB1 : B + 2400 ≤ 2147200000) (h : LJ F B s) (go : ∀ s', LJ (F + 2401800) (B + 2400) s' → Ok P (K s')) : Ok P (wt_cl (gX10_compact s) fun v s1 => (wt_cl (gX11_compact s1) fun w s2 => (if v = w then K s2 else some (0, s2)))) := by
  have hF0 : F ≤ 1999990000 := Nat.le_trans (Nat.le_add_right _ _) hF1
  have hB0 : B ≤ 2147200000 := Nat.le_trans (Nat.le_add_right _ _) hB1
  obtain ⟨r, s1, r2, s2, e1, e2, e3, e4, e5⟩ := lo_compact  h hF0 hB0
  rw [e1, cl_some, show gX11_compact s1 = some (r2, s2) from e3, cl_some, if_pos e4]
  exact go s2 (e5.mono (Nat.le_add_right _ _) (Nat.add_le_add_left (by decide) _))
theorem law_o_deep {L F B : Nat} {s : wt_S} {l3 : Int32} {P : Int32 → wt_S → Prop} {K : wt_S → Option (Int32 × wt_S)} (hL : L ≤ 3072) (hl : 0 ≤ l3.toInt ∧ l3.toInt + 6 ≤ L) (hF1 : F + 2401800 ≤ 1999990000) (hB1 : B + 2400 ≤ 2147200000) (h : LJ F B s) (go : ∀ s', LJ (F + 2401800) (B + 2400) s' → Ok P (K s')) : Ok P (wt_ix (l3 + 1) L fun k1 => (wt_cl (gX10_deep s (s 0 k1)) fun v s1 => (wt_ix (l3 + 1) L fun m1 => (wt_cl (gX11_deep s1 (s1 0 m1)) fun w s2 => K s2)))) := by
  have hF0 : F ≤ 1999990000 := Nat.le_trans (Nat.le_add_right _ _) hF1
  have hB0 : B ≤ 2147200000 := Nat.le_trans (Nat.le_add_right _ _) hB1
  obtain ⟨r, s1, r2, s2, e1, e2, e3, e4, e5⟩ := lo_deep (a := s 0 (l3.toInt.toNat + 1)) h hF0
  rw [ix_l1 hL hl, e1, cl_some, ix_l1 hL hl, e2, show gX11_deep s1 (s 0 (l3.toInt.toNat + 1)) = some (r2, s2) from e3, cl_some]
  exact go s2 (e5.mono (Nat.le_add_right _ _) (Nat.le_add_right _ _))
theorem law_o_need {L F B : Nat} {s : wt_S} {l3 : Int32} {P : Int32 → wt_S → Prop} {K : wt_S → Option (Int32 × wt_S)} (hL : L ≤ 3072) (hl : 0 ≤ l3.toInt ∧ l3.toInt + 6 ≤ L) (hF1 : F + 2401800 ≤ 1999990000) (hB1 : B + 2400 ≤ 2147200000) (h : LJ F B s) (go : ∀ s', LJ (F + 2401800) (B + 2400) s' → Ok P (K s')) : Ok P (wt_ix (l3 + 1) L fun k1 => (wt_cl (gX10_need s (s 0 k1)) fun v s1 => (wt_ix (l3 + 1) L fun m1 => (wt_cl (gX11_need s1 (s1 0 m1)) fun w s2 => K s2)))) := by
  have hF0 : F ≤ 1999990000 := Nat.le_trans (Nat.le_add_right _ _) hF1
  have hB0 : B ≤ 2147200000 := Nat.le_trans (Nat.le_add_right _ _) hB1
  obtain ⟨r, s1, r2, s2, e1, e2, e3, e4, e5⟩ := lo_need (a := s 0 (l3.toInt.toNat + 1)) h hF0
  rw [ix_l1 hL hl, e1, cl_some, ix_l1 hL hl, e2, show gX11_need s1 (s 0 (l3.toInt.toNat + 1)) = some (r2, s2) from e3, cl_some]
  exact go s2 (e5.mono (Nat.le_add_right _ _) (Nat.le_add_right _ _))
theorem law_o_task {L F B : Nat} {s : wt_S} {l3 : Int32} {P : Int32 → wt_S → Prop} {K : wt_S → Option (Int32 × wt_S)} (hL : L ≤ 3072) (hl : 0 ≤ l3.toInt ∧ l3.toInt + 6 ≤ L) (hF1 : F + 2401800 ≤ 1999990000) (hB1 : B + 2400 ≤ 2147200000) (h : LJ F B s) (go : ∀ s', LJ (F + 2401800) (B + 2400) s' → Ok P (K s')) : Ok P (wt_ix (l3 + 1) L fun k1 => (wt_ix (l3 + 2) L fun k2 => (wt_cl (gX10_task s (s 0 k1) (s 0 k2)) fun v s1 => (wt_ix (l3 + 1) L fun m1 => (wt_ix (l3 + 2) L fun m2 => (wt_cl (gX11_task s1 (s1 0 m1) (s1 0 m2)) fun w s2 => K s2)))))) := by
  have hF0 : F ≤ 1999990000 := Nat.le_trans (Nat.le_add_right _ _) hF1
  have hB0 : B ≤ 2147200000 := Nat.le_trans (Nat.le_add_right _ _) hB1
  obtain ⟨r, s1, r2, s2, e1, e2, e3, e4, e5⟩ := lo_task (a := s 0 (l3.toInt.toNat + 1)) (b := s 0 (l3.toInt.toNat + 2)) h hF0
  rw [ix_l1 hL hl, ix_l2 hL hl, e1, cl_some, ix_l1 hL hl, ix_l2 hL hl, e2, show gX11_task s1 (s 0 (l3.toInt.toNat + 1)) (s 0 (l3.toInt.toNat + 2)) = some (r2, s2) from e3, cl_some]
  exact go s2 (e5.mono (Nat.le_add_right _ _) (Nat.le_add_right _ _))
theorem law_o_frame {L F B : Nat} {s : wt_S} {l3 : Int32} {P : Int32 → wt_S → Prop} {K : wt_S → Option (Int32 × wt_S)} (hL : L ≤ 3072) (hl : 0 ≤ l3.toInt ∧ l3.toInt + 6 ≤ L) (hF1 : F + 2401800 ≤ 1999990000) (hB1 : B + 2400 ≤ 2147200000) (h : LJ F B s) (go : ∀ s', LJ (F + 2401800) (B + 2400) s' → Ok P (K s')) : Ok P (wt_ix (l3 + 1) L fun k1 => (wt_ix (l3 + 2) L fun k2 => (wt_ix (l3 + 3) L fun k3 => (wt_cl (gX10_frame s (s 0 k1) (s 0 k2) (s 0 k3)) fun v s1 => (wt_ix (l3 + 1) L fun m1 => (wt_ix (l3 + 2) L fun m2 => (wt_ix (l3 + 3) L fun m3 => (wt_cl (gX11_frame s1 (s1 0 m1) (s1 0 m2) (s1 0 m3)) fun w s2 => K s2)))))))) := by
  have hF0 : F ≤ 1999990000 := Nat.le_trans (Nat.le_add_right _ _) hF1
  have hB0 : B ≤ 2147200000 := Nat.le_trans (Nat.le_add_right _ _) hB1
  obtain ⟨r, s1, r2, s2, e1, e2, e3, e4, e5⟩ := lo_frame (a := s 0 (l3.toInt.toNat + 1)) (b := s 0 (l3.toInt.toNat + 2)) (c := s 0 (l3.toInt.toNat + 3)) h hF0
  rw [ix_l1 hL hl, ix_l2 hL hl, ix_l3 hL hl, e1, cl_some, ix_l1 hL hl, ix_l2 hL hl, ix_l3 hL hl, e2, show gX11_frame s1 (s 0 (l3.toInt.toNat + 1)) (s 0 (l3.toInt.toNat + 2)) (s 0 (l3.toInt.toNat + 3)) = some (r2, s2) from e3, cl_some]
  exact go s2 (e5.mono (Nat.le_add_right _ _) (Nat.le_add_right _ _))
theorem law_o_slot {L F B : Nat} {s : wt_S} {l3 : Int32} {P : Int32 → wt_S → Prop} {K : wt_S → Option (Int32 × wt_S)} (hL : L ≤ 3072) (hl : 0 ≤ l3.toInt ∧ l3.toInt + 6 ≤ L) (hF1 : F + 2401800 ≤ 1999990000) (hB1 : B + 2400 ≤ 2147200000) (h : LJ F B s) (go : ∀ s', LJ (F + 2401800) (B + 2400) s' → Ok P (K s')) : Ok P (wt_ix (l3 + 1) L fun k1 => (wt_ix (l3 + 2) L fun k2 => (wt_ix (l3 + 3) L fun k3 => (wt_ix (l3 + 4) L fun k4 => (wt_cl (gX10_slot s (s 0 k1) (s 0 k2) (s 0 k3) (s 0 k4)) fun v s1 => (wt_ix (l3 + 1) L fun m1 => (wt_ix (l3 + 2) L fun m2 => (wt_ix (l3 + 3) L fun m3 => (wt_ix (l3 + 4) L fun m4 => (wt_cl (gX11_slot s1 (s1 0 m1) (s1 0 m2) (s1 0 m3) (s1 0 m4)) fun w s2 => K s2)))))))))) := by
  have hF0 : F ≤ 1999990000 := Nat.le_trans (Nat.le_add_right _ _) hF1
  have hB0 : B ≤ 2147200000 := Nat.le_trans (Nat.le_add_right _ _) hB1
  obtain ⟨r, s1, r2, s2, e1, e2, e3, e4, e5⟩ := lo_slot (a := s 0 (l3.toInt.toNat + 1)) (b := s 0 (l3.toInt.toNat + 2)) (c := s 0 (l3.toInt.toNat + 3)) (d := s 0 (l3.toInt.toNat + 4)) h hF0
  rw [ix_l1 hL hl, ix_l2 hL hl, ix_l3 hL hl, ix_l4 hL hl, e1, cl_some, ix_l1 hL hl, ix_l2 hL hl, ix_l3 hL hl, ix_l4 hL hl, e2, show gX11_slot s1 (s 0 (l3.toInt.toNat + 1)) (s 0 (l3.toInt.toNat + 2)) (s 0 (l3.toInt.toNat + 3)) (s 0 (l3.toInt.toNat + 4)) = some (r2, s2) from e3, cl_some]
  exact go s2 (e5.mono (Nat.le_add_right _ _) (Nat.le_add_right _ _))
theorem law_o_piece {L F B : Nat} {s : wt_S} {l3 : Int32} {P : Int32 → wt_S → Prop} {K : wt_S → Option (Int32 × wt_S)} (hL : L ≤ 3072) (hl : 0 ≤ l3.toInt ∧ l3.toInt + 6 ≤ L) (hF1 : F + 2401800 ≤ 1999990000) (hB1 : B + 2400 ≤ 2147200000) (h : LJ F B s) (go : ∀ s', LJ (F + 2401800) (B + 2400) s' → Ok P (K s')) : Ok P (wt_ix (l3 + 1) L fun k1 => (wt_ix (l3 + 2) L fun k2 => (wt_ix (l3 + 3) L fun k3 => (wt_cl (gX10_piece s (s 0 k1) (s 0 k2) (s 0 k3)) fun v s1 => (wt_ix (l3 + 1) L fun m1 => (wt_ix (l3 + 2) L fun m2 => (wt_ix (l3 + 3) L fun m3 => (wt_cl (gX11_piece s1 (s1 0 m1) (s1 0 m2) (s1 0 m3)) fun w s2 => K s2)))))))) := by
  have hF0 : F ≤ 1999990000 := Nat.le_trans (Nat.le_add_right _ _) hF1
  have hB0 : B ≤ 2147200000 := Nat.le_trans (Nat.le_add_right _ _) hB1
  obtain ⟨r, s1, r2, s2, e1, e2, e3, e4, e5⟩ := lo_piece (a := s 0 (l3.toInt.toNat + 1)) (b := s 0 (l3.toInt.toNat + 2)) (c := s 0 (l3.toInt.toNat + 3)) h hF0
  rw [ix_l1 hL hl, ix_l2 hL hl, ix_l3 hL hl, e1, cl_some, ix_l1 hL hl, ix_l2 hL hl, ix_l3 hL hl, e2, show gX11_piece s1 (s 0 (l3.toInt.toNat + 1)) (s 0 (l3.toInt.toNat + 2)) (s 0 (l3.toInt.toNat + 3)) = some (r2, s2) from e3, cl_some]
  exact go s2 (e5.mono (Nat.le_add_right _ _) (Nat.le_add_right _ _))
theorem law_o_gap {L F B : Nat} {s : wt_S} {l3 : Int32} {P : Int32 → wt_S → Prop} {K : wt_S → Option (Int32 × wt_S)} (hL : L ≤ 3072) (hl : 0 ≤ l3.toInt ∧ l3.toInt + 6 ≤ L) (hF1 : F + 2401800 ≤ 1999990000) (hB1 : B + 2400 ≤ 2147200000) (h : LJ F B s) (go : ∀ s', LJ (F + 2401800) (B + 2400) s' → Ok P (K s')) : Ok P (wt_ix (l3 + 1) L fun k1 => (wt_ix (l3 + 2) L fun k2 => (wt_cl (gX10_gap s (s 0 k1) (s 0 k2)) fun v s1 => (wt_ix (l3 + 1) L fun m1 => (wt_ix (l3 + 2) L fun m2 => (wt_cl (gX11_gap s1 (s1 0 m1) (s1 0 m2)) fun w s2 => K s2)))))) := by
  have hF0 : F ≤ 1999990000 := Nat.le_trans (Nat.le_add_right _ _) hF1
  have hB0 : B ≤ 2147200000 := Nat.le_trans (Nat.le_add_right _ _) hB1
  obtain ⟨r, s1, r2, s2, e1, e2, e3, e4, e5⟩ := lo_gap (a := s 0 (l3.toInt.toNat + 1)) (b := s 0 (l3.toInt.toNat + 2)) h hF0
  rw [ix_l1 hL hl, ix_l2 hL hl, e1, cl_some, ix_l1 hL hl, ix_l2 hL hl, e2, show gX11_gap s1 (s 0 (l3.toInt.toNat + 1)) (s 0 (l3.toInt.toNat + 2)) = some (r2, s2) from e3, cl_some]
  exact go s2 (e5.mono (Nat.le_add_right _ _) (Nat.le_add_right _ _))
theorem law_o_endless {L F B : Nat} {s : wt_S} {l3 : Int32} {P : Int32 → wt_S → Prop} {K : wt_S → Option (Int32 × wt_S)} (hL : L ≤ 3072) (hl : 0 ≤ l3.toInt ∧ l3.toInt + 6 ≤ L) (hF1 : F + 2401800 ≤ 1999990000) (hB1 : B + 2400 ≤ 2147200000) (h : LJ F B s) (go : ∀ s', LJ (F + 2401800) (B + 2400) s' → Ok P (K s')) : Ok P (wt_ix (l3 + 1) L fun k1 => (wt_ix (l3 + 2) L fun k2 => (wt_ix (l3 + 3) L fun k3 => (wt_cl (gX10_endless s (s 0 k1) (s 0 k2) (s 0 k3)) fun v s1 => (wt_ix (l3 + 1) L fun m1 => (wt_ix (l3 + 2) L fun m2 => (wt_ix (l3 + 3) L fun m3 => (wt_cl (gX11_endless s1 (s1 0 m1) (s1 0 m2) (s1 0 m3)) fun w s2 => K s2)))))))) := by
  have hF0 : F ≤ 1999990000 := Nat.le_trans (Nat.le_add_right _ _) hF1
  have hB0 : B ≤ 2147200000 := Nat.le_trans (Nat.le_add_right _ _) hB1
  obtain ⟨r, s1, r2, s2, e1, e2, e3, e4, e5⟩ := lo_endless (a := s 0 (l3.toInt.toNat + 1)) (b := s 0 (l3.toInt.toNat + 2)) (c := s 0 (l3.toInt.toNat + 3)) h (Nat.le_trans (Nat.add_le_add_left (by decide) F) hF1)
  rw [ix_l1 hL hl, ix_l2 hL hl, ix_l3 hL hl, e1, cl_some, ix_l1 hL hl, ix_l2 hL hl, ix_l3 hL hl, e2, show gX11_endless s1 (s 0 (l3.toInt.toNat + 1)) (s 0 (l3.toInt.toNat + 2)) (s 0 (l3.toInt.toNat + 3)) = some (r2, s2) from e3, cl_some]
  exact go s2 (e5.mono (Nat.add_le_add_left (by decide) _) (Nat.le_add_right _ _))
theorem law_o_land {L F B : Nat} {s : wt_S} {l3 : Int32} {P : Int32 → wt_S → Prop} {K : wt_S → Option (Int32 × wt_S)} (hL : L ≤ 3072) (hl : 0 ≤ l3.toInt ∧ l3.toInt + 6 ≤ L) (hF1 : F + 2401800 ≤ 1999990000) (hB1 : B + 2400 ≤ 2147200000) (h : LJ F B s) (go : ∀ s', LJ (F + 2401800) (B + 2400) s' → Ok P (K s')) : Ok P (wt_ix (l3 + 1) L fun k1 => (wt_ix (l3 + 2) L fun k2 => (wt_ix (l3 + 3) L fun k3 => (wt_cl (gX10_land s (s 0 k1) (s 0 k2) (s 0 k3)) fun v s1 => (wt_ix (l3 + 1) L fun m1 => (wt_ix (l3 + 2) L fun m2 => (wt_ix (l3 + 3) L fun m3 => (wt_cl (gX11_land s1 (s1 0 m1) (s1 0 m2) (s1 0 m3)) fun w s2 => K s2)))))))) := by
  have hF0 : F ≤ 1999990000 := Nat.le_trans (Nat.le_add_right _ _) hF1
  have hB0 : B ≤ 2147200000 := Nat.le_trans (Nat.le_add_right _ _) hB1
  obtain ⟨r, s1, r2, s2, e1, e2, e3, e4, e5⟩ := lo_land (a := s 0 (l3.toInt.toNat + 1)) (b := s 0 (l3.toInt.toNat + 2)) (c := s 0 (l3.toInt.toNat + 3)) h (Nat.le_trans (Nat.add_le_add_left (by decide) F) hF1) hB0
  rw [ix_l1 hL hl, ix_l2 hL hl, ix_l3 hL hl, e1, cl_some, ix_l1 hL hl, ix_l2 hL hl, ix_l3 hL hl, e2, show gX11_land s1 (s 0 (l3.toInt.toNat + 1)) (s 0 (l3.toInt.toNat + 2)) (s 0 (l3.toInt.toNat + 3)) = some (r2, s2) from e3, cl_some]
  exact go s2 (e5.mono (Nat.add_le_add_left (by decide) _) (Nat.le_add_right _ _))
theorem law_o_alone {L F B : Nat} {s : wt_S} {l3 : Int32} {P : Int32 → wt_S → Prop} {K : wt_S → Option (Int32 × wt_S)} (hL : L ≤ 3072) (hl : 0 ≤ l3.toInt ∧ l3.toInt + 6 ≤ L) (hF1 : F + 2401800 ≤ 1999990000) (hB1 : B + 2400 ≤ 2147200000) (h : LJ F B s) (go : ∀ s', LJ (F + 2401800) (B + 2400) s' → Ok P (K s')) : Ok P (wt_ix (l3 + 1) L fun k1 => (wt_ix (l3 + 2) L fun k2 => (wt_ix (l3 + 3) L fun k3 => (wt_ix (l3 + 4) L fun k4 => (wt_cl (gX10_alone s (s 0 k1) (s 0 k2) (s 0 k3) (s 0 k4)) fun v s1 => (wt_ix (l3 + 1) L fun m1 => (wt_ix (l3 + 2) L fun m2 => (wt_ix (l3 + 3) L fun m3 => (wt_ix (l3 + 4) L fun m4 => (wt_cl (gX11_alone s1 (s1 0 m1) (s1 0 m2) (s1 0 m3) (s1 0 m4)) fun w s2 => K s2)))))))))) := by
  have hF0 : F ≤ 1999990000 := Nat.le_trans (Nat.le_add_right _ _) hF1
  have hB0 : B ≤ 2147200000 := Nat.le_trans (Nat.le_add_right _ _) hB1
  obtain ⟨r, s1, r2, s2, e1, e2, e3, e4, e5⟩ := lo_alone (a := s 0 (l3.toInt.toNat + 1)) (b := s 0 (l3.toInt.toNat + 2)) (c := s 0 (l3.toInt.toNat + 3)) (d := s 0 (l3.toInt.toNat + 4)) h (Nat.le_trans (Nat.add_le_add_left (by decide) F) hF1) hB0
  rw [ix_l1 hL hl, ix_l2 hL hl, ix_l3 hL hl, ix_l4 hL hl, e1, cl_some, ix_l1 hL hl, ix_l2 hL hl, ix_l3 hL hl, ix_l4 hL hl, e2, show gX11_alone s1 (s 0 (l3.toInt.toNat + 1)) (s 0 (l3.toInt.toNat + 2)) (s 0 (l3.toInt.toNat + 3)) (s 0 (l3.toInt.toNat + 4)) = some (r2, s2) from e3, cl_some]
  exact go s2 (e5.mono (Nat.add_le_add_left (by decide) _) (Nat.le_add_right _ _))
theorem law_o_log {L F B : Nat} {s : wt_S} {l3 : Int32} {P : Int32 → wt_S → Prop} {K : wt_S → Option (Int32 × wt_S)} (hL : L ≤ 3072) (hl : 0 ≤ l3.toInt ∧ l3.toInt + 6 ≤ L) (hF1 : F + 2401800 ≤ 1999990000) (hB1 : B + 2400 ≤ 2147200000) (h : LJ F B s) (go : ∀ s', LJ (F + 2401800) (B + 2400) s' → Ok P (K s')) : Ok P (wt_ix (l3 + 1) L fun k1 => (wt_ix (l3 + 2) L fun k2 => (wt_cl (gX10_log s (s 0 k1) (s 0 k2)) fun v s1 => (wt_ix (l3 + 1) L fun m1 => (wt_ix (l3 + 2) L fun m2 => (wt_cl (gX11_log s1 (s1 0 m1) (s1 0 m2)) fun w s2 => K s2)))))) := by
  have hF0 : F ≤ 1999990000 := Nat.le_trans (Nat.le_add_right _ _) hF1
  have hB0 : B ≤ 2147200000 := Nat.le_trans (Nat.le_add_right _ _) hB1
  obtain ⟨r, s1, r2, s2, e1, e2, e3, e4, e5⟩ := lo_log (a := s 0 (l3.toInt.toNat + 1)) (b := s 0 (l3.toInt.toNat + 2)) h hB0
  rw [ix_l1 hL hl, ix_l2 hL hl, e1, cl_some, ix_l1 hL hl, ix_l2 hL hl, e2, show gX11_log s1 (s 0 (l3.toInt.toNat + 1)) (s 0 (l3.toInt.toNat + 2)) = some (r2, s2) from e3, cl_some]
  exact go s2 (e5.mono (Nat.le_add_right _ _) (Nat.le_add_right _ _))
theorem law_o_never {L F B : Nat} {s : wt_S} {l3 : Int32} {P : Int32 → wt_S → Prop} {K : wt_S → Option (Int32 × wt_S)} (hL : L ≤ 3072) (hl : 0 ≤ l3.toInt ∧ l3.toInt + 6 ≤ L) (hF1 : F + 2401800 ≤ 1999990000) (hB1 : B + 2400 ≤ 2147200000) (h : LJ F B s) (go : ∀ s', LJ (F + 2401800) (B + 2400) s' → Ok P (K s')) : Ok P (wt_ix (l3 + 1) L fun k1 => (wt_cl (gX10_never s (s 0 k1)) fun v s1 => (wt_ix (l3 + 1) L fun m1 => (wt_cl (gX11_never s1 (s1 0 m1)) fun w s2 => K s2)))) := by
  have hF0 : F ≤ 1999990000 := Nat.le_trans (Nat.le_add_right _ _) hF1
  have hB0 : B ≤ 2147200000 := Nat.le_trans (Nat.le_add_right _ _) hB1
  obtain ⟨r, s1, r2, s2, e1, e2, e3, e4, e5⟩ := lo_never (a := s 0 (l3.toInt.toNat + 1)) h hF0
  rw [ix_l1 hL hl, e1, cl_some, ix_l1 hL hl, e2, show gX11_never s1 (s 0 (l3.toInt.toNat + 1)) = some (r2, s2) from e3, cl_some]
  exact go s2 (e5.mono (Nat.le_add_right _ _) (Nat.le_add_right _ _))
theorem law_o_count {L F B : Nat} {s : wt_S} {l3 : Int32} {P : Int32 → wt_S → Prop} {K : wt_S → Option (Int32 × wt_S)} (hL : L ≤ 3072) (hl : 0 ≤ l3.toInt ∧ l3.toInt + 6 ≤ L) (hF1 : F + 2401800 ≤ 1999990000) (hB1 : B + 2400 ≤ 2147200000) (h : LJ F B s) (go : ∀ s', LJ (F + 2401800) (B + 2400) s' → Ok P (K s')) : Ok P (wt_ix (l3 + 1) L fun k1 => (wt_cl (gX10_count s (s 0 k1)) fun v s1 => (wt_ix (l3 + 1) L fun m1 => (wt_cl (gX11_count s1 (s1 0 m1)) fun w s2 => K s2)))) := by
  have hF0 : F ≤ 1999990000 := Nat.le_trans (Nat.le_add_right _ _) hF1
  have hB0 : B ≤ 2147200000 := Nat.le_trans (Nat.le_add_right _ _) hB1
  obtain ⟨r, s1, r2, s2, e1, e2, e3, e4, e5⟩ := lo_count (a := s 0 (l3.toInt.toNat + 1)) h hF0
  rw [ix_l1 hL hl, e1, cl_some, ix_l1 hL hl, e2, show gX11_count s1 (s 0 (l3.toInt.toNat + 1)) = some (r2, s2) from e3, cl_some]
  exact go s2 (e5.mono (Nat.le_add_right _ _) (Nat.le_add_right _ _))
theorem law_o_look {L F B : Nat} {s : wt_S} {l3 : Int32} {P : Int32 → wt_S → Prop} {K : wt_S → Option (Int32 × wt_S)} (hL : L ≤ 3072) (hl : 0 ≤ l3.toInt ∧ l3.toInt + 6 ≤ L) (hF1 : F + 2401800 ≤ 1999990000) (hB1 : B + 2400 ≤ 2147200000) (h : LJ F B s) (go : ∀ s', LJ (F + 2401800) (B + 2400) s' → Ok P (K s')) : Ok P (wt_ix (l3 + 1) L fun k1 => (wt_cl (gX10_look s (s 0 k1)) fun v s1 => (wt_ix (l3 + 1) L fun m1 => (wt_cl (gX11_look s1 (s1 0 m1)) fun w s2 => K s2)))) := by
  have hF0 : F ≤ 1999990000 := Nat.le_trans (Nat.le_add_right _ _) hF1
  have hB0 : B ≤ 2147200000 := Nat.le_trans (Nat.le_add_right _ _) hB1
  obtain ⟨r, s1, r2, s2, e1, e2, e3, e4, e5⟩ := lo_look (a := s 0 (l3.toInt.toNat + 1)) h hF0
  rw [ix_l1 hL hl, e1, cl_some, ix_l1 hL hl, e2, show gX11_look s1 (s 0 (l3.toInt.toNat + 1)) = some (r2, s2) from e3, cl_some]
  exact go s2 (e5.mono (Nat.le_add_right _ _) (Nat.le_add_right _ _))
end
section
/-! ===== deep, need, count, task: the same answers (written by wip/p2/gen_d6.py) ===== -/
section
variable {F B : Nat} {s s' : wt_S} {V : vV} {x : Option (Int32 × wt_S)} {y : wt_S → Option (Int32 × wt_S)} {b t np lim : Nat} {ps : List vP} {zs : List (vP × Nat)} {fr : List Nat}
/-- a question that changes nothing: the answers are the same -/
theorem lo_eq (h : LJ F B s) (hx : ∀ V, VI 2048 B V → NW B s V → ∃ r, x = some (r, s) ∧ ∀ s1, RS s1 V → ∃ s2, y s1 = some (r, s2) ∧ RO s1 s2) : LO F B s x y Eq := by
  obtain ⟨h1, h2, V, Vk, h3, h4, h5⟩ := id h
  obtain ⟨r, e, -⟩ := hx V h3.2.1 h4
  refine lo_mk h (Nat.le_refl _) ⟨r, s, e, h1⟩ (fun V hr hI hn => ?_)
  obtain ⟨r, e, e2⟩ := hx V hI hn
  refine ⟨r, s, V, e, hn, fun _ _ => rfl, fun s1' h' => ?_⟩
  obtain ⟨s2, b1, b2⟩ := e2 s1' h'
  exact ⟨r, s2, b1, rfl, h'.ro b2, RH.of b2.1⟩
theorem lo_deepE {a : Int32} (h : LJ F B s) : LO F B s (gX10_deep s a) (fun s1 => gX11_deep s1 a) Eq := lo_eq h (fun V hI hn => by
  show ∃ r, gX10_deep s a = some (r, s) ∧ ∀ s1, RS s1 V → ∃ s2, gX11_deep s1 a = some (r, s2) ∧ RO s1 s2
  obtain ⟨⟨zs, fr, hR⟩, -⟩ := hn
  unfold gX10_deep gX11_deep
  rw [c_told hR.2.2.2.2.2, cl_some, if_rb]
  by_cases c : tld V.1 a
  · obtain ⟨f, f10, rfl, f3, f4⟩ := tld_nat c
    rw [if_pos c, c_deepOf hR.2.2.2.2.2 f10, cl_some, if_pos f4]
    refine ⟨_, rfl, fun s1 h1 => ⟨s1, ?_, RO.refl⟩⟩
    rw [q_isTold, cl_some, if_rb, if_pos (h1.prog.tl.mpr c), q_deepOf (hI.2.1.ww h1.prog) f10, cl_some, h1.prog.dp hI.2.1 10 f f10]
  · rw [if_neg c]
    refine ⟨_, rfl, fun s1 h1 => ⟨s1, ?_, RO.refl⟩⟩
    rw [q_isTold, cl_some, if_rb, if_neg (fun q => c (h1.prog.tl.mp q))])
theorem lo_needE {a : Int32} (h : LJ F B s) : LO F B s (gX10_need s a) (fun s1 => gX11_need s1 a) Eq := lo_eq h (fun V hI hn => by
  show ∃ r, gX10_need s a = some (r, s) ∧ ∀ s1, RS s1 V → ∃ s2, gX11_need s1 a = some (r, s2) ∧ RO s1 s2
  obtain ⟨⟨zs, fr, hR⟩, -⟩ := hn
  obtain ⟨z, z1, z2, z3⟩ := hI.1.2.2.2.1
  unfold gX10_need gX11_need
  rw [c_told hR.2.2.2.2.2, cl_some, if_rb]
  by_cases c : tld V.1 a
  · obtain ⟨f, f10, rfl, f3, f4⟩ := tld_nat c
    rw [if_pos c, c_needOf hR.2.2.2.2.2 hR.2.2.1 hI.2.1 f10 f4 hI.1.2.2.1 z1 z3, cl_some]
    refine ⟨_, rfl, fun s1 h1 => ⟨s1, ?_, RO.refl⟩⟩
    rw [q_isTold, cl_some, if_rb, if_pos (h1.prog.tl.mpr c), (q_need h1 hI.2.1 f10 z1 z3).1, cl_some]
  · rw [if_neg c]
    refine ⟨_, rfl, fun s1 h1 => ⟨s1, ?_, RO.refl⟩⟩
    rw [q_isTold, cl_some, if_rb, if_neg (fun q => c (h1.prog.tl.mp q))])
theorem lo_countE {a : Int32} (h : LJ F B s) : LO F B s (gX10_count s a) (fun s1 => gX11_count s1 a) Eq := lo_eq h (fun V hI hn => by
  show ∃ r, gX10_count s a = some (r, s) ∧ ∀ s1, RS s1 V → ∃ s2, gX11_count s1 a = some (r, s2) ∧ RO s1 s2
  obtain ⟨⟨zs, fr, hR⟩, -⟩ := hn
  have q0 : (0 : Int32).toInt = 0 := by decide
  have q11 : (11 : Int32).toInt = 11 := by decide
  have q12 : (12 : Int32).toInt = 12 := by decide
  unfold gX10_count gX11_count
  rw [q0, q12]
  by_cases c : 0 ≤ a.toInt ∧ a.toInt ≤ 11
  · obtain ⟨n, n1, rfl, n3, n4⟩ := i_nat (x := a) c.1
    rw [if_neg (by omega), if_neg (by omega), ix_nI (by omega) (by omega), show s 24 n = V.1 (2054 + n) from hR.2.2.1.2 n (by omega)]
    refine ⟨_, rfl, fun s1 h1 => ⟨s1, ?_, RO.refl⟩⟩
    rw [q_isIn, cl_some, if_rb, q0, q11, if_pos c, li_add, ix_nI (by omega) (by omega), h1.se (by omega)]
  · refine ⟨-1, ?_, fun s1 h1 => ⟨s1, ?_, RO.refl⟩⟩
    · by_cases c2 : a.toInt < 0
      · rw [if_pos c2]
      · rw [if_neg c2, if_pos (by omega)]
    · rw [q_isIn, cl_some, if_rb, q0, q11, if_neg c])
/-- how many pieces -/
theorem vcp_w : ∀ {ps : List vP}, vcp t ps = vcw t (ps.map (fun q => (q.1, 1, q.2.2))) := by
  intro ps
  induction ps with
  | nil => rfl
  | cons q ps ih =>
    show _ = (if q.2.2.1 = t then 1 else 0) + vcw t (ps.map (fun q => (q.1, 1, q.2.2)))
    rw [← ih]
    unfold vcp
    by_cases c : q.2.2.1 = t
    · rw [List.filter_cons_of_pos (by simp [c]), List.length_cons, if_pos c, Nat.add_comm]
    · rw [List.filter_cons_of_neg (by simp [c]), if_neg c, Nat.zero_add]
theorem vcp_sum (hnp : np ≤ 1000) (hu : ps.Pairwise (fun p q => ¬ (p.2.2.1 = q.2.2.1 ∧ p.2.2.2 = q.2.2.2))) (hit : Itp ps t np) : (∀ q ∈ ps, q.2.2.1 = t → q.2.2.2 = 1000 → vcp t ps = np + 1) ∧ ((∀ q ∈ ps, ¬ (q.2.2.1 = t ∧ q.2.2.2 = 1000)) → vcp t ps = np) := by
  have hu' : (ps.map (fun q : vP => ((q.1, 1, q.2.2) : vP))).Pairwise (fun p q => ¬ (p.2.2.1 = q.2.2.1 ∧ p.2.2.2 = q.2.2.2)) := by
    rw [List.pairwise_map]
    exact hu
  have hm : ∀ q ∈ ps.map (fun q : vP => ((q.1, 1, q.2.2) : vP)), ∃ p ∈ ps, q = (p.1, 1, p.2.2) := fun q hq => by
    obtain ⟨p, h1, h2⟩ := List.mem_map.mp hq
    exact ⟨p, h1, h2.symm⟩
  have hs := vcw_sum (t := t) hnp hu' (fun q hq hqt => by
    obtain ⟨p, h1, rfl⟩ := hm q hq
    exact hit.2 p h1 hqt)
  have one : ∀ p ∈ ps, vln (ps.map (fun q : vP => ((q.1, 1, q.2.2) : vP))) p.2.2.1 p.2.2.2 = 1 := fun p hp => vln_at hu' (q := (p.1, 1, p.2.2)) (List.mem_map.mpr ⟨p, hp, rfl⟩)
  have sum : ∀ n, n ≤ np → vsum (fun k => vln (ps.map (fun q : vP => ((q.1, 1, q.2.2) : vP))) t k) n = n := by
    intro n
    induction n with
    | zero => intro _; rfl
    | succ n ih =>
      intro hn
      show vsum _ n + vln _ t n = n + 1
      obtain ⟨p, p1, p2, p3⟩ := hit.1 n (by omega)
      have := one p p1
      rw [p2, p3] at this
      rw [ih (by omega), this]
  rw [sum np (Nat.le_refl _)] at hs
  rw [vcp_w, hs]
  refine ⟨fun q hq h1 h2 => ?_, fun hno => ?_⟩
  · have := one q hq
    rw [h1, h2] at this
    rw [this]
  · have hz : vln (ps.map (fun q : vP => ((q.1, 1, q.2.2) : vP))) t 1000 = 0 := vln_no (fun q hq e => by
      obtain ⟨p, h1, rfl⟩ := hm q hq
      exact hno p h1 e)
    rw [hz]
    rfl
theorem c_taskPieces (hP : PC b lim s zs fr) (hm : zs.map Prod.fst = ps) (hu : ps.Pairwise (fun p q => ¬ (p.2.2.1 = q.2.2.1 ∧ p.2.2.2 = q.2.2.2))) (hit : Itp ps t np) (hnp : np ≤ 256) (h0 : np = 0 → ∀ q ∈ ps, q.2.2.1 ≠ t) (hch : Ch b s zs t np) : gX9_piecesOf b (b + 17 + 2 * t) s = some (nI (vcp t ps), s) := by
  have mem : ∀ z ∈ zs, z.1 ∈ ps := fun z hz => by rw [← hm]; exact List.mem_map.mpr ⟨z, hz, rfl⟩
  have loop : ∀ (m c fu : Nat) (x : Int32), c + m ≤ 256 → m ≤ np → m < fu → ((m = 0 → x = -1) ∧ ∀ z ∈ zs, z.1.2.2.1 = t → z.1.2.2.2 + 1 = m → x = nI z.2) → gX5_indexOf_8 b fu s (nI c) x = some (nI (c + m), s) := by
    intro m
    induction m with
    | zero =>
      intro c fu x hc hmn hfu hx
      obtain ⟨fu, rfl⟩ : ∃ k, fu = k + 1 := ⟨fu - 1, by omega⟩
      rw [gX5_indexOf_8, hx.1 rfl, if_pos rfl]
      rfl
    | succ m ih =>
      intro c fu x hc hmn hfu hx
      obtain ⟨fu, rfl⟩ : ∃ k, fu = k + 1 := ⟨fu - 1, by omega⟩
      obtain ⟨q, q1, q2, q3⟩ := hit.1 m (by omega)
      rw [← hm] at q1
      obtain ⟨z, hz, rfl⟩ := List.mem_map.mp q1
      obtain ⟨z1, z2, z3, z4⟩ := hP.mem hz
      have hcz := hch.2.2 z hz q2
      rw [gX5_indexOf_8, hx.2 z hz q2 (by omega), if_neg (nI_nm (by omega)), if_neg (c_hi (by omega)), c_belowOf z1, cl_some, show nI c + 1 = nI (c + 1) from nI_add c 1, ih (c + 1) fu _ (by omega) (by omega) (by omega) ⟨fun e => hcz.1 (by omega), fun y hy hyt hyn => hcz.2 y hy hyt (by omega)⟩, show c + 1 + m = c + (m + 1) by omega]
  obtain ⟨c1, c2⟩ := vcp_sum (np := np) (by omega) hu hit
  unfold gX9_piecesOf gX9_piecesOf_34
  by_cases e0 : np = 0
  · rw [hch.1.1 e0, if_neg (fun q => q rfl)]
    rw [c2 (fun q hq e => h0 e0 q hq e.1), e0]
    rfl
  · obtain ⟨q, q1, q2, q3⟩ := hit.1 (np - 1) (by omega)
    rw [← hm] at q1
    obtain ⟨z, hz, rfl⟩ := List.mem_map.mp q1
    obtain ⟨z1, z2, z3, z4⟩ := hP.mem hz
    have hcz := hch.2.2 z hz q2
    have hix : gX5_indexOf b s (nI z.2) = some (nI (np - 1), s) := by
      unfold gX5_indexOf
      rw [c_belowOf z1, cl_some, show gX5_indexOf_8 b wt_N s 0 (s (b + 6) z.2) = _ from loop (np - 1) 0 wt_N _ (by omega) (by omega) (by unfold wt_N; omega) ⟨fun e => hcz.1 (by omega), fun y hy hyt hyn => hcz.2 y hy hyt (by omega)⟩, Nat.zero_add]
    rw [hch.1.2 z hz q2 (by omega), if_pos (nI_nm (by omega)), hix, cl_some]
    by_cases c : ∃ z ∈ zs, z.1.2.2.1 = t ∧ z.1.2.2.2 = 1000
    · obtain ⟨y, hy, e1, e2⟩ := c
      rw [hch.2.1.1 y hy e1 e2, if_pos (nI_nm (by have := (hP.mem hy).1; omega)), show nI (np - 1) + 2 = nI (np - 1 + 2) from nI_add _ 2, c1 y.1 (mem y hy) e1 e2, show np - 1 + 2 = np + 1 by omega]
    · rw [hch.2.1.2 (fun z hz e => c ⟨z, hz, e⟩), if_neg (fun q => q rfl), show nI (np - 1) + 1 = nI (np - 1 + 1) from nI_add _ 1, c2 (fun q hq e => ?_), show np - 1 + 1 = np by omega]
      rw [← hm] at hq
      obtain ⟨z, hz, rfl⟩ := List.mem_map.mp hq
      exact c ⟨z, hz, e⟩
theorem lo_taskE {a b : Int32} (h : LJ F B s) : LO F B s (gX10_task s a b) (fun s1 => gX11_task s1 a b) Eq := lo_eq h (fun V hI hn => by
  show ∃ r, gX10_task s a b = some (r, s) ∧ ∀ s1, RS s1 V → ∃ s2, gX11_task s1 a b = some (r, s2) ∧ RO s1 s2
  obtain ⟨⟨zs, fr, hR⟩, -⟩ := hn
  have hj := hI.J
  unfold gX10_task gX11_task
  rw [c_isTask, cl_some, if_rbn]
  by_cases c1 : 0 ≤ a.toInt ∧ a.toInt ≤ 5
  · obtain ⟨t, ht, rfl, etn⟩ := i_task c1
    obtain ⟨np, n1, n2, n3⟩ := itp_of hI ht
    have hn0 : np = 0 → ∀ q ∈ V.2.1, q.2.2.1 ≠ t := fun e => by
      rcases hI.2.2.2.2.2 t ht with ⟨-, n, np', -, -, e3, e4, -⟩ | hid
      · rw [n1] at e3
        have := (nI_inj (by omega) (by omega)).mp e3
        omega
      · exact hid.2.2.2.2.2.2.2.2
    have hp := c_taskPieces hR.2.1 hR.1 hj.2.2.1 n3 n2 hn0 (hR.ch ht n1)
    have hw := c_taskWords hR.2.1 hR.1 hj.2.2.1 n3 n2 (hR.ch ht n1)
    have tk : ∀ {s1 : wt_S}, gX11_isTask s1 (nI t) = some (rb (0 ≤ (nI t).toInt ∧ (nI t).toInt ≤ 5), s1) := q_isTask
    rw [if_pos c1, ix_nI ht (by omega)]
    by_cases c2 : b.toInt < 0 ∨ 18 < b.toInt
    · rw [if_pos c2]
      refine ⟨_, rfl, fun s1 h1 => ⟨s1, ?_, RO.refl⟩⟩
      rw [tk, cl_some, if_rbn, if_pos c1, if_pos c2]
    · rw [if_neg c2]
      obtain e | e | e | e | e | e | e | e | e | e | e | e | e | e | e | e | e | e | e : b.toInt = 0 ∨ b.toInt = 1 ∨ b.toInt = 2 ∨ b.toInt = 3 ∨ b.toInt = 4 ∨ b.toInt = 5 ∨ b.toInt = 6 ∨ b.toInt = 7 ∨ b.toInt = 8 ∨ b.toInt = 9 ∨ b.toInt = 10 ∨ b.toInt = 11 ∨ b.toInt = 12 ∨ b.toInt = 13 ∨ b.toInt = 14 ∨ b.toInt = 15 ∨ b.toInt = 16 ∨ b.toInt = 17 ∨ b.toInt = 18 := by omega
      · rw [if_pos e, show s (11 + 17 + 2 * t) 1 = V.1 (3926 + t) from hR.at ht (e := (1, 3926)) (by decide)]
        refine ⟨_, rfl, fun s1 h1 => ⟨s1, ?_, RO.refl⟩⟩
        rw [tk, cl_some, if_rbn, if_pos c1, if_neg c2, if_pos e, li_add, ix_nI (by omega) (by omega), h1.2.at (by unfold vtr; omega)]
      · rw [if_neg (by omega), if_pos e, show s (11 + 17 + 2 * t) 2 = V.1 (3933 + t) from hR.at ht (e := (2, 3933)) (by decide)]
        refine ⟨_, rfl, fun s1 h1 => ⟨s1, ?_, RO.refl⟩⟩
        rw [tk, cl_some, if_rbn, if_pos c1, if_neg c2, if_neg (by omega), if_pos e, li_add, ix_nI (by omega) (by omega), h1.2.at (by unfold vtr; omega)]
      · rw [if_neg (by omega), if_neg (by omega), if_pos e, show s (11 + 17 + 2 * t) 3 = V.1 (3940 + t) from hR.at ht (e := (3, 3940)) (by decide)]
        refine ⟨_, rfl, fun s1 h1 => ⟨s1, ?_, RO.refl⟩⟩
        rw [tk, cl_some, if_rbn, if_pos c1, if_neg c2, if_neg (by omega), if_neg (by omega), if_pos e, li_add, ix_nI (by omega) (by omega), h1.2.at (by unfold vtr; omega)]
      · rw [if_neg (by omega), if_neg (by omega), if_neg (by omega), if_pos e, show s (11 + 17 + 2 * t + 1) 2 = V.1 (3947 + t) from hR.as ht (e := (2, 3947)) (by decide)]
        refine ⟨_, rfl, fun s1 h1 => ⟨s1, ?_, RO.refl⟩⟩
        rw [tk, cl_some, if_rbn, if_pos c1, if_neg c2, if_neg (by omega), if_neg (by omega), if_neg (by omega), if_pos e, li_add, ix_nI (by omega) (by omega), h1.2.at (by unfold vtr; omega)]
      · rw [if_neg (by omega), if_neg (by omega), if_neg (by omega), if_neg (by omega), if_pos e, show s (11 + 17 + 2 * t) 4 = V.1 (3954 + t) from hR.at ht (e := (4, 3954)) (by decide)]
        refine ⟨_, rfl, fun s1 h1 => ⟨s1, ?_, RO.refl⟩⟩
        rw [tk, cl_some, if_rbn, if_pos c1, if_neg c2, if_neg (by omega), if_neg (by omega), if_neg (by omega), if_neg (by omega), if_pos e, li_add, ix_nI (by omega) (by omega), h1.2.at (by unfold vtr; omega)]
      · rw [if_neg (by omega), if_neg (by omega), if_neg (by omega), if_neg (by omega), if_neg (by omega), if_pos e, show s (11 + 17 + 2 * t) 5 = V.1 (3961 + t) from hR.at ht (e := (5, 3961)) (by decide)]
        refine ⟨_, rfl, fun s1 h1 => ⟨s1, ?_, RO.refl⟩⟩
        rw [tk, cl_some, if_rbn, if_pos c1, if_neg c2, if_neg (by omega), if_neg (by omega), if_neg (by omega), if_neg (by omega), if_neg (by omega), if_pos e, li_add, ix_nI (by omega) (by omega), h1.2.at (by unfold vtr; omega)]
      · rw [if_neg (by omega), if_neg (by omega), if_neg (by omega), if_neg (by omega), if_neg (by omega), if_neg (by omega), if_pos e, hp, cl_some]
        refine ⟨_, rfl, fun s1 h1 => ⟨s1, ?_, RO.refl⟩⟩
        rw [tk, cl_some, if_rbn, if_pos c1, if_neg c2, if_neg (by omega), if_neg (by omega), if_neg (by omega), if_neg (by omega), if_neg (by omega), if_neg (by omega), if_pos e, q_piecesOf h1.2.2.1 hj.2.1 ht, cl_some]
      · rw [if_neg (by omega), if_neg (by omega), if_neg (by omega), if_neg (by omega), if_neg (by omega), if_neg (by omega), if_neg (by omega), if_pos e, hw, cl_some]
        refine ⟨_, rfl, fun s1 h1 => ⟨s1, ?_, RO.refl⟩⟩
        rw [tk, cl_some, if_rbn, if_pos c1, if_neg c2, if_neg (by omega), if_neg (by omega), if_neg (by omega), if_neg (by omega), if_neg (by omega), if_neg (by omega), if_neg (by omega), if_pos e, q_wordsOf h1.2.2.1 hj.2.1 ht, cl_some]
      · rw [if_neg (by omega), if_neg (by omega), if_neg (by omega), if_neg (by omega), if_neg (by omega), if_neg (by omega), if_neg (by omega), if_neg (by omega), if_pos e, show s (11 + 17 + 2 * t) 7 = V.1 (3989 + t) from hR.at ht (e := (7, 3989)) (by decide)]
        refine ⟨_, rfl, fun s1 h1 => ⟨s1, ?_, RO.refl⟩⟩
        rw [tk, cl_some, if_rbn, if_pos c1, if_neg c2, if_neg (by omega), if_neg (by omega), if_neg (by omega), if_neg (by omega), if_neg (by omega), if_neg (by omega), if_neg (by omega), if_neg (by omega), if_pos e, li_add, ix_nI (by omega) (by omega), h1.2.at (by unfold vtr; omega)]
      · rw [if_neg (by omega), if_neg (by omega), if_neg (by omega), if_neg (by omega), if_neg (by omega), if_neg (by omega), if_neg (by omega), if_neg (by omega), if_neg (by omega), if_pos e, show s (11 + 17 + 2 * t) 8 = V.1 (3996 + t) from hR.at ht (e := (8, 3996)) (by decide)]
        refine ⟨_, rfl, fun s1 h1 => ⟨s1, ?_, RO.refl⟩⟩
        rw [tk, cl_some, if_rbn, if_pos c1, if_neg c2, if_neg (by omega), if_neg (by omega), if_neg (by omega), if_neg (by omega), if_neg (by omega), if_neg (by omega), if_neg (by omega), if_neg (by omega), if_neg (by omega), if_pos e, li_add, ix_nI (by omega) (by omega), h1.2.at (by unfold vtr; omega)]
      · rw [if_neg (by omega), if_neg (by omega), if_neg (by omega), if_neg (by omega), if_neg (by omega), if_neg (by omega), if_neg (by omega), if_neg (by omega), if_neg (by omega), if_neg (by omega), if_pos e, show s (11 + 17 + 2 * t) 9 = V.1 (3975 + t) from hR.at ht (e := (9, 3975)) (by decide)]
        refine ⟨_, rfl, fun s1 h1 => ⟨s1, ?_, RO.refl⟩⟩
        rw [tk, cl_some, if_rbn, if_pos c1, if_neg c2, if_neg (by omega), if_neg (by omega), if_neg (by omega), if_neg (by omega), if_neg (by omega), if_neg (by omega), if_neg (by omega), if_neg (by omega), if_neg (by omega), if_neg (by omega), if_pos e, li_add, ix_nI (by omega) (by omega), h1.2.at (by unfold vtr; omega)]
      · rw [if_neg (by omega), if_neg (by omega), if_neg (by omega), if_neg (by omega), if_neg (by omega), if_neg (by omega), if_neg (by omega), if_neg (by omega), if_neg (by omega), if_neg (by omega), if_neg (by omega), if_pos e]
        rcases hI.2.2.2.2.2 t ht with ⟨hb, n, np', n0, -⟩ | hid
        · have hl : s (11 + 17 + 2 * t) 10 = V.1 (3968 + t) := ((hR.2.2.2.1 t ht).2.1.2 (by omega)).1
          rw [hl]
          refine ⟨_, rfl, fun s1 h1 => ⟨s1, ?_, RO.refl⟩⟩
          rw [tk, cl_some, if_rbn, if_pos c1, if_neg c2, if_neg (by omega), if_neg (by omega), if_neg (by omega), if_neg (by omega), if_neg (by omega), if_neg (by omega), if_neg (by omega), if_neg (by omega), if_neg (by omega), if_neg (by omega), if_neg (by omega), if_pos e, q_busy h1 ht, cl_some, if_rb, if_pos (vby_iff.mpr hb), li_add, ix_nI (by omega) (by omega), h1.2.at (by unfold vtr; omega)]
        · have hl : s (11 + 17 + 2 * t) 10 = -1 := ((hR.2.2.2.1 t ht).2.1.1 hid.1).1
          rw [hl]
          refine ⟨_, rfl, fun s1 h1 => ⟨s1, ?_, RO.refl⟩⟩
          rw [tk, cl_some, if_rbn, if_pos c1, if_neg c2, if_neg (by omega), if_neg (by omega), if_neg (by omega), if_neg (by omega), if_neg (by omega), if_neg (by omega), if_neg (by omega), if_neg (by omega), if_neg (by omega), if_neg (by omega), if_neg (by omega), if_pos e, q_busy h1 ht, cl_some, if_rb, if_neg (fun q => ?_)]
          have hb := vby_iff.mp q
          have := hid.2.2.2.2.2.2.2.1
          rcases hb with hb | hb <;> (rw [hb] at this; revert this; decide)
      · rw [if_neg (by omega), if_neg (by omega), if_neg (by omega), if_neg (by omega), if_neg (by omega), if_neg (by omega), if_neg (by omega), if_neg (by omega), if_neg (by omega), if_neg (by omega), if_neg (by omega), if_neg (by omega), if_pos e, show s (11 + 17 + 2 * t + 1) 3 = V.1 (4003 + t) from hR.as ht (e := (3, 4003)) (by decide)]
        refine ⟨_, rfl, fun s1 h1 => ⟨s1, ?_, RO.refl⟩⟩
        rw [tk, cl_some, if_rbn, if_pos c1, if_neg c2, if_neg (by omega), if_neg (by omega), if_neg (by omega), if_neg (by omega), if_neg (by omega), if_neg (by omega), if_neg (by omega), if_neg (by omega), if_neg (by omega), if_neg (by omega), if_neg (by omega), if_neg (by omega), if_pos e, li_add, ix_nI (by omega) (by omega), h1.2.at (by unfold vtr; omega)]
      · rw [if_neg (by omega), if_neg (by omega), if_neg (by omega), if_neg (by omega), if_neg (by omega), if_neg (by omega), if_neg (by omega), if_neg (by omega), if_neg (by omega), if_neg (by omega), if_neg (by omega), if_neg (by omega), if_neg (by omega), if_pos e, show s (11 + 17 + 2 * t + 1) 4 = V.1 (4010 + t) from hR.as ht (e := (4, 4010)) (by decide)]
        refine ⟨_, rfl, fun s1 h1 => ⟨s1, ?_, RO.refl⟩⟩
        rw [tk, cl_some, if_rbn, if_pos c1, if_neg c2, if_neg (by omega), if_neg (by omega), if_neg (by omega), if_neg (by omega), if_neg (by omega), if_neg (by omega), if_neg (by omega), if_neg (by omega), if_neg (by omega), if_neg (by omega), if_neg (by omega), if_neg (by omega), if_neg (by omega), if_pos e, li_add, ix_nI (by omega) (by omega), h1.2.at (by unfold vtr; omega)]
      · rw [if_neg (by omega), if_neg (by omega), if_neg (by omega), if_neg (by omega), if_neg (by omega), if_neg (by omega), if_neg (by omega), if_neg (by omega), if_neg (by omega), if_neg (by omega), if_neg (by omega), if_neg (by omega), if_neg (by omega), if_neg (by omega), if_pos e, show s (11 + 17 + 2 * t + 1) 5 = V.1 (4017 + t) from hR.as ht (e := (5, 4017)) (by decide)]
        refine ⟨_, rfl, fun s1 h1 => ⟨s1, ?_, RO.refl⟩⟩
        rw [tk, cl_some, if_rbn, if_pos c1, if_neg c2, if_neg (by omega), if_neg (by omega), if_neg (by omega), if_neg (by omega), if_neg (by omega), if_neg (by omega), if_neg (by omega), if_neg (by omega), if_neg (by omega), if_neg (by omega), if_neg (by omega), if_neg (by omega), if_neg (by omega), if_neg (by omega), if_pos e, li_add, ix_nI (by omega) (by omega), h1.2.at (by unfold vtr; omega)]
      · rw [if_neg (by omega), if_neg (by omega), if_neg (by omega), if_neg (by omega), if_neg (by omega), if_neg (by omega), if_neg (by omega), if_neg (by omega), if_neg (by omega), if_neg (by omega), if_neg (by omega), if_neg (by omega), if_neg (by omega), if_neg (by omega), if_neg (by omega), if_pos e, show s (11 + 17 + 2 * t + 1) 6 = V.1 (4024 + t) from hR.as ht (e := (6, 4024)) (by decide)]
        refine ⟨_, rfl, fun s1 h1 => ⟨s1, ?_, RO.refl⟩⟩
        rw [tk, cl_some, if_rbn, if_pos c1, if_neg c2, if_neg (by omega), if_neg (by omega), if_neg (by omega), if_neg (by omega), if_neg (by omega), if_neg (by omega), if_neg (by omega), if_neg (by omega), if_neg (by omega), if_neg (by omega), if_neg (by omega), if_neg (by omega), if_neg (by omega), if_neg (by omega), if_neg (by omega), if_pos e, li_add, ix_nI (by omega) (by omega), h1.2.at (by unfold vtr; omega)]
      · rw [if_neg (by omega), if_neg (by omega), if_neg (by omega), if_neg (by omega), if_neg (by omega), if_neg (by omega), if_neg (by omega), if_neg (by omega), if_neg (by omega), if_neg (by omega), if_neg (by omega), if_neg (by omega), if_neg (by omega), if_neg (by omega), if_neg (by omega), if_neg (by omega), if_pos e, show s (11 + 17 + 2 * t + 1) 7 = V.1 (4031 + t) from hR.as ht (e := (7, 4031)) (by decide)]
        refine ⟨_, rfl, fun s1 h1 => ⟨s1, ?_, RO.refl⟩⟩
        rw [tk, cl_some, if_rbn, if_pos c1, if_neg c2, if_neg (by omega), if_neg (by omega), if_neg (by omega), if_neg (by omega), if_neg (by omega), if_neg (by omega), if_neg (by omega), if_neg (by omega), if_neg (by omega), if_neg (by omega), if_neg (by omega), if_neg (by omega), if_neg (by omega), if_neg (by omega), if_neg (by omega), if_neg (by omega), if_pos e, li_add, ix_nI (by omega) (by omega), h1.2.at (by unfold vtr; omega)]
      · rw [if_neg (by omega), if_neg (by omega), if_neg (by omega), if_neg (by omega), if_neg (by omega), if_neg (by omega), if_neg (by omega), if_neg (by omega), if_neg (by omega), if_neg (by omega), if_neg (by omega), if_neg (by omega), if_neg (by omega), if_neg (by omega), if_neg (by omega), if_neg (by omega), if_neg (by omega), if_pos e, show s (11 + 17 + 2 * t + 1) 8 = V.1 (4038 + t) from hR.as ht (e := (8, 4038)) (by decide)]
        refine ⟨_, rfl, fun s1 h1 => ⟨s1, ?_, RO.refl⟩⟩
        rw [tk, cl_some, if_rbn, if_pos c1, if_neg c2, if_neg (by omega), if_neg (by omega), if_neg (by omega), if_neg (by omega), if_neg (by omega), if_neg (by omega), if_neg (by omega), if_neg (by omega), if_neg (by omega), if_neg (by omega), if_neg (by omega), if_neg (by omega), if_neg (by omega), if_neg (by omega), if_neg (by omega), if_neg (by omega), if_neg (by omega), if_pos e, li_add, ix_nI (by omega) (by omega), h1.2.at (by unfold vtr; omega)]
      · rw [if_neg (by omega), if_neg (by omega), if_neg (by omega), if_neg (by omega), if_neg (by omega), if_neg (by omega), if_neg (by omega), if_neg (by omega), if_neg (by omega), if_neg (by omega), if_neg (by omega), if_neg (by omega), if_neg (by omega), if_neg (by omega), if_neg (by omega), if_neg (by omega), if_neg (by omega), if_neg (by omega), if_pos e, show s (11 + 17 + 2 * t) 6 = V.1 (4045 + t) from hR.at ht (e := (6, 4045)) (by decide)]
        refine ⟨_, rfl, fun s1 h1 => ⟨s1, ?_, RO.refl⟩⟩
        rw [tk, cl_some, if_rbn, if_pos c1, if_neg c2, if_neg (by omega), if_neg (by omega), if_neg (by omega), if_neg (by omega), if_neg (by omega), if_neg (by omega), if_neg (by omega), if_neg (by omega), if_neg (by omega), if_neg (by omega), if_neg (by omega), if_neg (by omega), if_neg (by omega), if_neg (by omega), if_neg (by omega), if_neg (by omega), if_neg (by omega), if_neg (by omega), if_pos e, li_add, ix_nI (by omega) (by omega), h1.2.at (by unfold vtr; omega)]
  · rw [if_neg c1]
    refine ⟨_, rfl, fun s1 h1 => ⟨s1, ?_, RO.refl⟩⟩
    rw [q_isTask, cl_some, if_rbn, if_neg c1])
end
end
