/-! ===== the law's loop: it answers 1 (written by wip/p2/gen_yl.py) ===== -/
theorem law_image {L F B : Nat} {s : wt_S} {l3 v : Int32} {P : Int32 → wt_S → Prop} {K : wt_S → Int32 → Option (Int32 × wt_S)} (h : LJ F B s) (hl : 0 ≤ (l3 + 1).toInt ∧ (l3 + 1).toInt < L) (hv : ∀ k, k < L → (l3 + 1).toInt = k → v = if s 0 k = 0 then 0 else 1) (hK : ∀ s', LJ F B s' → Ok P (K s' (l3 + 6))) : Ok P (gL_law_961 L K s l3 v) := by
  unfold gL_law_961 gL_law_979
  obtain ⟨r, s1, r2, s2, e1, e2, e3, e4, e5⟩ := lo_image (a := v) h
  rw [e1, cl_some]
  refine ok_ix hl.1 hl.2 (fun k kl ke => ?_)
  have ev := hv k kl ke
  have e3 : gX11_image s1 v = some (r2, s2) := e3
  rw [e2]
  by_cases c : s 0 k = 0
  · rw [if_pos c] at ev ⊢
    subst ev
    rw [e3, cl_some]
    exact hK s2 e5
  · rw [if_neg c] at ev ⊢
    subst ev
    rw [e3, cl_some]
    exact hK s2 e5
theorem law_o_image {L n F B : Nat} {s : wt_S} {l3 : Int32} {P : Int32 → wt_S → Prop} (hL : L ≤ 3072) (hl : 0 ≤ l3.toInt ∧ l3.toInt + 6 ≤ L) (h : LJ F B s) (go : ∀ s', LJ (F + 2401800) (B + 2400) s' → Ok P (gL_law_18 L n s' (l3 + 6))) : Ok P (wt_ix (l3 + 1) L fun k1 => (if (s 0 k1) = (0 : Int32) then gL_law_961 L (gL_law_18 L n) s l3 0 else gL_law_961 L (gL_law_18 L n) s l3 1)) := by
  have x1 : (l3 + 1).toInt = l3.toInt + 1 := i_addn (x := l3) (by omega) 1 (by omega)
  refine ok_ix (by omega) (by omega) (fun j1 j1l j1e => ?_)
  have gi : ∀ s', LJ F B s' → Ok P (gL_law_18 L n s' (l3 + 6)) := fun s' h' => go s' (h'.mono (Nat.le_add_right _ _) (Nat.le_add_right _ _))
  exact ok_if (fun c => law_image h (by omega) (fun k _ ke => by rw [show k = j1 by omega, if_pos c]) gi) (fun c => law_image h (by omega) (fun k _ ke => by rw [show k = j1 by omega, if_neg c]) gi)
theorem law_loop {L : Nat} (hL : L ≤ 3072) : ∀ (m fu F B : Nat) (s : wt_S) (l3 : Int32), m < fu → 0 ≤ l3.toInt → (L : Int) ≤ l3.toInt + 6 * m + 5 → LJ F B s → F + 2401800 * m ≤ 1999990000 → B + 2400 * m ≤ 2147200000 → Ok (fun r _ => r = 1) (gL_law_18 L fu s l3) := by
  have l6 : ((Int32.ofInt (Int.ofNat L)) - 6).toInt = (L : Int) - 6 := by
    rw [Int32.toInt_sub, show Int32.ofInt (Int.ofNat L) = nI L from Int32.ofInt_eq_ofNat, nI_int (by omega)]
    show ((L : Int) - 6).bmod _ = _
    rw [Int.bmod_eq_of_le]
    · simp; omega
    · simp; omega
  intro m
  induction m with
  | zero =>
    intro fu F B s l3 hf h0 hl h hF hB
    cases fu with
    | zero => omega
    | succ n =>
      rw [gL_law_18]
      exact ok_if (fun _ => ok_some rfl) (fun c => by exfalso; omega)
  | succ m ih =>
    intro fu F B s l3 hf h0 hl h hF hB
    cases fu with
    | zero => omega
    | succ n =>
      rw [gL_law_18]
      refine ok_if (fun _ => ok_some rfl) (fun c => ?_)
      rw [Nat.mul_succ] at hF hB
      generalize 2401800 * m = M at *
      generalize 2400 * m = M2 at *
      have hF1 : F + 2401800 ≤ 1999990000 := Nat.le_trans (Nat.add_le_add_left (Nat.le_add_left 2401800 M) F) hF
      have hF2 : F + 2401800 + M ≤ 1999990000 := by rw [Nat.add_assoc, Nat.add_comm 2401800 M]; exact hF
      have hB2 : B + 2400 + M2 ≤ 2147200000 := by rw [Nat.add_assoc, Nat.add_comm 2400 M2]; exact hB
      have hB1 : B + 2400 ≤ 2147200000 := Nat.le_trans (Nat.le_add_right _ M2) hB2
      have x6 : (l3 + 6).toInt = l3.toInt + 6 := i_addn (x := l3) (by omega) 6 (by omega)
      have hl6 : 0 ≤ l3.toInt ∧ l3.toInt + 6 ≤ L := by omega
      have go : ∀ s', LJ (F + 2401800) (B + 2400) s' → Ok (fun r _ => r = 1) (gL_law_18 L n s' (l3 + 6)) := fun s' h' => ih n _ _ s' _ (by omega) (by omega) (by omega) h' hF2 hB2
      refine ok_ix (by omega) (by omega) (fun k1 _ _ => ?_)
      generalize s 0 k1 &&& 31 = cd
      refine ok_if (fun _ => go s (h.mono (Nat.le_add_right _ _) (Nat.le_add_right _ _))) (fun c0 => ?_)
      refine ok_if (fun _ => ?_) (fun _ => ?_)
      · exact law_o_set hL hl6 hF1 hB1 h go
      refine ok_if (fun _ => ?_) (fun _ => ?_)
      · exact law_o_function hL hl6 hF1 hB1 h go
      refine ok_if (fun _ => ?_) (fun _ => ?_)
      · exact law_o_line hL hl6 hF1 hB1 h go
      refine ok_if (fun _ => ?_) (fun _ => ?_)
      · exact law_o_start hL hl6 hF1 hB1 h go
      refine ok_if (fun _ => ?_) (fun _ => ?_)
      · exact law_o_step hL hl6 hF1 hB1 h go
      refine ok_if (fun _ => ?_) (fun _ => ?_)
      · exact law_o_round hL hl6 hF1 hB1 h go
      refine ok_if (fun _ => ?_) (fun _ => ?_)
      · exact law_o_stop hL hl6 hF1 hB1 h go
      refine ok_if (fun _ => ?_) (fun _ => ?_)
      · exact law_o_quiet hL hl6 hF1 hB1 h go
      refine ok_if (fun _ => ?_) (fun _ => ?_)
      · exact law_o_join hL hl6 hF1 hB1 h go
      refine ok_if (fun _ => ?_) (fun _ => ?_)
      · exact law_o_compact hL hl6 hF1 hB1 h go
      refine ok_if (fun _ => ?_) (fun _ => ?_)
      · exact law_o_deep hL hl6 hF1 hB1 h go
      refine ok_if (fun _ => ?_) (fun _ => ?_)
      · exact law_o_need hL hl6 hF1 hB1 h go
      refine ok_if (fun _ => ?_) (fun _ => ?_)
      · exact law_o_task hL hl6 hF1 hB1 h go
      refine ok_if (fun _ => ?_) (fun _ => ?_)
      · exact law_o_frame hL hl6 hF1 hB1 h go
      refine ok_if (fun _ => ?_) (fun _ => ?_)
      · exact law_o_slot hL hl6 hF1 hB1 h go
      refine ok_if (fun _ => ?_) (fun _ => ?_)
      · exact law_o_piece hL hl6 hF1 hB1 h go
      refine ok_if (fun _ => ?_) (fun _ => ?_)
      · exact law_o_gap hL hl6 hF1 hB1 h go
      refine ok_if (fun _ => ?_) (fun _ => ?_)
      · exact law_o_endless hL hl6 hF1 hB1 h go
      refine ok_if (fun _ => ?_) (fun _ => ?_)
      · exact law_e_land hL hl6 hF1 hB1 h go
      refine ok_if (fun _ => ?_) (fun _ => ?_)
      · exact law_o_alone hL hl6 hF1 hB1 h go
      refine ok_if (fun _ => ?_) (fun _ => ?_)
      · exact law_o_log hL hl6 hF1 hB1 h go
      refine ok_if (fun _ => ?_) (fun _ => ?_)
      · exact law_o_never hL hl6 hF1 hB1 h go
      refine ok_if (fun _ => ?_) (fun _ => ?_)
      · exact law_o_count hL hl6 hF1 hB1 h go
      refine ok_if (fun _ => ?_) (fun _ => ?_)
      · exact law_o_image hL hl6 h go
      refine ok_if (fun _ => ?_) (fun _ => ?_)
      · exact law_o_look hL hl6 hF1 hB1 h go
      exfalso; omega
