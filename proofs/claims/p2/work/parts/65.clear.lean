/-! ===== the reference: a task's places are cleared; stop ===== -/
def vck (w : Nat → Int32) (t k : Nat) : Nat → Int32 := fun i => if 3926 + 7 * k ≤ i ∧ i < 4073 ∧ (i - 3926) % 7 = t then 0 else w i
def vcr (V : vV) (t : Nat) : vV := vs (vs (vck V.1 t 0, V.2) (3989 + t) (-1)) (3975 + t) (-1)
def vsto (V : vV) (x : Int32) : Int32 × vV := if 0 ≤ x.toInt ∧ x.toInt ≤ 5 then (if V.1 (3926 + x.toInt.toNat) ≠ 0 then (1, vcr (vga V x.toInt.toNat) x.toInt.toNat) else (0, V)) else (0, V)
section
variable {s : wt_S} {V : vV} {t : Nat}
theorem wt_uf_id : wt_uf s 111 (s 111) = s := by
  funext b
  unfold wt_uf
  split
  · rename_i e; rw [e]
  · rfl
theorem vck_21 {w : Nat → Int32} : vck w t 21 = w := by
  funext i
  unfold vck
  rw [if_neg (by omega)]
theorem vck_s {w : Nat → Int32} {k : Nat} (ht : t < 6) (hk : k < 21) : vck (mj_upd w (3926 + 7 * k + t) 0) t (k + 1) = vck w t k := by
  funext i
  unfold vck
  by_cases e : i = 3926 + 7 * k + t
  · subst e
    rw [if_neg (by omega), if_pos (by omega), mj_upd_self]
  · rw [mj_upd_ne e]
    by_cases c : 3926 + 7 * k ≤ i ∧ i < 4073 ∧ (i - 3926) % 7 = t
    · rw [if_pos c, if_pos (by omega)]
    · rw [if_neg c, if_neg (by omega)]
theorem q_clears_loop (ht : t < 6) : ∀ (r k n : Nat) (s : wt_S), k + r = 21 → r < n → gX11_clears_4 n s (nI t) (nI (3926 + 7 * k)) = some ((), wt_u (wt_u (wt_uf s 111 (vck (s 111) t k)) 111 (3989 + t) (-1)) 111 (3975 + t) (-1)) := by
  intro r
  induction r with
  | zero =>
    intro k n s hk hn
    obtain ⟨m, rfl⟩ : ∃ m, n = m + 1 := ⟨n - 1, by omega⟩
    have : k = 21 := by omega
    subst this
    unfold gX11_clears_4
    rw [if_pos (by rw [nI_int (by omega)]; decide), li_add, ix_nI (by omega) (by omega), wr_eq, li_add, ix_nI (by omega) (by omega), wr_eq, vck_21, wt_uf_id]
  | succ r ih =>
    intro k n s hk hn
    obtain ⟨m, rfl⟩ : ∃ m, n = m + 1 := ⟨n - 1, by omega⟩
    unfold gX11_clears_4
    rw [if_neg (by rw [nI_int (by omega)]; show ¬ (4073 : Int) ≤ _; omega), nI_add, ix_nI (by omega) (by omega), wr_eq, li_add2, show 3926 + 7 * k + 7 = 3926 + 7 * (k + 1) by omega, ih (k + 1) m _ (by omega) (by omega)]
    simp only [u_uf, wt_uf_at, uf_uf, vck_s ht (show k < 21 by omega)]
theorem q_clears (ht : t < 6) : gX11_clears s (nI t) = some ((), wt_u (wt_u (wt_uf s 111 (vck (s 111) t 0)) 111 (3989 + t) (-1)) 111 (3975 + t) (-1)) :=
  q_clears_loop ht 21 0 wt_N s rfl (by unfold wt_N; omega)
theorem RS.cr (h : RS s V) (ht : t < 6) : RS (wt_u (wt_u (wt_uf s 111 (vck (s 111) t 0)) 111 (3989 + t) (-1)) 111 (3975 + t) (-1)) (vcr V t) := by
  have h1 : RS (wt_uf s 111 (vck (s 111) t 0)) (vck V.1 t 0, V.2) := by
    refine h.uf (h.2.mk' (fun i hi => ?_) (vr_P_eq (fun i h1 h2 => ?_) h.2.2.1) (fun p hp => ?_) (fun mm hm t' ht' => MR_w (fun j h1 h2 => ?_) (hm t' ht')))
    · show vck (s 111) t 0 i = vck V.1 t 0 i
      unfold vck
      rw [h.2.at hi]
    · unfold vck
      rw [if_neg (by omega)]
    · unfold vck
      rw [if_neg (by omega)]
    · show vck V.1 t 0 j = V.1 j
      unfold vck
      rw [if_neg (by omega)]
  exact (h1.u (vtt (c := 3989) (by omega) ht) (Or.inr (by omega))).u (vtt (c := 3975) (by omega) ht) (Or.inr (by omega))
theorem RF.cr : RF s (wt_u (wt_u (wt_uf s 111 (vck (s 111) t 0)) 111 (3989 + t) (-1)) 111 (3975 + t) (-1)) := RF.trans (RF.uf (Or.inl rfl)) (RF.trans (RF.uf (Or.inl rfl)) (RF.uf (Or.inl rfl)))
theorem VI.sid {lim B : Nat} (hI : VI lim B V) (ht : t < 6) : V.1 (3989 + t) = -1 ∨ ∃ k, k < 3 ∧ V.1 (3989 + t) = nI k := by
  rcases hI.2.2.2.2.2 t ht with ⟨b1, b2⟩ | b
  · obtain ⟨n, np, -, -, -, -, -, -, -, -, -, -, -, -, -, -, -, c16, -⟩ := b2
    rcases c16 with c | ⟨k, k1, k2, -⟩
    · exact Or.inl c.1
    · exact Or.inr ⟨k, k1, k2⟩
  · exact Or.inl b.2.2.2.2.2.1
theorem q_stop {B : Nat} {x : Int32} (h : RS s V) (hI : VI 2048 B V) : ∃ s', gX11_stop s x = some ((vsto V x).1, s') ∧ RS s' (vsto V x).2 ∧ RF s s' := by
  unfold gX11_stop vsto
  rw [q_isTask, cl_some]
  by_cases c : 0 ≤ x.toInt ∧ x.toInt ≤ 5
  · obtain ⟨t, t1, rfl⟩ := nI_ex c.1
    have t2 := c.2
    rw [nI_int t1] at t2
    have ht : t < 6 := by omega
    have htn : (nI t).toInt.toNat = t := by rw [nI_int t1]; rfl
    rw [if_pos c, htn, if_neg (by unfold rb; rw [if_pos c]; decide), li_add, ix_nI (by omega) (by omega), h.tk (c := 3926) (by omega) ht]
    by_cases d : V.1 (3926 + t) ≠ 0
    · rw [if_pos d, if_pos d]
      obtain ⟨s1, e1, e2, e3⟩ := q_ga hI.J rfl h ht (hI.sid ht)
      rw [e1, cl_some, q_clears ht, cl_some]
      exact ⟨_, rfl, e2.cr ht, RF.trans e3 RF.cr⟩
    · rw [if_neg d, if_neg d]
      exact ⟨s, rfl, h, RF.refl⟩
  · rw [if_neg c, if_pos (by unfold rb; rw [if_neg c])]
    exact ⟨s, rfl, h, RF.refl⟩
end
