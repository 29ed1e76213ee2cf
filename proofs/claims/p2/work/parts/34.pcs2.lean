/-! ===== the reference takes, logs, gives all ===== -/
def vins (q : vP) : List vP → List vP
  | [] => [q]
  | p :: ps => if q.1 < p.1 then q :: p :: ps else p :: vins q ps
theorem vins_eq {q : vP} : ∀ {ps : List vP} {j : Nat}, j ≤ ps.length → (∀ x p, x < j → ps[x]? = some p → ¬ q.1 < p.1) → (∀ p, ps[j]? = some p → q.1 < p.1) → ps.insertIdx j q = vins q ps := by
  intro ps
  induction ps with
  | nil =>
    intro j hj _ _
    obtain rfl : j = 0 := by simpa using hj
    rfl
  | cons p ps ih =>
    intro j hj h1 h2
    cases j with
    | zero =>
      unfold vins
      rw [if_pos (h2 p rfl)]
      rfl
    | succ j =>
      unfold vins
      rw [if_neg (h1 0 p (by omega) rfl), List.insertIdx_succ_cons, ih (by simpa using hj) (fun x p hx hp => h1 (x + 1) p (by omega) hp) (fun p hp => h2 p hp)]
def rg_put (w : Nat → Int32) (i : Nat) (q : vP) : Nat → Int32 := mj_upd (mj_upd (mj_upd (mj_upd w (2899 + i) (nI q.1)) (3155 + i) (nI q.2.1)) (3411 + i) (nI q.2.2.1)) (3667 + i) (nI q.2.2.2)
theorem rg_put_row {w : Nat → Int32} {i x : Nat} {q q' : vP} (hi : i < 256) (hx : x < 256) (h : if x = i then q' = q else vrow w x q') : vrow (rg_put w i q) x q' := by
  unfold rg_put vrow
  by_cases e : x = i
  · subst e
    rw [if_pos rfl] at h
    subst h
    refine ⟨?_, ?_, ?_, ?_⟩
    · rw [mj_upd_ne (by omega), mj_upd_ne (by omega), mj_upd_ne (by omega), mj_upd_self]
    · rw [mj_upd_ne (by omega), mj_upd_ne (by omega), mj_upd_self]
    · rw [mj_upd_ne (by omega), mj_upd_self]
    · rw [mj_upd_self]
  · rw [if_neg e] at h
    obtain ⟨h1, h2, h3, h4⟩ := h
    refine ⟨?_, ?_, ?_, ?_⟩
    · rw [mj_upd_ne (by omega), mj_upd_ne (by omega), mj_upd_ne (by omega), mj_upd_ne (by omega)]; exact h1
    · rw [mj_upd_ne (by omega), mj_upd_ne (by omega), mj_upd_ne (by omega), mj_upd_ne (by omega)]; exact h2
    · rw [mj_upd_ne (by omega), mj_upd_ne (by omega), mj_upd_ne (by omega), mj_upd_ne (by omega)]; exact h3
    · rw [mj_upd_ne (by omega), mj_upd_ne (by omega), mj_upd_ne (by omega), mj_upd_ne (by omega)]; exact h4
theorem rg_put_ne {w : Nat → Int32} {i x : Nat} {q : vP} (hi : i < 256) (h : x < 2899 ∨ 3923 ≤ x) : rg_put w i q x = w x := by
  unfold rg_put
  rw [mj_upd_ne (by omega), mj_upd_ne (by omega), mj_upd_ne (by omega), mj_upd_ne (by omega)]
theorem q_takes_60 {s : wt_S} {t a words number i : Nat} (hi : i < 256) : gX11_takes_60 s (nI t) (nI a) (nI words) (nI number) (nI i) = some ((), wt_uf s 111 (rg_put (s 111) i (a, words, t, number))) := by
  unfold gX11_takes_60
  simp only [wr_eq]
  rw [li_add, ix_nI (by omega) (by omega), li_add, ix_nI (by omega) (by omega), li_add, ix_nI (by omega) (by omega), li_add, ix_nI (by omega) (by omega)]
  simp only [u_uf, uf_uf, wt_uf_at]
  rfl
theorem nI_pred2 (n : Nat) : nI (n + 1) + (-1) = nI n := by
  rw [nI_succ, Int32.add_assoc, show (1 : Int32) + (-1) = 0 by decide +kernel, Int32.add_zero]
theorem i_sub1 (x : Int32) : x - 1 = x + (-1) := by
  rw [Int32.sub_eq_add_neg]
theorem q_takes_loop {ps : List vP} {t a words number : Nat} (hl : ps.length < 256) (ho : vo 2048 ps) (ha : a < 1000000) : ∀ (i n : Nat) (s : wt_S), i ≤ ps.length → i < n → s 111 2898 = nI (ps.length + 1) → (∀ x q, x < i → ps[x]? = some q → vrow (s 111) x q) → (∀ x q, i ≤ x → ps[x]? = some q → vrow (s 111) (x + 1) q ∧ a < q.1) →
    ∃ w', gX11_takes_22 n s (nI t) (nI a) (nI words) (nI number) (nI i) = some ((), wt_uf s 111 w') ∧ vr_P w' (vins (a, words, t, number) ps) ∧ ∀ q, vout q → w' q = s 111 q := by
  have fin : ∀ i (s : wt_S), i ≤ ps.length → s 111 2898 = nI (ps.length + 1) → (∀ x q, x < i → ps[x]? = some q → vrow (s 111) x q) → (∀ x q, i ≤ x → ps[x]? = some q → vrow (s 111) (x + 1) q ∧ a < q.1) → (∀ x q, x < i → ps[x]? = some q → q.1 ≤ a) →
      vr_P (rg_put (s 111) i (a, words, t, number)) (vins (a, words, t, number) ps) ∧ ∀ q, vout q → rg_put (s 111) i (a, words, t, number) q = s 111 q := by
    intro i s h0 h1 h2 h3 h5
    refine ⟨?_, fun q hq => rg_put_ne (by omega) (by unfold vout at hq; omega)⟩
    rw [← vins_eq h0 (fun x p hx hp => by have := h5 x p hx hp; show ¬ a < p.1; omega) (fun p hp => (h3 i p (Nat.le_refl _) hp).2)]
    refine ⟨?_, ?_, ?_⟩
    · rw [rg_put_ne (by omega) (by omega), h1, List.length_insertIdx_of_le_length h0]
    · rw [List.length_insertIdx_of_le_length h0]; omega
    · intro x q hx
      have hx2 := (List.getElem?_eq_some_iff.mp hx).1
      rw [List.length_insertIdx_of_le_length h0] at hx2
      refine rg_put_row (by omega) (by omega) ?_
      rw [List.getElem?_insertIdx] at hx
      by_cases e1 : x < i
      · rw [if_pos e1] at hx
        rw [if_neg (by omega)]
        exact h2 x q e1 hx
      · rw [if_neg e1] at hx
        by_cases e2 : x = i
        · rw [if_pos e2, if_pos (by omega)] at hx
          rw [if_pos e2]
          exact (Option.some.inj hx).symm
        · rw [if_neg e2] at hx
          rw [if_neg e2]
          have := (h3 (x - 1) q (by omega) hx).1
          rw [Nat.sub_add_cancel (by omega)] at this
          exact this
  intro i
  induction i with
  | zero =>
    intro n s h0 hn h1 h2 h3
    obtain ⟨n, rfl⟩ : ∃ m, n = m + 1 := ⟨n - 1, by omega⟩
    refine ⟨_, ?_, fin 0 s h0 h1 h2 h3 (fun x q hx => absurd hx (by omega))⟩
    unfold gX11_takes_22
    rw [nI_int (by omega), if_pos (by decide), q_takes_60 (by omega)]
  | succ i ih =>
    intro n s h0 hn h1 h2 h3
    obtain ⟨n, rfl⟩ : ∃ m, n = m + 1 := ⟨n - 1, by omega⟩
    obtain ⟨q0, hq0⟩ : ∃ q, ps[i]? = some q := ⟨_, List.getElem?_eq_getElem (by omega)⟩
    have hr0 := h2 i q0 (by omega) hq0
    have hb0 := ho.2 q0 (List.mem_of_getElem? hq0)
    have e0 : (2899 + nI (i + 1)) - 1 = nI (2899 + i) := by rw [li_add, li_sub (by omega)]; rfl
    have ec : ¬ (nI (i + 1)).toInt ≤ (0 : Int32).toInt := by rw [nI_int (by omega)]; show ¬ ((i + 1 : Nat) : Int) ≤ 0; omega
    by_cases c : q0.1 ≤ a
    · refine ⟨_, ?_, fin (i + 1) s h0 h1 h2 h3 (fun x q hx hq => ?_)⟩
      · unfold gX11_takes_22
        rw [if_neg ec, e0, ix_nI (by omega) (by omega), hr0.1, nI_int (by omega), nI_int (by omega), if_pos (by omega), q_takes_60 (by omega)]
      · by_cases ex : x = i
        · subst ex
          rw [hq0] at hq
          cases hq
          exact c
        · have := (List.pairwise_iff_getElem.mp ho.1) x i (by omega) (by omega) (by omega)
          rw [List.getElem?_eq_getElem (by omega)] at hq hq0
          rw [Option.some.inj hq, Option.some.inj hq0] at this
          omega
    · have sh := rg_shift_at (w := s 111) (i := i + 1) (j := i) (by omega) (by omega)
      obtain ⟨w', e1, e2, e3⟩ := ih n (wt_uf s 111 (rg_shift (s 111) (i + 1) i)) (by omega) (by omega)
        (by rw [wt_uf_at, sh.2.2.2.2 2898 (by omega) (by omega) (by omega) (by omega)]; exact h1)
        (fun x q hx hq => by
          rw [wt_uf_at]
          exact vshift_row (by omega) (by omega) (by omega) (by rw [if_neg (by omega)]; exact h2 x q (by omega) hq))
        (fun x q hx hq => by
          rw [wt_uf_at]
          have hx2 := (List.getElem?_eq_some_iff.mp hq).1
          by_cases e : x = i
          · subst e
            rw [hq0] at hq
            cases hq
            exact ⟨vshift_row (by omega) (by omega) (by omega) (by rw [if_pos rfl]; exact hr0), by omega⟩
          · have := h3 x q (by omega) hq
            exact ⟨vshift_row (by omega) (by omega) (by omega) (by rw [if_neg (by omega)]; exact this.1), this.2⟩)
      refine ⟨w', ?_, e2, fun q hq => ?_⟩
      · unfold gX11_takes_22
        rw [if_neg ec, e0, ix_nI (by omega) (by omega), hr0.1, nI_int (by omega), nI_int (by omega), if_neg (by omega), li_sub (by omega), Nat.add_sub_cancel, q_shifts (by omega) (by omega), cl_some, nI_pred2, e1, uf_uf]
      · rw [e3 q hq, wt_uf_at]
        unfold vout at hq
        exact sh.2.2.2.2 q (by omega) (by omega) (by omega) (by omega)
theorem q_takes {s : wt_S} {ps : List vP} {t a words number : Nat} (hP : vr_P (s 111) ps) (ho : vo 2048 ps) (hl : ps.length < 256) (ha : a < 1000000) : ∃ w', gX11_takes s (nI t) (nI a) (nI words) (nI number) = some ((), wt_uf s 111 w') ∧ vr_P w' (vins (a, words, t, number) ps) ∧ ∀ q, vout q → w' q = s 111 q := by
  obtain ⟨h1, h2, h3⟩ := hP
  obtain ⟨w', e1, e2, e3⟩ := q_takes_loop (t := t) (words := words) (number := number) hl ho ha ps.length wt_N (wt_uf s 111 (mj_upd (s 111) 2898 (nI (ps.length + 1)))) (Nat.le_refl _) (by unfold wt_N; omega)
    (by rw [wt_uf_at, mj_upd_self])
    (fun x q hx hq => by
      rw [wt_uf_at]
      exact vrow_upd (by omega) (by omega) (h3 x q hq))
    (fun x q hx hq => absurd (List.getElem?_eq_some_iff.mp hq).1 (by omega))
  refine ⟨w', ?_, e2, fun q hq => ?_⟩
  · unfold gX11_takes
    rw [wr_eq, h1, nI_1, u_uf, e1, uf_uf]
  · rw [e3 q hq, wt_uf_at]
    unfold vout at hq
    exact mj_upd_ne (by omega)
/-! ### the log: only how many came is kept in mind -/
def vlg (i : Nat) : Prop := i < 2067 ∨ 2228 ≤ i
def rg_lg (w : Nat → Int32) (k : Nat) (a b c d : Int32) : Nat → Int32 := mj_upd (mj_upd (mj_upd (mj_upd w (2068 + 4 * k) a) (2068 + 4 * k + 1) b) (2068 + 4 * k + 2) c) (2068 + 4 * k + 3) d
theorem q_logs_84 {s : wt_S} {a b c d : Int32} {k : Nat} (hk : k < 40) : ∃ w', gX11_logs_84 s a b c d 2068 4 (nI k) = some ((), wt_uf s 111 w') ∧ w' 2067 = s 111 2067 + 1 ∧ ∀ i, vlg i → w' i = s 111 i := by
  refine ⟨mj_upd (rg_lg (s 111) k a b c d) 2067 (rg_lg (s 111) k a b c d 2067 + 1), ?_, ?_, ?_⟩
  · unfold gX11_logs_84
    simp only [wr_eq]
    rw [li_mul, li_add, ix_nI (by omega) (by omega), li_add2, ix_nI (by omega) (by omega), li_add2, ix_nI (by omega) (by omega), li_add2, ix_nI (by omega) (by omega)]
    simp only [u_uf, uf_uf, wt_uf_at]
    rfl
  · unfold rg_lg
    rw [mj_upd_self, mj_upd_ne (by omega), mj_upd_ne (by omega), mj_upd_ne (by omega), mj_upd_ne (by omega)]
  · intro i hi
    unfold rg_lg
    unfold vlg at hi
    rw [mj_upd_ne (by omega), mj_upd_ne (by omega), mj_upd_ne (by omega), mj_upd_ne (by omega), mj_upd_ne (by omega)]
theorem q_logs_54 {s : wt_S} {a b c0 d : Int32} {k : Nat} (h : s 111 2067 = nI k) (hk : k < 2147483648) : ∃ w', gX11_logs_54 s a b c0 d = some ((), wt_uf s 111 w') ∧ w' 2067 = s 111 2067 + 1 ∧ ∀ i, vlg i → w' i = s 111 i := by
  by_cases hc : 40 ≤ k
  · obtain ⟨w', e1, e2⟩ := q_logs_84 (s := s) (a := a) (b := b) (c := c0) (d := d) (k := 39) (by omega)
    refine ⟨w', ?_, e2⟩
    unfold gX11_logs_54
    rw [if_pos (by rw [h, nI_int hk]; show (40 : Int) ≤ k; omega)]
    exact e1
  · obtain ⟨w', e1, e2⟩ := q_logs_84 (s := s) (a := a) (b := b) (c := c0) (d := d) (k := k) (by omega)
    refine ⟨w', ?_, e2⟩
    unfold gX11_logs_54
    rw [if_neg (by rw [h, nI_int hk]; show ¬ (40 : Int) ≤ k; omega), h]
    exact e1
theorem q_logs_16 {a b c d : Int32} {k : Nat} (hk : k < 2147483648) : ∀ (m x n : Nat) (s : wt_S), x + m = 160 → m < n → 4 ≤ x → s 111 2067 = nI k → ∃ w', gX11_logs_16 n s a b c d (nI x) = some ((), wt_uf s 111 w') ∧ w' 2067 = s 111 2067 + 1 ∧ ∀ i, vlg i → w' i = s 111 i := by
  intro m
  induction m with
  | zero =>
    intro x n s hx hn h4 h
    obtain ⟨n, rfl⟩ : ∃ m, n = m + 1 := ⟨n - 1, by omega⟩
    unfold gX11_logs_16
    rw [nI_int (by omega), if_pos (by show (160 : Int) ≤ x; omega)]
    exact q_logs_54 h hk
  | succ m ih =>
    intro x n s hx hn h4 h
    obtain ⟨n, rfl⟩ : ∃ m, n = m + 1 := ⟨n - 1, by omega⟩
    unfold gX11_logs_16
    rw [nI_int (by omega), if_neg (by show ¬ (160 : Int) ≤ x; omega), li_add, ix_nI (by omega) (by omega), li_sub (by omega), ix_nI (by omega) (by omega), wr_eq, u_uf, nI_1]
    obtain ⟨w', e1, e2, e3⟩ := ih (x + 1) n (wt_uf s 111 (mj_upd (s 111) (2068 + x - 4) (s 111 (2068 + x)))) (by omega) (by omega) (by omega) (by rw [wt_uf_at, mj_upd_ne (by omega)]; exact h)
    refine ⟨w', by rw [e1, uf_uf], ?_, fun i hi => ?_⟩
    · rw [e2, wt_uf_at, mj_upd_ne (by omega)]
    · rw [e3 i hi, wt_uf_at]
      unfold vlg at hi
      exact mj_upd_ne (by omega)
theorem q_logs {s : wt_S} {a b c d : Int32} {k : Nat} (h : s 111 2067 = nI k) (hk : k < 2147483648) : ∃ w', gX11_logs s a b c d = some ((), wt_uf s 111 w') ∧ w' 2067 = s 111 2067 + 1 ∧ ∀ i, vlg i → w' i = s 111 i := by
  unfold gX11_logs
  split
  · exact q_logs_54 h hk
  · exact q_logs_16 hk 156 4 wt_N s rfl (by unfold wt_N; omega) (by omega) h
