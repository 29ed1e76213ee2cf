/-! ===== the reference turns all frames of a task; carries parts; goals ===== -/
section
variable {W : Nat → Int32} {n : Nat} {fr : Nat → vF} {pl pl' : Nat → Nat} {s0 : wt_S} {t : Nat}
theorem q_turns_49 (hT : TH W n fr pl' pl pl' 2048) (hG : GO s0 W n fr pl pl') (ht : t < 6) (hn : n < 5000) : ∀ (i fu : Nat) (w : Nat → Int32), i < n → i < fu → w (3954 + t) = nI n → (∀ f, f < 10 → w (2228 + f) = W (2228 + f) ∧ w (2238 + f) = W (2238 + f)) → TQ w W n fr pl' pl pl' i 0 →
    ∃ w', gX11_turns_49 fu (wt_uf s0 111 w) (nI t) (nI (pl' i)) (nI (fr i).1) (nI (n - 1 - i)) = some ((), wt_uf s0 111 w') ∧ vMQ w' W n fr pl' pl' ∧ (∀ x, 2048 ≤ x → w' x = w x) ∧ (∀ x, (∀ j, j < n → x < pl' j ∨ pl' j + vwd W (fr j).1 ≤ x) → w' x = w x) := by
  intro i
  induction i with
  | zero =>
    intro fu w hi hfu hF hp hq
    obtain ⟨fu, rfl⟩ : ∃ m, fu = m + 1 := ⟨fu - 1, by omega⟩
    have hz := (hT.1.sz (hT.2.1 0 hi).1).2
    obtain ⟨w', a1, a2, a3⟩ := q_turns_67 (t := t) (K := gX11_turns_49 fu) hT hG hi (m1 := nI (n - 1 - 0)) (vsz W (fr 0).1) 0 wt_N w (by omega) (by unfold wt_N; omega) hp hq
    rw [if_pos rfl] at a3
    refine ⟨w', ?_, TQ.fin hi a3.1, a1, a2⟩
    rw [gX11_turns_49, li_add, ix_nI (by omega) (by omega), wt_uf_at, hF, nI_int (by omega), nI_int (by omega), if_neg (by omega)]
    exact a3.2
  | succ i ih =>
    intro fu w hi hfu hF hp hq
    obtain ⟨fu, rfl⟩ : ∃ m, fu = m + 1 := ⟨fu - 1, by omega⟩
    have hz := (hT.1.sz (hT.2.1 (i + 1) hi).1).2
    obtain ⟨w', a1, a2, a3⟩ := q_turns_67 (t := t) (K := gX11_turns_49 fu) hT hG hi (m1 := nI (n - 1 - (i + 1))) (vsz W (fr (i + 1)).1) 0 wt_N w (by omega) (by unfold wt_N; omega) hp hq
    rw [if_neg (by omega)] at a3
    obtain ⟨w2, b1, b2, b3, b4⟩ := ih fu w' (by omega) (by omega) (by rw [a1 _ (by omega)]; exact hF) (fun f hf => by rw [a1 _ (by omega), a1 _ (by omega)]; exact hp f hf) a3.1
    refine ⟨w2, ?_, b2, fun x hx => by rw [b3 x hx, a1 x hx], fun x hx => by rw [b4 x hx, a2 x hx]⟩
    rw [gX11_turns_49, li_add, ix_nI (by omega) (by omega), wt_uf_at, hF, nI_int (by omega), nI_int (by omega), if_neg (by omega)]
    refine a3.2.trans ?_
    rw [nI_1, show n - 1 - (i + 1) + 1 = n - 1 - i by omega]
    exact b1
theorem q_turns {s : wt_S} (hT : TH W n fr pl' pl pl' 2048) (hG : GO s W n fr pl pl') (ht : t < 6) (hn : 0 < n ∧ n < 5000) (h1 : s 111 (3954 + t) = nI n) (h2 : s 111 (3982 + t) = nI (pl (n - 1))) (h3 : s 111 (3975 + t) = nI (fr (n - 1)).1) (hp : ∀ f, f < 10 → s 111 (2228 + f) = W (2228 + f) ∧ s 111 (2238 + f) = W (2238 + f)) (hq : vMQ (s 111) W n fr pl' pl) :
    ∃ w', gX11_turns s (nI t) = some ((), wt_uf s 111 w') ∧ vMQ w' W n fr pl' pl' ∧ w' (3982 + t) = nI (pl' (n - 1)) ∧ (∀ x, 2048 ≤ x → x ≠ 3982 + t → w' x = s 111 x) ∧ (∀ x, x < 2048 → (∀ j, j < n → x < pl' j ∨ pl' j + vwd W (fr j).1 ≤ x) → w' x = s 111 x) := by
  have hg := hG (s 111) (n - 1) (by omega) 0 (by unfold vwd; omega)
  rw [uf_self, Nat.add_zero, Nat.add_zero] at hg
  have hf := hT.2.1 (n - 1) (by omega)
  have hin : ∀ x, 2048 ≤ x → ∀ j, j < n → x < pl' j ∨ pl' j + vwd W (fr j).1 ≤ x := fun x hx j hj => by have := (hT.2.1 j hj).2; omega
  obtain ⟨w', a1, a2, a3, a4⟩ := q_turns_49 (s0 := s) hT hG ht hn.2 (n - 1) wt_N (mj_upd (s 111) (3982 + t) (nI (pl' (n - 1)))) (by omega) (by unfold wt_N; omega) (by rw [mj_upd_ne (by omega)]; exact h1) (fun f hf => by rw [mj_upd_ne (by omega), mj_upd_ne (by omega)]; exact hp f hf)
    (TQ.start (fun i hi => by
      obtain ⟨q1, q2, q3⟩ := hq i hi
      have := (hT.2.1 i hi).2
      unfold vwd at this
      exact ⟨by rw [mj_upd_ne (by omega)]; exact q1, by rw [mj_upd_ne (by omega)]; exact q2, fun k hk => by rw [mj_upd_ne (by omega)]; exact q3 k hk⟩))
  refine ⟨w', ?_, a2, by rw [a3 _ (by omega), mj_upd_self], fun x hx hx2 => by rw [a3 x hx, mj_upd_ne hx2], fun x hx hx2 => by rw [a4 x hx2, mj_upd_ne (by omega)]⟩
  unfold gX11_turns
  rw [li_add, ix_nI (by omega) (by omega), h2, hg, cl_some, ix_nI (by omega) (by omega), wr_eq, u_uf, ix_nI (by omega) (by omega), li_add, ix_nI (by omega) (by omega), wt_uf_at, mj_upd_self, mj_upd_ne (by omega), h3]
  rw [show n - 1 - (n - 1) = 0 by omega] at a1
  exact a1
end
/-! ### parts: from, how many, to -/
abbrev vT : Type := Nat × Nat × Nat
def PT (s : wt_S) (pt : List vT) : Prop := s 110 9 = nI pt.length ∧ pt.length ≤ 256 ∧ ∀ k q, pt[k]? = some q → s 115 k = nI q.1 ∧ s 116 k = nI q.2.1 ∧ s 117 k = nI q.2.2
theorem PT.uf {s : wt_S} {pt : List vT} {w : Nat → Int32} (h : PT s pt) : PT (wt_uf s 111 w) pt := by
  unfold PT
  rw [wt_uf_ne (by omega), wt_uf_ne (by omega), wt_uf_ne (by omega), wt_uf_ne (by omega)]
  exact h
def vin (p : Nat) (q : vT) : Bool := decide (q.1 ≤ p ∧ p < q.1 + q.2.1)
def vgo (pt : List vT) (p : Nat) : Nat := match pt.find? (vin p) with
  | some q => q.2.2 + (p - q.1)
  | none => p
theorem sub1_int {a : Nat} (h : a < 2147483648) : (nI a - 1).toInt = (a : Int) - 1 := by
  cases a with
  | zero => decide
  | succ a =>
    rw [li_sub (by omega), nI_int (by omega)]
    show ((a + 1 - 1 : Nat) : Int) = _
    omega
theorem q_goalOf {s : wt_S} {pt : List vT} {p : Nat} (h : PT s pt) (hb : ∀ q ∈ pt, q.1 < 100000 ∧ q.2.1 < 100000 ∧ q.2.2 < 100000) (hp : p < 100000) : gX11_goalOf s (nI p) = some (nI (vgo pt p), s) := by
  obtain ⟨h1, h2, h3⟩ := h
  have loop : ∀ (qs : List vT) (k fu : Nat), pt.drop k = qs → qs.length < fu → k ≤ pt.length → gX11_goalOf_2 fu s (nI p) (nI k) = some (nI (vgo qs p), s) := by
    intro qs
    induction qs with
    | nil =>
      intro k fu hq hfu hk
      obtain ⟨fu, rfl⟩ : ∃ m, fu = m + 1 := ⟨fu - 1, by simp at hfu; omega⟩
      have hk2 : pt.length ≤ k := List.drop_eq_nil_iff.mp hq
      rw [gX11_goalOf_2, h1, nI_int (by omega), nI_int (by omega), if_pos (by omega)]
      rfl
    | cons q qs ih =>
      intro k fu hq hfu hk
      obtain ⟨fu, rfl⟩ : ∃ m, fu = m + 1 := ⟨fu - 1, by simp at hfu; omega⟩
      obtain ⟨e1, e2, e3⟩ := drop_cons hq
      obtain ⟨r1, r2, r3⟩ := h3 k q e1
      have hb := hb q (List.mem_of_getElem? e1)
      rw [gX11_goalOf_2, h1, nI_int (by omega), nI_int (by omega), if_neg (by omega), ix_nI (by omega) (by omega), ix_nI (by omega) (by omega), ix_nI (by omega) (by omega), r1, r2, nI_add, q_isIn, cl_some, if_rb, nI_int (by omega), nI_int (by omega), sub1_int (by omega)]
      unfold vgo
      by_cases c : q.1 ≤ p ∧ p < q.1 + q.2.1
      · rw [if_pos (by omega), ix_nI (by omega) (by omega), ix_nI (by omega) (by omega), r3, r1, nI_add, nI_sub (by omega), List.find?_cons_of_pos (by simpa [vin] using c)]
        show some (nI (q.2.2 + p - q.1), s) = some (nI (q.2.2 + (p - q.1)), s)
        rw [show q.2.2 + p - q.1 = q.2.2 + (p - q.1) by omega]
      · rw [if_neg (by omega), nI_1, List.find?_cons_of_neg (by simpa [vin] using c)]
        exact ih (k + 1) fu e2 (by simp at hfu; omega) (by omega)
  exact loop pt 0 wt_N rfl (by unfold wt_N; omega) (by omega)
/-- parts that can be carried one after the other -/
def CP (pt : List vT) : Prop := (∀ q ∈ pt, q.1 + q.2.1 ≤ 2048 ∧ q.2.2 + q.2.1 ≤ 2048 ∧ (q.2.2 ≤ q.1 ∨ q.1 + q.2.1 ≤ q.2.2 ∨ q.2.2 + q.2.1 ≤ q.1)) ∧ pt.Pairwise (fun p q => (p.2.2 + p.2.1 ≤ q.1 ∨ q.1 + q.2.1 ≤ p.2.2) ∧ (p.2.2 + p.2.1 ≤ q.2.2 ∨ q.2.2 + q.2.1 ≤ p.2.2))
theorem q_carries_12 {K : wt_S → Int32 → Option (Unit × wt_S)} {k : Nat} {q : vT} (hk : k < 256) (hq : q.1 + q.2.1 ≤ 2048 ∧ q.2.2 + q.2.1 ≤ 2048 ∧ (q.2.2 ≤ q.1 ∨ q.1 + q.2.1 ≤ q.2.2 ∨ q.2.2 + q.2.1 ≤ q.1)) {w0 : Nat → Int32} : ∀ (m i fu : Nat) (s : wt_S), i + m = q.2.1 → m < fu → s 115 k = nI q.1 → s 116 k = nI q.2.1 → s 117 k = nI q.2.2 → (∀ j, j < i → s 111 (q.2.2 + j) = w0 (q.1 + j)) → (∀ x, (x < q.2.2 ∨ q.2.2 + i ≤ x) → s 111 x = w0 x) →
    ∃ w', gX11_carries_12 K fu s (nI k) (nI i) = K (wt_uf s 111 w') (nI (k + 1)) ∧ (∀ j, j < q.2.1 → w' (q.2.2 + j) = w0 (q.1 + j)) ∧ ∀ x, (x < q.2.2 ∨ q.2.2 + q.2.1 ≤ x) → w' x = w0 x := by
  intro m
  induction m with
  | zero =>
    intro i fu s hi hfu h1 h2 h3 h4 h5
    obtain ⟨fu, rfl⟩ : ∃ m, fu = m + 1 := ⟨fu - 1, by omega⟩
    obtain rfl : i = q.2.1 := by omega
    refine ⟨s 111, ?_, h4, h5⟩
    rw [gX11_carries_12, ix_nI (by omega) (by omega), h2, if_pos (Int.le_refl _), uf_self, nI_1]
  | succ m ih =>
    intro i fu s hi hfu h1 h2 h3 h4 h5
    obtain ⟨fu, rfl⟩ : ∃ m, fu = m + 1 := ⟨fu - 1, by omega⟩
    obtain ⟨w', a1, a2, a3⟩ := ih (i + 1) fu (wt_uf s 111 (mj_upd (s 111) (q.2.2 + i) (s 111 (q.1 + i)))) (by omega) (by omega) (by rw [wt_uf_ne (by omega)]; exact h1) (by rw [wt_uf_ne (by omega)]; exact h2) (by rw [wt_uf_ne (by omega)]; exact h3)
      (fun j hj => by
        rw [wt_uf_at]
        by_cases e : j = i
        · subst e
          rw [mj_upd_self]
          exact h5 _ (by omega)
        · rw [mj_upd_ne (by omega)]
          exact h4 j (by omega))
      (fun x hx => by
        rw [wt_uf_at, mj_upd_ne (by omega)]
        exact h5 x (by omega))
    refine ⟨w', ?_, a2, a3⟩
    rw [gX11_carries_12, ix_nI (by omega) (by omega), h2, nI_int (by omega), nI_int (by omega), if_neg (by omega), ix_nI (by omega) (by omega), ix_nI (by omega) (by omega), h1, nI_add, ix_nI (by omega) (by omega), h3, nI_add, ix_nI (by omega) (by omega), wr_eq, u_uf, nI_1, a1, uf_uf]
theorem q_carries {s : wt_S} {pt : List vT} (h : PT s pt) (hc : CP pt) : ∃ w', gX11_carries s = some ((), wt_uf s 111 w') ∧ (∀ q ∈ pt, ∀ j, j < q.2.1 → w' (q.2.2 + j) = s 111 (q.1 + j)) ∧ ∀ x, (∀ q ∈ pt, x < q.2.2 ∨ q.2.2 + q.2.1 ≤ x) → w' x = s 111 x := by
  have loop : ∀ (qs : List vT) (k fu : Nat) (w : Nat → Int32), pt.drop k = qs → qs.length < fu → k ≤ pt.length → (∀ q ∈ qs, ∀ j, j < q.2.1 → w (q.1 + j) = s 111 (q.1 + j)) →
      ∃ w', gX11_carries_2 fu (wt_uf s 111 w) (nI k) = some ((), wt_uf s 111 w') ∧ (∀ q ∈ qs, ∀ j, j < q.2.1 → w' (q.2.2 + j) = s 111 (q.1 + j)) ∧ ∀ x, (∀ q ∈ qs, x < q.2.2 ∨ q.2.2 + q.2.1 ≤ x) → w' x = w x := by
    intro qs
    induction qs with
    | nil =>
      intro k fu w hq hfu hk hs
      obtain ⟨fu, rfl⟩ : ∃ m, fu = m + 1 := ⟨fu - 1, by simp at hfu; omega⟩
      have hk2 : pt.length ≤ k := List.drop_eq_nil_iff.mp hq
      refine ⟨w, ?_, fun q hq => (by cases hq), fun _ _ => rfl⟩
      have hl := h.2.1
      rw [gX11_carries_2, wt_uf_ne (by omega), h.1, nI_int (by omega), nI_int (by omega), if_pos (by omega)]
    | cons q qs ih =>
      intro k fu w hq hfu hk hs
      obtain ⟨fu, rfl⟩ : ∃ m, fu = m + 1 := ⟨fu - 1, by simp at hfu; omega⟩
      obtain ⟨e1, e2, e3⟩ := drop_cons hq
      have hl := h.2.1
      obtain ⟨r1, r2, r3⟩ := h.2.2 k q e1
      have hb := hc.1 q (List.mem_of_getElem? e1)
      have hpw : (q :: qs).Pairwise (fun p q => (p.2.2 + p.2.1 ≤ q.1 ∨ q.1 + q.2.1 ≤ p.2.2) ∧ (p.2.2 + p.2.1 ≤ q.2.2 ∨ q.2.2 + q.2.1 ≤ p.2.2)) := hq ▸ hc.2.sublist (List.drop_sublist k pt)
      have hp1 := (List.pairwise_cons.mp hpw).1
      obtain ⟨w1, a1, a2, a3⟩ := q_carries_12 (K := gX11_carries_2 fu) (k := k) (by omega) hb (w0 := w) q.2.1 0 wt_N (wt_uf s 111 w) (by omega) (by unfold wt_N; omega) (by rw [wt_uf_ne (by omega)]; exact r1) (by rw [wt_uf_ne (by omega)]; exact r2) (by rw [wt_uf_ne (by omega)]; exact r3) (fun j hj => absurd hj (by omega)) (fun x _ => by rw [wt_uf_at])
      obtain ⟨w2, b1, b2, b3⟩ := ih (k + 1) fu w1 e2 (by simp at hfu; omega) (by omega) (fun p hp j hj => by
        have := (hp1 p hp).1
        rw [a3 _ (by omega)]
        exact hs p (List.mem_cons_of_mem _ hp) j hj)
      refine ⟨w2, ?_, fun p hp j hj => ?_, fun x hx => ?_⟩
      · rw [gX11_carries_2, wt_uf_ne (by omega), h.1, nI_int (by omega), nI_int (by omega), if_neg (by omega)]
        refine a1.trans ?_
        rw [uf_uf]
        exact b1
      · rcases List.mem_cons.mp hp with e | hp
        · subst e
          rw [b3 _ (fun p2 hp2 => by have := (hp1 p2 hp2).2; omega), a2 j hj]
          exact hs p (List.mem_cons_self ..) j hj
        · exact b2 p hp j hj
      · rw [b3 x (fun p hp => hx p (List.mem_cons_of_mem _ hp)), a3 x (hx q (List.mem_cons_self ..))]
  obtain ⟨w', a1, a2, a3⟩ := loop pt 0 wt_N (s 111) rfl (by have := h.2.1; unfold wt_N; omega) (by omega) (fun _ _ _ _ => rfl)
  rw [uf_self] at a1
  exact ⟨w', a1, a2, a3⟩
