theorem nI_pred1 (n : Nat) : nI (n + 1) - Int32.ofInt 1 = nI n := by
  rw [nI_succ]
  exact Int32.add_sub_cancel ..
theorem nI_pred2 (n : Nat) : nI (n + 1) + Int32.ofInt (-1) = nI n := by
  rw [nI_succ, Int32.add_assoc, show (1 : Int32) + Int32.ofInt (-1) = 0 by decide +kernel, Int32.add_zero]
theorem ri_ixm {c i n : Nat} {z : Int} (hz : z = c) (h : c + i < n ∧ n < 2147483648) : (Int32.ofInt z + nI (i + 1) - Int32.ofInt 1).toInt = (c + i : Nat) ∧ c + i < n := by
  rw [show Int32.ofInt z + nI (i + 1) - Int32.ofInt 1 = Int32.ofInt z + nI i by
    rw [nI_succ, ← Int32.add_assoc]; exact Int32.add_sub_cancel ..]
  exact ri_ix hz h
/-- a piece's row is written -/
def rg_put (w : Nat → Int32) (i : Nat) (q : rg_q) : Nat → Int32 := mj_upd (mj_upd (mj_upd (mj_upd w (2899 + i) q.1) (3155 + i) q.2.1) (3411 + i) q.2.2.1) (3667 + i) q.2.2.2
theorem rg_put_row {w : Nat → Int32} {i x : Nat} {q q' : rg_q} (hi : i < 256) (hx : x < 256) (h : if x = i then q' = q else rg_row w x q') : rg_row (rg_put w i q) x q' := by
  unfold rg_put rg_row
  by_cases e : x = i
  · subst e
    rw [if_pos rfl] at h
    subst h
    refine ⟨?_, ?_, ?_, ?_⟩
    · rw [mj_upd_ne (by omega), mj_upd_ne (by omega), mj_upd_ne (by omega), mj_upd_self]
    · rw [mj_upd_ne (by omega), mj_upd_ne (by omega), mj_upd_self]
    · rw [mj_upd_ne (by omega), mj_upd_self]
    · rw [mj_upd_self]
  · rw [if_neg e] at h
    obtain ⟨h1, h2, h3, h4⟩ := h
    refine ⟨?_, ?_, ?_, ?_⟩
    · rw [mj_upd_ne (by omega), mj_upd_ne (by omega), mj_upd_ne (by omega), mj_upd_ne (by omega)]; exact h1
    · rw [mj_upd_ne (by omega), mj_upd_ne (by omega), mj_upd_ne (by omega), mj_upd_ne (by omega)]; exact h2
    · rw [mj_upd_ne (by omega), mj_upd_ne (by omega), mj_upd_ne (by omega), mj_upd_ne (by omega)]; exact h3
    · rw [mj_upd_ne (by omega), mj_upd_ne (by omega), mj_upd_ne (by omega), mj_upd_ne (by omega)]; exact h4
theorem rg_put_ne {w : Nat → Int32} {i x : Nat} {q : rg_q} (hi : i < 256) (h : x < 2899 ∨ 3923 ≤ x) : rg_put w i q x = w x := by
  unfold rg_put
  rw [mj_upd_ne (by omega), mj_upd_ne (by omega), mj_upd_ne (by omega), mj_upd_ne (by omega)]
section
variable {pre : rf_P} {d : Nat} {w a k e fr sz to tk : Nat → Int32} {hi ie pa gr ip fu il : Int32}
theorem rf_takes {ps : List rg_q} {t at_ words number : Int32} (hP : rg_P w ps) (hl : ps.length < 256) : rf_W pre (d + 1) kX11_takes (mj_ent 6 [.inr (some 110), .inl t, .inl at_, .inl words, .inl number]) (rf w a k e fr sz to tk hi ie pa gr ip fu il) (fun (r : Option (mj_v Int32)) (s' : mj_h Int32) => r = none ∧ ∃ w' j, s' = rf w' a k e fr sz to tk hi ie pa gr ip fu il ∧ j ≤ ps.length ∧ (∀ x q, j ≤ x → ps[x]? = some q → at_.toInt < q.1.toInt) ∧ (∀ q, 0 < j → ps[j - 1]? = some q → q.1.toInt ≤ at_.toInt) ∧ rg_P w' (ps.insertIdx j (at_, words, t, number)) ∧ ∀ q, q < 2898 ∨ 3923 ≤ q → w' q = w q) := by
  obtain ⟨hn, -, hr⟩ := hP
  have fin : ∀ i (w1 : Nat → Int32), i ≤ ps.length → w1 2898 = nI (ps.length + 1) → (∀ x q, x < i → ps[x]? = some q → rg_row w1 x q) → (∀ x q, i ≤ x → ps[x]? = some q → rg_row w1 (x + 1) q ∧ at_.toInt < q.1.toInt) → (∀ q, q < 2898 ∨ 3923 ≤ q → w1 q = w q) → (∀ q, 0 < i → ps[i - 1]? = some q → q.1.toInt ≤ at_.toInt) →
      (fun (r : Option (mj_v Int32)) (s' : mj_h Int32) => r = none ∧ ∃ w' j, s' = rf w' a k e fr sz to tk hi ie pa gr ip fu il ∧ j ≤ ps.length ∧ (∀ x q, j ≤ x → ps[x]? = some q → at_.toInt < q.1.toInt) ∧ (∀ q, 0 < j → ps[j - 1]? = some q → q.1.toInt ≤ at_.toInt) ∧ rg_P w' (ps.insertIdx j (at_, words, t, number)) ∧ ∀ q, q < 2898 ∨ 3923 ≤ q → w' q = w q) none (rf (rg_put w1 i (at_, words, t, number)) a k e fr sz to tk hi ie pa gr ip fu il) := by
    intro i w1 h0 h1 h2 h3 h4 h5
    refine ⟨rfl, _, i, rfl, h0, fun x q hx hq => (h3 x q hx hq).2, h5, ⟨?_, ?_, ?_⟩, fun q hq => ?_⟩
    · rw [rg_put_ne (by omega) (by omega), h1, List.length_insertIdx_of_le_length h0]
    · rw [List.length_insertIdx_of_le_length h0]; omega
    · intro x q hx
      have hx2 := (List.getElem?_eq_some_iff.mp hx).1
      rw [List.length_insertIdx_of_le_length h0] at hx2
      refine rg_put_row (by omega) (by omega) ?_
      rw [List.getElem?_insertIdx] at hx
      by_cases e1 : x < i
      · rw [if_pos e1] at hx
        rw [if_neg (by omega)]
        exact h2 x q e1 hx
      · rw [if_neg e1] at hx
        by_cases e2 : x = i
        · rw [if_pos e2, if_pos (by omega)] at hx
          rw [if_pos e2]
          exact (Option.some.inj hx).symm
        · rw [if_neg e2] at hx
          rw [if_neg e2]
          have := (h3 (x - 1) q (by omega) hx).1
          rw [Nat.sub_add_cancel (by omega)] at this
          exact this
    · rw [rg_put_ne (by omega) (by omega)]
      exact h4 q hq
  have loop : ∀ i (w1 : Nat → Int32), i ≤ ps.length → w1 2898 = nI (ps.length + 1) → (∀ x q, x < i → ps[x]? = some q → rg_row w1 x q) → (∀ x q, i ≤ x → ps[x]? = some q → rg_row w1 (x + 1) q ∧ at_.toInt < q.1.toInt) → (∀ q, q < 2898 ∨ 3923 ≤ q → w1 q = w q) →
      wq_W (rf_e pre) (d + 1) kX11_takes (mj_drop 13 kX11_takes) [some (.inr (some 110)), some (.inl t), some (.inl at_), some (.inl words), some (.inl number), some (.inl (nI i))] [] (rf w1 a k e fr sz to tk hi ie pa gr ip fu il) (fun (r : Option (mj_v Int32)) (s' : mj_h Int32) => r = none ∧ ∃ w' j, s' = rf w' a k e fr sz to tk hi ie pa gr ip fu il ∧ j ≤ ps.length ∧ (∀ x q, j ≤ x → ps[x]? = some q → at_.toInt < q.1.toInt) ∧ (∀ q, 0 < j → ps[j - 1]? = some q → q.1.toInt ≤ at_.toInt) ∧ rg_P w' (ps.insertIdx j (at_, words, t, number)) ∧ ∀ q, q < 2898 ∨ 3923 ≤ q → w' q = w q) := by
    intro i
    induction i with
    | zero =>
      intro w1 h0 h1 h2 h3 h4
      refine rf_at [22] 60 ?_
      constructor
      · intro _
        exact ⟨2899, ri_ix rfl (by omega), 3155, ri_ix rfl (by omega), 3411, ri_ix rfl (by omega), 3667, ri_ix rfl (by omega), fin 0 w1 h0 h1 h2 h3 h4 (fun q hq => absurd hq (by omega))⟩
      · intro (h : ¬ (nI 0).toInt ≤ 0)
        rw [ri_ofNat (by omega)] at h
        omega
    | succ i ih =>
      intro w1 h0 h1 h2 h3 h4
      obtain ⟨q0, hq0⟩ : ∃ q, ps[i]? = some q := ⟨_, List.getElem?_eq_getElem (by omega)⟩
      have hr0 := h2 i q0 (by omega) hq0
      refine rf_at [22] 60 ?_
      constructor
      · intro (h : (nI (i + 1)).toInt ≤ 0)
        rw [ri_ofNat (by omega)] at h
        omega
      · intro _
        refine ⟨2899 + i, ri_ixm rfl (by omega), ?_⟩
        constructor
        · intro (h : (w1 (2899 + i)).toInt ≤ at_.toInt)
          refine ⟨2899 + (i + 1), ri_ix rfl (by omega), 3155 + (i + 1), ri_ix rfl (by omega), 3411 + (i + 1), ri_ix rfl (by omega), 3667 + (i + 1), ri_ix rfl (by omega), fin (i + 1) w1 h0 h1 h2 h3 h4 (fun q _ hq => ?_)⟩
          rw [Nat.add_sub_cancel, hq0] at hq
          cases hq
          rw [← hr0.1]
          exact h
        · intro (h : ¬ (w1 (2899 + i)).toInt ≤ at_.toInt)
          have cs : wq_W (rf_e pre) d kX11_shifts kX11_shifts (mj_ent 3 [.inr (some 110), .inl (nI (i + 1)), .inl (nI i)]) [] (rf w1 a k e fr sz to tk hi ie pa gr ip fu il) (fun r s' => r = none ∧ s' = rf (rg_shift w1 (i + 1) i) a k e fr sz to tk hi ie pa gr ip fu il) := rf_shifts (by omega) (by omega)
          have sh := rg_shift_at (w := w1) (i := i + 1) (j := i) (by omega) (by omega)
          have := ih (rg_shift w1 (i + 1) i) (by omega)
            (by rw [sh.2.2.2.2 2898 (by omega) (by omega) (by omega) (by omega)]; exact h1)
            (fun x q hx hq => rg_shift_row (by omega) (by omega) (by omega) (by rw [if_neg (by omega)]; exact h2 x q (by omega) hq))
            (fun x q hx hq => by
              have hx2 := (List.getElem?_eq_some_iff.mp hq).1
              by_cases e : x = i
              · subst e
                rw [hq0] at hq
                cases hq
                refine ⟨rg_shift_row (by omega) (by omega) (by omega) (by rw [if_pos rfl]; exact hr0), ?_⟩
                rw [← hr0.1]
                omega
              · have := h3 x q (by omega) hq
                exact ⟨rg_shift_row (by omega) (by omega) (by omega) (by rw [if_neg (by omega)]; exact this.1), this.2⟩)
            (fun q hq => by rw [sh.2.2.2.2 q (by omega) (by omega) (by omega) (by omega)]; exact h4 q hq)
          rw [← nI_pred1 i] at cs
          rw [← nI_pred2 i] at this
          refine ⟨d, _, rfl, rfl, cs.mono ?_⟩
          rintro v s' ⟨rfl, rfl⟩
          exact ⟨trivial, this⟩
  have hs : w 2898 + Int32.ofInt 1 = nI (ps.length + 1) := by
    rw [hn, nI_succ]
    rfl
  have := loop ps.length (mj_upd w 2898 (w 2898 + Int32.ofInt 1)) (Nat.le_refl _) (by rw [mj_upd_self, hs])
    (fun x q hx hq => by
      have := hr x q hq
      unfold rg_row at this ⊢
      rw [mj_upd_ne (by omega), mj_upd_ne (by omega), mj_upd_ne (by omega), mj_upd_ne (by omega)]
      exact this)
    (fun x q hx hq => absurd (List.getElem?_eq_some_iff.mp hq).1 (by omega))
    (fun q hq => by rw [mj_upd_ne (by omega)])
  rw [← hn] at this
  exact rf_go [22] 30 ⟨2898, ri_ix0 rfl (by decide), 2898, ri_ix0 rfl (by decide), 2898, ri_ix0 rfl (by decide), trivial, this⟩
end
