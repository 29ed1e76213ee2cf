/-! ===== the reference's pieces as a list: place, words, task, number ===== -/
abbrev rg_q : Type := Int32 × Int32 × Int32 × Int32
/-- the row of a piece -/
def rg_row (w : Nat → Int32) (x : Nat) (q : rg_q) : Prop := w (2899 + x) = q.1 ∧ w (3155 + x) = q.2.1 ∧ w (3411 + x) = q.2.2.1 ∧ w (3667 + x) = q.2.2.2
def rg_P (w : Nat → Int32) (ps : List rg_q) : Prop := w 2898 = nI ps.length ∧ ps.length ≤ 256 ∧ ∀ x q, ps[x]? = some q → rg_row w x q
theorem rg_shift_row {w : Nat → Int32} {i j x : Nat} {q : rg_q} (h1 : i < 256) (h2 : j < 256) (hx : x < 256) (h : rg_row w (if x = i then j else x) q) : rg_row (rg_shift w i j) x q := by
  obtain ⟨s1, s2, s3, s4, s5⟩ := rg_shift_at (w := w) h1 h2
  by_cases e : x = i
  · subst e
    rw [if_pos rfl] at h
    unfold rg_row at h ⊢
    rw [s1, s2, s3, s4]
    exact h
  · rw [if_neg e] at h
    unfold rg_row at h ⊢
    rw [s5 _ (by omega) (by omega) (by omega) (by omega), s5 _ (by omega) (by omega) (by omega) (by omega), s5 _ (by omega) (by omega) (by omega) (by omega), s5 _ (by omega) (by omega) (by omega) (by omega)]
    exact h
section
variable {pre : rf_P} {d : Nat} {s : mj_h Int32} {w a k e fr sz to tk : Nat → Int32} {hi ie pa gr ip fu il : Int32}
theorem rf_gives {ps : List rg_q} {k0 : Nat} (hP : rg_P w ps) (hk0 : k0 < ps.length) : rf_W pre (d + 1) kX11_gives (mj_ent 3 [.inr (some 110), .inl (nI k0)]) (rf w a k e fr sz to tk hi ie pa gr ip fu il) (fun r s' => r = none ∧ ∃ w', s' = rf w' a k e fr sz to tk hi ie pa gr ip fu il ∧ rg_P w' (ps.eraseIdx k0) ∧ ∀ q, q < 2898 ∨ 3923 ≤ q → w' q = w q) := by
  obtain ⟨hn, hl, hr⟩ := hP
  have loop : ∀ n i (w1 : Nat → Int32), i + n = ps.length - 1 → k0 ≤ i → w1 2898 = nI (ps.length - 1) → (∀ x q, x < i → (ps.eraseIdx k0)[x]? = some q → rg_row w1 x q) → (∀ x q, i ≤ x → ps[x]? = some q → rg_row w1 x q) → (∀ q, q < 2898 ∨ 3923 ≤ q → w1 q = w q) →
      wq_W (rf_e pre) (d + 1) kX11_gives (mj_drop 10 kX11_gives) [some (.inr (some 110)), some (.inl (nI k0)), some (.inl (nI i))] [] (rf w1 a k e fr sz to tk hi ie pa gr ip fu il) (fun r s' => r = none ∧ ∃ w', s' = rf w' a k e fr sz to tk hi ie pa gr ip fu il ∧ rg_P w' (ps.eraseIdx k0) ∧ ∀ q, q < 2898 ∨ 3923 ≤ q → w' q = w q) := by
    intro n
    induction n with
    | zero =>
      intro i w1 hi1 hki h1 h2 h3 h4
      refine rf_at [14] 60 ⟨2898, ri_ix0 rfl (by decide), ?_⟩
      constructor
      · intro _
        refine ⟨rfl, w1, rfl, ⟨?_, ?_, ?_⟩, h4⟩
        · rw [h1, List.length_eraseIdx_of_lt hk0]
        · rw [List.length_eraseIdx_of_lt hk0]; omega
        · intro x q hx
          refine h2 x q ?_ hx
          have := (List.getElem?_eq_some_iff.mp hx).1
          rw [List.length_eraseIdx_of_lt hk0] at this
          omega
      · intro (h : ¬ (w1 2898).toInt ≤ (nI i).toInt)
        rw [h1, ri_ofNat (by omega), ri_ofNat (by omega)] at h
        omega
    | succ n ih =>
      intro i w1 hi1 hki h1 h2 h3 h4
      have sh := rg_shift_at (w := w1) (i := i) (j := i + 1) (by omega) (by omega)
      have := ih (i + 1) (rg_shift w1 i (i + 1)) (by omega) (by omega)
        (by rw [sh.2.2.2.2 2898 (by omega) (by omega) (by omega) (by omega)]; exact h1)
        (fun x q hx hq => rg_shift_row (by omega) (by omega) (by omega) (by
          by_cases e : x = i
          · subst e
            rw [if_pos rfl]
            refine h3 _ _ (by omega) ?_
            rw [List.getElem?_eraseIdx, if_neg (by omega)] at hq
            exact hq
          · rw [if_neg e]
            exact h2 x q (by omega) hq))
        (fun x q hx hq => rg_shift_row (by omega) (by omega) (by have := (List.getElem?_eq_some_iff.mp hq).1; omega) (by
          rw [if_neg (by omega)]
          exact h3 x q (by omega) hq))
        (fun q hq => by rw [sh.2.2.2.2 q (by omega) (by omega) (by omega) (by omega)]; exact h4 q hq)
      rw [nI_succ] at this
      have cs : wq_W (rf_e pre) d kX11_shifts kX11_shifts (mj_ent 3 [.inr (some 110), .inl (nI i), .inl (nI (i + 1))]) [] (rf w1 a k e fr sz to tk hi ie pa gr ip fu il) (fun r s' => r = none ∧ s' = rf (rg_shift w1 i (i + 1)) a k e fr sz to tk hi ie pa gr ip fu il) := rf_shifts (by omega) (by omega)
      rw [nI_succ] at cs
      refine rf_at [14] 60 ⟨2898, ri_ix0 rfl (by decide), ?_⟩
      constructor
      · intro (h : (w1 2898).toInt ≤ (nI i).toInt)
        rw [h1, ri_ofNat (by omega), ri_ofNat (by omega)] at h
        omega
      · intro _
        refine ⟨d, _, rfl, rfl, cs.mono ?_⟩
        rintro v s' ⟨rfl, rfl⟩
        exact ⟨trivial, this⟩
  refine rf_go [14] 20 ⟨2898, ri_ix0 rfl (by decide), 2898, ri_ix0 rfl (by decide), trivial, ?_⟩
  have hs : w 2898 - Int32.ofInt 1 = nI (ps.length - 1) := by
    rw [hn]
    have : nI ps.length = nI (ps.length - 1) + Int32.ofInt 1 := by
      show nI ps.length = nI (ps.length - 1) + 1
      rw [← nI_succ, Nat.sub_add_cancel (by omega)]
    rw [this, Int32.add_sub_cancel]
  refine loop (ps.length - 1 - k0) k0 (mj_upd w 2898 (w 2898 - Int32.ofInt 1)) (by omega) (Nat.le_refl _) ?_ ?_ ?_ ?_
  · rw [mj_upd_self, hs]
  · intro x q hx hq
    rw [List.getElem?_eraseIdx, if_pos hx] at hq
    have := hr x q hq
    unfold rg_row at this ⊢
    rw [mj_upd_ne (by omega), mj_upd_ne (by omega), mj_upd_ne (by omega), mj_upd_ne (by omega)]
    exact this
  · intro x q hx hq
    have := hr x q hq
    unfold rg_row at this ⊢
    rw [mj_upd_ne (by omega), mj_upd_ne (by omega), mj_upd_ne (by omega), mj_upd_ne (by omega)]
    exact this
  · intro q hq
    rw [mj_upd_ne (by omega)]
end
