/-! ===== pieces as a list: place, words, task, number ===== -/
abbrev vP : Type := Nat × Nat × Nat × Nat
/-- in order, apart, within the memory -/
def vo (lim : Nat) (ps : List vP) : Prop := ps.Pairwise (fun p q => p.1 + p.2.1 ≤ q.1) ∧ ∀ q ∈ ps, 1 ≤ q.2.1 ∧ q.1 + q.2.1 ≤ lim ∧ q.2.2.1 < 6 ∧ q.2.2.2 < 4294967296
def vrow (w : Nat → Int32) (x : Nat) (q : vP) : Prop := w (2899 + x) = nI q.1 ∧ w (3155 + x) = nI q.2.1 ∧ w (3411 + x) = nI q.2.2.1 ∧ w (3667 + x) = nI q.2.2.2
def vr_P (w : Nat → Int32) (ps : List vP) : Prop := w 2898 = nI ps.length ∧ ps.length ≤ 256 ∧ ∀ x q, ps[x]? = some q → vrow w x q
/-- where the first gap begins that has so many -/
def vgap (lim : Nat) : Nat → List vP → Nat → Option Nat
  | a, [], words => if a + words ≤ lim then some a else none
  | a, q :: ps, words => if a + words ≤ q.1 then some a else vgap lim (q.1 + q.2.1) ps words
/-- the first one that is so -/
def vfi (P : vP → Bool) : List vP → Nat → Option Nat
  | [], _ => none
  | q :: ps, k => if P q then some k else vfi P ps (k + 1)
def oI (o : Option Nat) : Int32 := match o with
  | some a => nI a
  | none => -1
def vkey (t n : Nat) (q : vP) : Bool := decide (q.2.2.1 = t ∧ q.2.2.2 = n)
def vhas (p : Nat) (q : vP) : Bool := decide (q.1 ≤ p ∧ p < q.1 + q.2.1)
theorem nI_inj32 {a b : Nat} (ha : a < 4294967296) (hb : b < 4294967296) : nI a = nI b ↔ a = b := by
  constructor
  · intro h
    have h1 : (Int32.ofNat a).toUInt32 = (Int32.ofNat b).toUInt32 := congrArg Int32.toUInt32 h
    have h2 := congrArg UInt32.toNat h1
    have e : ∀ x : Nat, (Int32.ofNat x).toUInt32.toNat = x % 4294967296 := fun x => rfl
    rw [e, e, Nat.mod_eq_of_lt ha, Nat.mod_eq_of_lt hb] at h2
    exact h2
  · intro h; rw [h]
theorem vo_tail {lim : Nat} {q : vP} {ps : List vP} (h : vo lim (q :: ps)) : vo lim ps := ⟨(List.pairwise_cons.mp h.1).2, fun p hp => h.2 p (List.mem_cons_of_mem _ hp)⟩
theorem vo_head {lim : Nat} {q : vP} {ps : List vP} (h : vo lim (q :: ps)) : ∀ p ∈ ps, q.1 + q.2.1 ≤ p.1 := (List.pairwise_cons.mp h.1).1
theorem vo_sub {lim : Nat} {ps qs : List vP} (h : vo lim ps) (hs : qs.Sublist ps) : vo lim qs := ⟨h.1.sublist hs, fun q hq => h.2 q (hs.subset hq)⟩
theorem drop_cons {α : Type} {ps qs : List α} {q : α} {k : Nat} (h : ps.drop k = q :: qs) : ps[k]? = some q ∧ ps.drop (k + 1) = qs ∧ k < ps.length := by
  have hk : k < ps.length := by
    apply Classical.byContradiction
    intro hn
    rw [List.drop_eq_nil_of_le (by omega)] at h
    cases h
  rw [List.drop_eq_getElem_cons hk] at h
  injection h with h1 h2
  exact ⟨by rw [List.getElem?_eq_getElem hk, h1], h2, hk⟩
theorem vfi_spec {P : vP → Bool} : ∀ {ps : List vP} {k x : Nat}, vfi P ps k = some x → ∃ q, k ≤ x ∧ ps[x - k]? = some q ∧ P q = true := by
  intro ps
  induction ps with
  | nil => intro k x h; cases h
  | cons q ps ih =>
    intro k x h
    unfold vfi at h
    split at h
    · rename_i hp
      cases h
      exact ⟨q, Nat.le_refl _, by rw [Nat.sub_self]; rfl, hp⟩
    · obtain ⟨q', h1, h2, h3⟩ := ih h
      refine ⟨q', by omega, ?_, h3⟩
      rw [show x - k = (x - (k + 1)) + 1 by omega]
      exact h2
theorem vfi_none {P : vP → Bool} : ∀ {ps : List vP} {k : Nat}, vfi P ps k = none → ∀ q ∈ ps, P q = false := by
  intro ps
  induction ps with
  | nil => intro k h q hq; cases hq
  | cons q0 ps ih =>
    intro k h q hq
    unfold vfi at h
    split at h
    · cases h
    · rename_i hp
      rcases List.mem_cons.mp hq with rfl | hq
      · simpa using hp
      · exact ih h q hq
section
variable {s : wt_S} {ps : List vP}
theorem q_gapFor_loop {words : Nat} (hP : vr_P (s 111) ps) (ho : vo 2048 ps) (hw : words < 1000000) : ∀ (qs : List vP) (k a n : Nat), ps.drop k = qs → qs.length < n → k ≤ ps.length → a ≤ 2048 → (∀ q ∈ qs, a ≤ q.1) → gX11_gapFor_4 n s (nI words) (nI a) (nI k) = some (oI (vgap 2048 a qs words), s) := by
  obtain ⟨h1, h2, h3⟩ := hP
  intro qs
  induction qs with
  | nil =>
    intro k a n hq hn hk2 ha hl
    obtain ⟨n, rfl⟩ : ∃ m, n = m + 1 := ⟨n - 1, by simp at hn; omega⟩
    have hk : ps.length ≤ k := List.drop_eq_nil_iff.mp hq
    unfold gX11_gapFor_4
    rw [h1, nI_int (by omega), nI_int (by omega), if_pos (by omega), li_sub2 (by omega), nI_int (by omega), nI_int (by omega)]
    unfold vgap
    split
    · rw [if_neg (by omega)]; rfl
    · rw [if_pos (by omega)]; rfl
  | cons q qs ih =>
    intro k a n hq hn hk2 ha hl
    obtain ⟨n, rfl⟩ : ∃ m, n = m + 1 := ⟨n - 1, by simp at hn; omega⟩
    obtain ⟨e1, e2, e3⟩ := drop_cons hq
    obtain ⟨r1, r2, -, -⟩ := h3 k q e1
    have hm := ho.2 q (List.mem_of_getElem? e1)
    have hq1 := hl q (List.mem_cons_self ..)
    have hd : vo 2048 (q :: qs) := vo_sub ho (hq ▸ List.drop_sublist k ps)
    unfold gX11_gapFor_4
    rw [h1, nI_int (by omega), nI_int (by omega), if_neg (by omega), li_add, ix_nI (by omega) (by omega), r1, nI_sub hq1, nI_int (by omega), nI_int (by omega)]
    unfold vgap
    split
    · rw [ix_nI (by omega) (by omega), li_add, ix_nI (by omega) (by omega), r1, r2, nI_add, nI_1, if_neg (by omega)]
      exact ih (k + 1) _ n e2 (by simp at hn; omega) (by omega) (by omega) (vo_head hd)
    · rw [if_pos (by omega)]; rfl
theorem q_gapFor {words : Nat} (hP : vr_P (s 111) ps) (ho : vo 2048 ps) (hw : words < 1000000) : gX11_gapFor s (nI words) = some (oI (vgap 2048 0 ps words), s) :=
  q_gapFor_loop hP ho hw ps 0 0 wt_N rfl (by have := hP.2.1; unfold wt_N; omega) (by omega) (by omega) (fun _ _ => Nat.zero_le _)
theorem q_pieceOf_loop {t number : Nat} (hP : vr_P (s 111) ps) (hb : ∀ q ∈ ps, q.2.2.1 < 6 ∧ q.2.2.2 < 4294967296) (ht : t < 6) (hn : number < 4294967296) : ∀ (qs : List vP) (k n : Nat), ps.drop k = qs → qs.length < n → k ≤ ps.length → gX11_pieceOf_2 n s (nI t) (nI number) (nI k) = some (oI (vfi (vkey t number) qs k), s) := by
  obtain ⟨h1, h2, h3⟩ := hP
  intro qs
  induction qs with
  | nil =>
    intro k n hq hn hk2
    obtain ⟨n, rfl⟩ : ∃ m, n = m + 1 := ⟨n - 1, by simp at hn; omega⟩
    have hk : ps.length ≤ k := List.drop_eq_nil_iff.mp hq
    unfold gX11_pieceOf_2
    rw [h1, nI_int (by omega), nI_int (by omega), if_pos (by omega)]
    rfl
  | cons q qs ih =>
    intro k n hq hn hk2
    obtain ⟨n, rfl⟩ : ∃ m, n = m + 1 := ⟨n - 1, by simp at hn; omega⟩
    obtain ⟨e1, e2, e3⟩ := drop_cons hq
    obtain ⟨-, -, r3, r4⟩ := h3 k q e1
    have hm := hb q (List.mem_of_getElem? e1)
    have next := ih (k + 1) n e2 (by simp at hn; omega) (by omega)
    unfold gX11_pieceOf_2
    rw [h1, nI_int (by omega), nI_int (by omega), if_neg (by omega), li_add, ix_nI (by omega) (by omega), r3]
    unfold vfi vkey
    by_cases c1 : q.2.2.1 = t
    · rw [if_neg (by rw [c1]; simp), li_add, ix_nI (by omega) (by omega), r4]
      by_cases c2 : q.2.2.2 = number
      · rw [if_neg (by rw [c2]; simp), if_pos (by simp [c1, c2])]
        rfl
      · rw [if_pos (fun e => c2 ((nI_inj32 hm.2 (by omega)).mp e)), if_neg (by simp [c2]), nI_1]
        exact next
    · rw [if_pos (fun e => c1 ((nI_inj32 (by omega) (by omega)).mp e)), if_neg (by simp [c1]), nI_1]
      exact next
theorem q_pieceOf {t number : Nat} (hP : vr_P (s 111) ps) (ho : vo 2048 ps) (ht : t < 6) (hn : number < 4294967296) : gX11_pieceOf s (nI t) (nI number) = some (oI (vfi (vkey t number) ps 0), s) :=
  q_pieceOf_loop hP (fun q hq => (ho.2 q hq).2.2) ht hn ps 0 wt_N rfl (by have := hP.2.1; unfold wt_N; omega) (by omega)
theorem q_pieceAt_loop {p : Nat} (hP : vr_P (s 111) ps) (ho : vo 2048 ps) (hp : p < 1000000) : ∀ (qs : List vP) (k n : Nat), ps.drop k = qs → qs.length < n → k ≤ ps.length → gX11_pieceAt_2 n s (nI p) (nI k) = some (oI (vfi (vhas p) qs k), s) := by
  obtain ⟨h1, h2, h3⟩ := hP
  intro qs
  induction qs with
  | nil =>
    intro k n hq hn hk2
    obtain ⟨n, rfl⟩ : ∃ m, n = m + 1 := ⟨n - 1, by simp at hn; omega⟩
    have hk : ps.length ≤ k := List.drop_eq_nil_iff.mp hq
    unfold gX11_pieceAt_2
    rw [h1, nI_int (by omega), nI_int (by omega), if_pos (by omega)]
    rfl
  | cons q qs ih =>
    intro k n hq hn hk2
    obtain ⟨n, rfl⟩ : ∃ m, n = m + 1 := ⟨n - 1, by simp at hn; omega⟩
    obtain ⟨e1, e2, e3⟩ := drop_cons hq
    obtain ⟨r1, r2, -, -⟩ := h3 k q e1
    have hm := ho.2 q (List.mem_of_getElem? e1)
    have next := ih (k + 1) n e2 (by simp at hn; omega) (by omega)
    unfold gX11_pieceAt_2
    rw [h1, nI_int (by omega), nI_int (by omega), if_neg (by omega), li_add, ix_nI (by omega) (by omega), ix_nI (by omega) (by omega), li_add, ix_nI (by omega) (by omega), r1, r2, nI_add, li_sub (by omega), q_isIn, cl_some, if_rb, nI_int (by omega), nI_int (by omega), nI_int (by omega)]
    unfold vfi vhas
    by_cases c1 : q.1 ≤ p ∧ p < q.1 + q.2.1
    · rw [if_pos (by omega), if_pos (by simpa using c1)]
      rfl
    · rw [if_neg (by omega), if_neg (by simpa using c1), nI_1]
      exact next
theorem q_pieceAt {p : Nat} (hP : vr_P (s 111) ps) (ho : vo 2048 ps) (hp : p < 1000000) : gX11_pieceAt s (nI p) = some (oI (vfi (vhas p) ps 0), s) :=
  q_pieceAt_loop hP ho hp ps 0 wt_N rfl (by have := hP.2.1; unfold wt_N; omega) (by omega)
end
/-! ### the reference's row is written -/
theorem uf_u {s : wt_S} {a k : Nat} {f : Nat → Int32} {v : Int32} : wt_u (wt_uf s a f) a k v = wt_uf s a (mj_upd f k v) := by
  funext c
  unfold wt_u wt_uf
  by_cases h : c = a
  · rw [if_pos h, if_pos h, if_pos rfl]
  · rw [if_neg h, if_neg h, if_neg h]
theorem u_uf {s : wt_S} {a k : Nat} {v : Int32} : wt_u s a k v = wt_uf s a (mj_upd (s a) k v) := rfl
theorem uf_self {s : wt_S} {a : Nat} : wt_uf s a (s a) = s := by
  funext c
  unfold wt_uf
  by_cases h : c = a
  · rw [if_pos h, h]
  · rw [if_neg h]
theorem uf_uf {s : wt_S} {a : Nat} {f g : Nat → Int32} : wt_uf (wt_uf s a f) a g = wt_uf s a g := by
  funext c
  unfold wt_uf
  by_cases h : c = a
  · rw [if_pos h, if_pos h]
  · rw [if_neg h, if_neg h, if_neg h]
def rg_mv (w : Nat → Int32) (i j : Nat) : Nat → Int32 := mj_upd w i (w j)
def rg_shift (w : Nat → Int32) (i j : Nat) : Nat → Int32 := rg_mv (rg_mv (rg_mv (rg_mv w (2899 + i) (2899 + j)) (3155 + i) (3155 + j)) (3411 + i) (3411 + j)) (3667 + i) (3667 + j)
theorem rg_shift_at {w : Nat → Int32} {i j : Nat} (h1 : i < 256) (h2 : j < 256) : rg_shift w i j (2899 + i) = w (2899 + j) ∧ rg_shift w i j (3155 + i) = w (3155 + j) ∧ rg_shift w i j (3411 + i) = w (3411 + j) ∧ rg_shift w i j (3667 + i) = w (3667 + j) ∧ ∀ q, q ≠ 2899 + i → q ≠ 3155 + i → q ≠ 3411 + i → q ≠ 3667 + i → rg_shift w i j q = w q := by
  unfold rg_shift rg_mv
  refine ⟨?_, ?_, ?_, ?_, fun q q1 q2 q3 q4 => ?_⟩
  · rw [mj_upd_ne (by omega), mj_upd_ne (by omega), mj_upd_ne (by omega), mj_upd_self]
  · rw [mj_upd_ne (by omega), mj_upd_ne (by omega), mj_upd_self, mj_upd_ne (by omega)]
  · rw [mj_upd_ne (by omega), mj_upd_self, mj_upd_ne (by omega), mj_upd_ne (by omega)]
  · rw [mj_upd_self, mj_upd_ne (by omega), mj_upd_ne (by omega), mj_upd_ne (by omega)]
  · rw [mj_upd_ne q4, mj_upd_ne q3, mj_upd_ne q2, mj_upd_ne q1]
theorem q_shifts {s : wt_S} {i j : Nat} (h1 : i < 256) (h2 : j < 256) : gX11_shifts s (nI i) (nI j) = some ((), wt_uf s 111 (rg_shift (s 111) i j)) := by
  unfold gX11_shifts
  simp only [wr_eq]
  rw [li_add, ix_nI (by omega) (by omega), li_add, ix_nI (by omega) (by omega), li_add, ix_nI (by omega) (by omega), li_add, ix_nI (by omega) (by omega), li_add, ix_nI (by omega) (by omega), li_add, ix_nI (by omega) (by omega), li_add, ix_nI (by omega) (by omega), li_add, ix_nI (by omega) (by omega)]
  simp only [u_uf, uf_uf, wt_uf_at]
  rfl
theorem vshift_row {w : Nat → Int32} {i j x : Nat} {q : vP} (h1 : i < 256) (h2 : j < 256) (hx : x < 256) (h : vrow w (if x = i then j else x) q) : vrow (rg_shift w i j) x q := by
  obtain ⟨s1, s2, s3, s4, s5⟩ := rg_shift_at (w := w) h1 h2
  by_cases e : x = i
  · subst e
    rw [if_pos rfl] at h
    unfold vrow at h ⊢
    rw [s1, s2, s3, s4]
    exact h
  · rw [if_neg e] at h
    unfold vrow at h ⊢
    rw [s5 _ (by omega) (by omega) (by omega) (by omega), s5 _ (by omega) (by omega) (by omega) (by omega), s5 _ (by omega) (by omega) (by omega) (by omega), s5 _ (by omega) (by omega) (by omega) (by omega)]
    exact h
theorem vrow_upd {w : Nat → Int32} {k x : Nat} {v : Int32} {q : vP} (hx : x < 256) (hk : k < 2899 ∨ 3923 ≤ k) (h : vrow w x q) : vrow (mj_upd w k v) x q := by
  unfold vrow at h ⊢
  rw [mj_upd_ne (by omega), mj_upd_ne (by omega), mj_upd_ne (by omega), mj_upd_ne (by omega)]
  exact h
/-- what isn't of the pieces -/
def vout (i : Nat) : Prop := i < 2898 ∨ 3923 ≤ i
theorem q_gives_loop {ps : List vP} {k0 : Nat} (hk0 : k0 < ps.length) (hl : ps.length ≤ 256) : ∀ (m i n : Nat) (s : wt_S), i + m = ps.length - 1 → m < n → k0 ≤ i → s 111 2898 = nI (ps.length - 1) → (∀ x q, x < i → (ps.eraseIdx k0)[x]? = some q → vrow (s 111) x q) → (∀ x q, i ≤ x → ps[x]? = some q → vrow (s 111) x q) →
    ∃ w', gX11_gives_14 n s (nI i) = some ((), wt_uf s 111 w') ∧ vr_P w' (ps.eraseIdx k0) ∧ ∀ q, vout q → w' q = s 111 q := by
  intro m
  induction m with
  | zero =>
    intro i n s hi1 hn hki h1 h2 h3
    obtain ⟨n, rfl⟩ : ∃ m, n = m + 1 := ⟨n - 1, by omega⟩
    refine ⟨s 111, ?_, ⟨?_, ?_, ?_⟩, fun _ _ => rfl⟩
    · unfold gX11_gives_14
      rw [h1, nI_int (by omega), nI_int (by omega), if_pos (by omega), uf_self]
    · rw [h1, List.length_eraseIdx_of_lt hk0]
    · rw [List.length_eraseIdx_of_lt hk0]; omega
    · intro x q hx
      refine h2 x q ?_ hx
      have := (List.getElem?_eq_some_iff.mp hx).1
      rw [List.length_eraseIdx_of_lt hk0] at this
      omega
  | succ m ih =>
    intro i n s hi1 hn hki h1 h2 h3
    obtain ⟨n, rfl⟩ : ∃ m, n = m + 1 := ⟨n - 1, by omega⟩
    have sh := rg_shift_at (w := s 111) (i := i) (j := i + 1) (by omega) (by omega)
    obtain ⟨w', e1, e2, e3⟩ := ih (i + 1) n (wt_uf s 111 (rg_shift (s 111) i (i + 1))) (by omega) (by omega) (by omega)
      (by rw [wt_uf_at, sh.2.2.2.2 2898 (by omega) (by omega) (by omega) (by omega)]; exact h1)
      (fun x q hx hq => by
        rw [wt_uf_at]
        refine vshift_row (by omega) (by omega) (by omega) ?_
        by_cases e : x = i
        · subst e
          rw [if_pos rfl]
          refine h3 _ _ (by omega) ?_
          rw [List.getElem?_eraseIdx, if_neg (by omega)] at hq
          exact hq
        · rw [if_neg e]
          exact h2 x q (by omega) hq)
      (fun x q hx hq => by
        rw [wt_uf_at]
        refine vshift_row (by omega) (by omega) (by have := (List.getElem?_eq_some_iff.mp hq).1; omega) ?_
        rw [if_neg (by omega)]
        exact h3 x q (by omega) hq)
    refine ⟨w', ?_, e2, fun q hq => ?_⟩
    · unfold gX11_gives_14
      rw [h1, nI_int (by omega), nI_int (by omega), if_neg (by omega), nI_1, q_shifts (by omega) (by omega), cl_some, e1, uf_uf]
    · rw [e3 q hq, wt_uf_at]
      unfold vout at hq
      exact sh.2.2.2.2 q (by omega) (by omega) (by omega) (by omega)
theorem q_gives {s : wt_S} {ps : List vP} {k0 : Nat} (hP : vr_P (s 111) ps) (hk0 : k0 < ps.length) : ∃ w', gX11_gives s (nI k0) = some ((), wt_uf s 111 w') ∧ vr_P w' (ps.eraseIdx k0) ∧ ∀ q, vout q → w' q = s 111 q := by
  obtain ⟨h1, h2, h3⟩ := hP
  obtain ⟨w', e1, e2, e3⟩ := q_gives_loop hk0 h2 (ps.length - 1 - k0) k0 wt_N (wt_uf s 111 (mj_upd (s 111) 2898 (nI (ps.length - 1)))) (by omega) (by unfold wt_N; omega) (by omega)
    (by rw [wt_uf_at, mj_upd_self])
    (fun x q hx hq => by
      rw [List.getElem?_eraseIdx, if_pos hx] at hq
      rw [wt_uf_at]
      exact vrow_upd (by omega) (by omega) (h3 x q hq))
    (fun x q hx hq => by
      rw [wt_uf_at]
      exact vrow_upd (by have := (List.getElem?_eq_some_iff.mp hq).1; omega) (by omega) (h3 x q hq))
  refine ⟨w', ?_, e2, fun q hq => ?_⟩
  · unfold gX11_gives
    rw [wr_eq, h1, li_sub (by omega), u_uf, e1, uf_uf]
  · rw [e3 q hq, wt_uf_at]
    unfold vout at hq
    exact mj_upd_ne (by omega)
