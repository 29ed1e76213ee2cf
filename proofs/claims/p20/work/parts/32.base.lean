section
/-! ===== ints, places, what functions of the store are made of ===== -/
theorem mj_upd_ne {V : Type} {f : Nat → V} {k j : Nat} {v : V} (h : j ≠ k) : mj_upd f k v j = f j := by
  rw [mj_upd_eq]
  exact if_neg h
theorem mj_upd_self {V : Type} {f : Nat → V} {k : Nat} {v : V} : mj_upd f k v k = v := by
  rw [mj_upd_eq]
  exact if_pos rfl
theorem wt_u_at {s : wt_S} {a k : Nat} {v : Int32} : wt_u s a k v a = mj_upd (s a) k v := if_pos rfl
theorem wt_u_ne {s : wt_S} {a b k : Nat} {v : Int32} (h : b ≠ a) : wt_u s a k v b = s b := if_neg h
theorem wt_u_self {s : wt_S} {a k : Nat} {v : Int32} : wt_u s a k v a k = v := by rw [wt_u_at, mj_upd_self]
theorem wt_u_nk {s : wt_S} {a k j : Nat} {v : Int32} (h : j ≠ k) : wt_u s a k v a j = s a j := by rw [wt_u_at, mj_upd_ne h]
theorem wt_uf_at {s : wt_S} {a : Nat} {f : Nat → Int32} : wt_uf s a f a = f := if_pos rfl
theorem wt_uf_ne {s : wt_S} {a b : Nat} {f : Nat → Int32} (h : b ≠ a) : wt_uf s a f b = s b := if_neg h
theorem li_add {c k : Nat} : (@OfNat.ofNat Int32 c Int32.instOfNat) + nI k = nI ((@OfNat.ofNat Nat c (instOfNatNat c)) + k) := nI_add c k
theorem li_add2 {c k : Nat} : nI k + (@OfNat.ofNat Int32 c Int32.instOfNat) = nI (k + (@OfNat.ofNat Nat c (instOfNatNat c))) := nI_add k c
theorem nI_mul (a b : Nat) : nI a * nI b = nI (a * b) := (Int32.ofNat_mul a b).symm
theorem li_mul {c k : Nat} : (@OfNat.ofNat Int32 c Int32.instOfNat) * nI k = nI ((@OfNat.ofNat Nat c (instOfNatNat c)) * k) := nI_mul c k
theorem li_mul2 {c k : Nat} : nI k * (@OfNat.ofNat Int32 c Int32.instOfNat) = nI (k * (@OfNat.ofNat Nat c (instOfNatNat c))) := nI_mul k c
theorem li_eq {c : Nat} : (@OfNat.ofNat Int32 c Int32.instOfNat) = nI (@OfNat.ofNat Nat c (instOfNatNat c)) := rfl
theorem nI_sub {a b : Nat} (h : b ≤ a) : nI a - nI b = nI (a - b) := by
  have : nI (a - b) + nI b = nI a := by rw [nI_add, Nat.sub_add_cancel h]
  rw [← this]
  exact Int32.add_sub_cancel ..
theorem li_sub {a c : Nat} (h : (@OfNat.ofNat Nat c (instOfNatNat c)) ≤ a) : nI a - (@OfNat.ofNat Int32 c Int32.instOfNat) = nI (a - (@OfNat.ofNat Nat c (instOfNatNat c))) := nI_sub h
theorem li_sub2 {a c : Nat} (h : a ≤ (@OfNat.ofNat Nat c (instOfNatNat c))) : (@OfNat.ofNat Int32 c Int32.instOfNat) - nI a = nI ((@OfNat.ofNat Nat c (instOfNatNat c)) - a) := nI_sub h
theorem nI_int {n : Nat} (h : n < 2147483648) : (nI n).toInt = (n : Int) := nI_toInt (by omega)
theorem li_int {c : Nat} (h : (@OfNat.ofNat Nat c (instOfNatNat c)) < 2147483648) : (@OfNat.ofNat Int32 c Int32.instOfNat).toInt = ((@OfNat.ofNat Nat c (instOfNatNat c)) : Int) := nI_int h
theorem m1_int : (-1 : Int32).toInt = -1 := by decide
theorem nI_inj {a b : Nat} (ha : a < 2147483648) (hb : b < 2147483648) : nI a = nI b ↔ a = b := nI_eq (by omega) (by omega)
theorem nI_m1 {a : Nat} (ha : a < 2147483648) : nI a ≠ -1 := fun h => by
  have := congrArg Int32.toInt h
  rw [nI_int ha, m1_int] at this
  omega
/-- an int that is no less than 0 -/
theorem nI_ex {v : Int32} (h : 0 ≤ v.toInt) : ∃ n : Nat, n < 2147483648 ∧ v = nI n := by
  refine ⟨v.toInt.toNat, by have := v.toInt_lt; omega, ?_⟩
  rw [← Int32.toInt_inj, nI_int (by have := v.toInt_lt; omega)]
  omega
theorem nI_ext {v : Int32} {n : Nat} (h : n < 2147483648) : v = nI n ↔ v.toInt = n := by
  rw [← Int32.toInt_inj, nI_int h]
theorem ix_nI {α : Type} {k n : Nat} {F : Nat → Option α} (h : k < n) (hn : n ≤ 100000) : wt_ix (nI k) n F = F k := by
  unfold wt_ix
  rw [nI_int (by omega), if_pos (by omega)]
  rfl
theorem ix_of {α : Type} {i : Int32} {k n : Nat} {F : Nat → Option α} (hi : i = nI k) (h : k < n) (hn : n ≤ 100000) : wt_ix i n F = F k := by
  rw [hi, ix_nI h hn]
theorem cl_some {α β : Type} {v : β} {s : wt_S} {F : β → wt_S → Option α} : wt_cl (some (v, s)) F = F v s := rfl
theorem wr_eq {α : Type} {s : wt_S} {a k : Nat} {v : Int32} {F : wt_S → Option α} : wt_wr s a k v F = F (wt_u s a k v) := rfl
/-- 1 where it holds -/
def rb (p : Prop) [Decidable p] : Int32 := if p then 1 else 0
theorem rb_pos {p : Prop} [Decidable p] (h : p) : rb p = 1 := if_pos h
theorem rb_neg {p : Prop} [Decidable p] (h : ¬ p) : rb p = 0 := if_neg h
theorem rb_bit {p : Prop} [Decidable p] : rb p = 0 ∨ rb p = 1 := by
  by_cases h : p
  · exact Or.inr (rb_pos h)
  · exact Or.inl (rb_neg h)
theorem rb_zero {p : Prop} [Decidable p] : rb p = 0 ↔ ¬ p := by
  by_cases h : p
  · rw [rb_pos h]; simp [h]
  · rw [rb_neg h]; simp [h]
theorem rb_one {p : Prop} [Decidable p] : rb p = 1 ↔ p := by
  by_cases h : p
  · rw [rb_pos h]; simp [h]
  · rw [rb_neg h]; simp [h]
theorem rb_iff {p q : Prop} [Decidable p] [Decidable q] (h : p ↔ q) : rb p = rb q := by
  by_cases hp : p
  · rw [rb_pos hp, rb_pos (h.mp hp)]
  · rw [rb_neg hp, rb_neg (fun q => hp (h.mpr q))]
theorem rz_rb {α : Type} {p : Prop} [Decidable p] {F : Option α} : wt_rz (rb p) F = F := if_pos rb_bit
theorem if_rb {α : Type} {p : Prop} [Decidable p] {a b : α} : (if rb p = 0 then a else b) = if p then b else a := by
  by_cases h : p
  · rw [rb_pos h, if_pos h, if_neg (by decide)]
  · rw [rb_neg h, if_neg h, if_pos rfl]
theorem if_rbn {α : Type} {p : Prop} [Decidable p] {a b : α} : (if rb p ≠ 0 then a else b) = if p then a else b := by
  by_cases h : p
  · rw [rb_pos h, if_pos h, if_pos (by decide)]
  · rw [rb_neg h, if_neg h, if_neg (by simp)]
/-! ### the reference's small methods -/
section
variable {s : wt_S}
theorem q_isIn {v l m : Int32} : gX11_isIn s v l m = some (rb (l.toInt ≤ v.toInt ∧ v.toInt ≤ m.toInt), s) := by
  unfold gX11_isIn
  split
  · rw [rb_neg (by omega)]
  · split
    · rw [rb_neg (by omega)]
    · rw [rb_pos (by omega)]
/-- whether a bit is set -/
abbrev bt (x : Int32) (k : Nat) : Prop := (x >>> (nI k &&& 31)) &&& 1 = 1
theorem q_has {x : Int32} {k : Nat} : gX11_has s x (nI k) = some (rb (bt x k), s) := by
  unfold gX11_has
  split
  · rename_i h
    rw [rb_neg h]
  · rename_i h
    rw [rb_pos (Classical.not_not.mp h)]
theorem q_has0 {x : Int32} : gX11_has s x 0 = some (rb (bt x 0), s) := q_has (k := 0)
theorem q_isFunction {f : Int32} : gX11_isFunction s f = some (rb (0 ≤ f.toInt ∧ f.toInt ≤ 9), s) := by
  unfold gX11_isFunction
  rw [q_isIn, cl_some, rz_rb]
  rfl
theorem q_isTask {f : Int32} : gX11_isTask s f = some (rb (0 ≤ f.toInt ∧ f.toInt ≤ 5), s) := by
  unfold gX11_isTask
  rw [q_isIn, cl_some, rz_rb]
  rfl
/-- a function that is told -/
abbrev tld (w : Nat → Int32) (f : Int32) : Prop := (0 ≤ f.toInt ∧ f.toInt ≤ 9) ∧ 0 < (w (2228 + f.toInt.toNat)).toInt
theorem q_isTold {f : Int32} : gX11_isTold s f = some (rb (tld (s 111) f), s) := by
  unfold gX11_isTold
  rw [q_isFunction, cl_some, if_rb]
  split
  · rename_i h
    obtain ⟨n, hn, rfl⟩ := nI_ex h.1
    rw [nI_int hn] at h
    rw [li_add, ix_nI (by omega) (by omega)]
    split
    · rename_i h2
      rw [rb_neg]
      rintro ⟨-, q⟩
      rw [nI_int hn] at q
      exact absurd h2 (by show ¬ (s 111 (2228 + n)).toInt ≤ 0; rw [show (2228 + n) = 2228 + (n : Int).toNat by omega]; omega)
    · rename_i h2
      rw [rb_pos]
      refine ⟨by rw [nI_int hn]; exact h, ?_⟩
      rw [nI_int hn, show (n : Int).toNat = n by omega]
      have : ¬ (s 111 (2228 + n)).toInt ≤ 0 := h2
      omega
  · rename_i h
    rw [rb_neg (fun q => h q.1)]
theorem q_frameOf {f : Nat} (hf : f < 10) : gX11_frameOf s (nI f) = some (s 111 (2228 + f) + 2, s) := by
  unfold gX11_frameOf
  rw [li_add, ix_nI (by omega) (by omega)]
theorem q_codeAt {f l : Nat} : gX11_codeAt s (nI f) (nI l) = some (nI (2258 + 4 * (16 * f + l)), s) := by
  unfold gX11_codeAt
  rw [li_mul, nI_add, li_mul, li_add]
theorem q_isSlot {f : Nat} {x : Int32} (hf : f < 10) : gX11_isSlot s (nI f) x = some (rb (0 ≤ x.toInt ∧ x.toInt ≤ (s 111 (2228 + f) - 1).toInt), s) := by
  unfold gX11_isSlot
  rw [li_add, ix_nI (by omega) (by omega), q_isIn, cl_some, rz_rb]
  rfl
theorem q_word0 {p : Nat} (he : s 110 5 = 0) (hp : p < 2048) : gX11_word s (nI p) = some (s 111 p, s) := by
  unfold gX11_word
  rw [if_pos he, ix_nI (by omega) (by omega)]
theorem q_word1 {p : Nat} (he : s 110 5 ≠ 0) (hp : p < 20200) : gX11_word s (nI p) = some (s 114 p, s) := by
  unfold gX11_word
  rw [if_neg he, ix_nI (by omega) (by omega)]
theorem q_lays0 {p : Nat} {v : Int32} (he : s 110 5 = 0) (hp : p < 2048) : gX11_lays s (nI p) v = some ((), wt_u s 111 p v) := by
  unfold gX11_lays
  rw [if_pos he, ix_nI (by omega) (by omega)]
  rfl
theorem q_lays1 {p : Nat} {v : Int32} (he : s 110 5 ≠ 0) (hp : p < 20200) : gX11_lays s (nI p) v = some ((), wt_u s 114 p v) := by
  unfold gX11_lays
  rw [if_neg he, ix_nI (by omega) (by omega)]
  rfl
theorem q_counts0 {c : Nat} {v : Int32} (he : s 110 5 = 0) (hc : c < 12) : gX11_counts s (nI c) v = some ((), wt_u s 111 (2054 + c) (s 111 (2054 + c) + v)) := by
  unfold gX11_counts
  rw [if_neg (by simp [he]), li_add, ix_nI (by omega) (by omega), ix_nI (by omega) (by omega)]
  rfl
theorem q_counts1 {c v : Int32} (he : s 110 5 ≠ 0) : gX11_counts s c v = some ((), s) := by
  unfold gX11_counts
  rw [if_pos he]
theorem q_isBusy {t : Nat} (ht : t < 7) : gX11_isBusy s (nI t) = some (rb (s 111 (3926 + t) = 1 ∨ s 111 (3926 + t) = 2), s) := by
  unfold gX11_isBusy
  rw [li_add, ix_nI (by omega) (by omega)]
  split
  · rename_i h
    rw [rb_pos (Or.inl h)]
  · rename_i h
    rw [ix_nI (by omega) (by omega)]
    split
    · rename_i h2
      rw [rb_neg (fun q => q.elim h h2)]
    · rename_i h2
      rw [rb_pos (Or.inr (Classical.not_not.mp h2))]
end
end
section
/-! ===== pieces as a list: place, words, task, number ===== -/
abbrev vP : Type := Nat × Nat × Nat × Nat
/-- in order, apart, within the memory -/
def vo (lim : Nat) (ps : List vP) : Prop := ps.Pairwise (fun p q => p.1 + p.2.1 ≤ q.1) ∧ ∀ q ∈ ps, 1 ≤ q.2.1 ∧ q.1 + q.2.1 ≤ lim ∧ q.2.2.1 < 6 ∧ q.2.2.2 < 4294967296
def vrow (w : Nat → Int32) (x : Nat) (q : vP) : Prop := w (2899 + x) = nI q.1 ∧ w (3155 + x) = nI q.2.1 ∧ w (3411 + x) = nI q.2.2.1 ∧ w (3667 + x) = nI q.2.2.2
def vr_P (w : Nat → Int32) (ps : List vP) : Prop := w 2898 = nI ps.length ∧ ps.length ≤ 256 ∧ ∀ x q, ps[x]? = some q → vrow w x q
/-- where the first gap begins that has so many -/
def vgap (lim : Nat) : Nat → List vP → Nat → Option Nat
  | a, [], words => if a + words ≤ lim then some a else none
  | a, q :: ps, words => if a + words ≤ q.1 then some a else vgap lim (q.1 + q.2.1) ps words
/-- the first one that is so -/
def vfi (P : vP → Bool) : List vP → Nat → Option Nat
  | [], _ => none
  | q :: ps, k => if P q then some k else vfi P ps (k + 1)
def oI (o : Option Nat) : Int32 := match o with
  | some a => nI a
  | none => -1
def vkey (t n : Nat) (q : vP) : Bool := decide (q.2.2.1 = t ∧ q.2.2.2 = n)
def vhas (p : Nat) (q : vP) : Bool := decide (q.1 ≤ p ∧ p < q.1 + q.2.1)
theorem nI_inj32 {a b : Nat} (ha : a < 4294967296) (hb : b < 4294967296) : nI a = nI b ↔ a = b := by
  constructor
  · intro h
    have h1 : (Int32.ofNat a).toUInt32 = (Int32.ofNat b).toUInt32 := congrArg Int32.toUInt32 h
    have h2 := congrArg UInt32.toNat h1
    have e : ∀ x : Nat, (Int32.ofNat x).toUInt32.toNat = x % 4294967296 := fun x => rfl
    rw [e, e, Nat.mod_eq_of_lt ha, Nat.mod_eq_of_lt hb] at h2
    exact h2
  · intro h; rw [h]
theorem vo_tail {lim : Nat} {q : vP} {ps : List vP} (h : vo lim (q :: ps)) : vo lim ps := ⟨(List.pairwise_cons.mp h.1).2, fun p hp => h.2 p (List.mem_cons_of_mem _ hp)⟩
theorem vo_head {lim : Nat} {q : vP} {ps : List vP} (h : vo lim (q :: ps)) : ∀ p ∈ ps, q.1 + q.2.1 ≤ p.1 := (List.pairwise_cons.mp h.1).1
theorem vo_sub {lim : Nat} {ps qs : List vP} (h : vo lim ps) (hs : qs.Sublist ps) : vo lim qs := ⟨h.1.sublist hs, fun q hq => h.2 q (hs.subset hq)⟩
theorem drop_cons {α : Type} {ps qs : List α} {q : α} {k : Nat} (h : ps.drop k = q :: qs) : ps[k]? = some q ∧ ps.drop (k + 1) = qs ∧ k < ps.length := by
  have hk : k < ps.length := by
    apply Classical.byContradiction
    intro hn
    rw [List.drop_eq_nil_of_le (by omega)] at h
    cases h
  rw [List.drop_eq_getElem_cons hk] at h
  injection h with h1 h2
  exact ⟨by rw [List.getElem?_eq_getElem hk, h1], h2, hk⟩
theorem vfi_spec {P : vP → Bool} : ∀ {ps : List vP} {k x : Nat}, vfi P ps k = some x → ∃ q, k ≤ x ∧ ps[x - k]? = some q ∧ P q = true := by
  intro ps
  induction ps with
  | nil => intro k x h; cases h
  | cons q ps ih =>
    intro k x h
    unfold vfi at h
    split at h
    · rename_i hp
      cases h
      exact ⟨q, Nat.le_refl _, by rw [Nat.sub_self]; rfl, hp⟩
    · obtain ⟨q', h1, h2, h3⟩ := ih h
      refine ⟨q', by omega, ?_, h3⟩
      rw [show x - k = (x - (k + 1)) + 1 by omega]
      exact h2
theorem vfi_none {P : vP → Bool} : ∀ {ps : List vP} {k : Nat}, vfi P ps k = none → ∀ q ∈ ps, P q = false := by
  intro ps
  induction ps with
  | nil => intro k h q hq; cases hq
  | cons q0 ps ih =>
    intro k h q hq
    unfold vfi at h
    split at h
    · cases h
    · rename_i hp
      rcases List.mem_cons.mp hq with rfl | hq
      · simpa using hp
      · exact ih h q hq
section
variable {s : wt_S} {ps : List vP}
theorem q_gapFor_loop {words : Nat} (hP : vr_P (s 111) ps) (ho : vo 2048 ps) (hw : words < 1000000) : ∀ (qs : List vP) (k a n : Nat), ps.drop k = qs → qs.length < n → k ≤ ps.length → a ≤ 2048 → (∀ q ∈ qs, a ≤ q.1) → gX11_gapFor_4 n s (nI words) (nI a) (nI k) = some (oI (vgap 2048 a qs words), s) := by
  obtain ⟨h1, h2, h3⟩ := hP
  intro qs
  induction qs with
  | nil =>
    intro k a n hq hn hk2 ha hl
    obtain ⟨n, rfl⟩ : ∃ m, n = m + 1 := ⟨n - 1, by simp at hn; omega⟩
    have hk : ps.length ≤ k := List.drop_eq_nil_iff.mp hq
    unfold gX11_gapFor_4
    rw [h1, nI_int (by omega), nI_int (by omega), if_pos (by omega), li_sub2 (by omega), nI_int (by omega), nI_int (by omega)]
    unfold vgap
    split
    · rw [if_neg (by omega)]; rfl
    · rw [if_pos (by omega)]; rfl
  | cons q qs ih =>
    intro k a n hq hn hk2 ha hl
    obtain ⟨n, rfl⟩ : ∃ m, n = m + 1 := ⟨n - 1, by simp at hn; omega⟩
    obtain ⟨e1, e2, e3⟩ := drop_cons hq
    obtain ⟨r1, r2, -, -⟩ := h3 k q e1
    have hm := ho.2 q (List.mem_of_getElem? e1)
    have hq1 := hl q (List.mem_cons_self ..)
    have hd : vo 2048 (q :: qs) := vo_sub ho (hq ▸ List.drop_sublist k ps)
    unfold gX11_gapFor_4
    rw [h1, nI_int (by omega), nI_int (by omega), if_neg (by omega), li_add, ix_nI (by omega) (by omega), r1, nI_sub hq1, nI_int (by omega), nI_int (by omega)]
    unfold vgap
    split
    · rw [ix_nI (by omega) (by omega), li_add, ix_nI (by omega) (by omega), r1, r2, nI_add, nI_1, if_neg (by omega)]
      exact ih (k + 1) _ n e2 (by simp at hn; omega) (by omega) (by omega) (vo_head hd)
    · rw [if_pos (by omega)]; rfl
theorem q_gapFor {words : Nat} (hP : vr_P (s 111) ps) (ho : vo 2048 ps) (hw : words < 1000000) : gX11_gapFor s (nI words) = some (oI (vgap 2048 0 ps words), s) :=
  q_gapFor_loop hP ho hw ps 0 0 wt_N rfl (by have := hP.2.1; unfold wt_N; omega) (by omega) (by omega) (fun _ _ => Nat.zero_le _)
theorem q_pieceOf_loop {t number : Nat} (hP : vr_P (s 111) ps) (hb : ∀ q ∈ ps, q.2.2.1 < 6 ∧ q.2.2.2 < 4294967296) (ht : t < 6) (hn : number < 4294967296) : ∀ (qs : List vP) (k n : Nat), ps.drop k = qs → qs.length < n → k ≤ ps.length → gX11_pieceOf_2 n s (nI t) (nI number) (nI k) = some (oI (vfi (vkey t number) qs k), s) := by
  obtain ⟨h1, h2, h3⟩ := hP
  intro qs
  induction qs with
  | nil =>
    intro k n hq hn hk2
    obtain ⟨n, rfl⟩ : ∃ m, n = m + 1 := ⟨n - 1, by simp at hn; omega⟩
    have hk : ps.length ≤ k := List.drop_eq_nil_iff.mp hq
    unfold gX11_pieceOf_2
    rw [h1, nI_int (by omega), nI_int (by omega), if_pos (by omega)]
    rfl
  | cons q qs ih =>
    intro k n hq hn hk2
    obtain ⟨n, rfl⟩ : ∃ m, n = m + 1 := ⟨n - 1, by simp at hn; omega⟩
    obtain ⟨e1, e2, e3⟩ := drop_cons hq
    obtain ⟨-, -, r3, r4⟩ := h3 k q e1
    have hm := hb q (List.mem_of_getElem? e1)
    have next := ih (k + 1) n e2 (by simp at hn; omega) (by omega)
    unfold gX11_pieceOf_2
    rw [h1, nI_int (by omega), nI_int (by omega), if_neg (by omega), li_add, ix_nI (by omega) (by omega), r3]
    unfold vfi vkey
    by_cases c1 : q.2.2.1 = t
    · rw [if_neg (by rw [c1]; simp), li_add, ix_nI (by omega) (by omega), r4]
      by_cases c2 : q.2.2.2 = number
      · rw [if_neg (by rw [c2]; simp), if_pos (by simp [c1, c2])]
        rfl
      · rw [if_pos (fun e => c2 ((nI_inj32 hm.2 (by omega)).mp e)), if_neg (by simp [c2]), nI_1]
        exact next
    · rw [if_pos (fun e => c1 ((nI_inj32 (by omega) (by omega)).mp e)), if_neg (by simp [c1]), nI_1]
      exact next
theorem q_pieceOf {t number : Nat} (hP : vr_P (s 111) ps) (ho : vo 2048 ps) (ht : t < 6) (hn : number < 4294967296) : gX11_pieceOf s (nI t) (nI number) = some (oI (vfi (vkey t number) ps 0), s) :=
  q_pieceOf_loop hP (fun q hq => (ho.2 q hq).2.2) ht hn ps 0 wt_N rfl (by have := hP.2.1; unfold wt_N; omega) (by omega)
theorem q_pieceAt_loop {p : Nat} (hP : vr_P (s 111) ps) (ho : vo 2048 ps) (hp : p < 1000000) : ∀ (qs : List vP) (k n : Nat), ps.drop k = qs → qs.length < n → k ≤ ps.length → gX11_pieceAt_2 n s (nI p) (nI k) = some (oI (vfi (vhas p) qs k), s) := by
  obtain ⟨h1, h2, h3⟩ := hP
  intro qs
  induction qs with
  | nil =>
    intro k n hq hn hk2
    obtain ⟨n, rfl⟩ : ∃ m, n = m + 1 := ⟨n - 1, by simp at hn; omega⟩
    have hk : ps.length ≤ k := List.drop_eq_nil_iff.mp hq
    unfold gX11_pieceAt_2
    rw [h1, nI_int (by omega), nI_int (by omega), if_pos (by omega)]
    rfl
  | cons q qs ih =>
    intro k n hq hn hk2
    obtain ⟨n, rfl⟩ : ∃ m, n = m + 1 := ⟨n - 1, by simp at hn; omega⟩
    obtain ⟨e1, e2, e3⟩ := drop_cons hq
    obtain ⟨r1, r2, -, -⟩ := h3 k q e1
    have hm := ho.2 q (List.mem_of_getElem? e1)
    have next := ih (k + 1) n e2 (by simp at hn; omega) (by omega)
    unfold gX11_pieceAt_2
    rw [h1, nI_int (by omega), nI_int (by omega), if_neg (by omega), li_add, ix_nI (by omega) (by omega), ix_nI (by omega) (by omega), li_add, ix_nI (by omega) (by omega), r1, r2, nI_add, li_sub (by omega), q_isIn, cl_some, if_rb, nI_int (by omega), nI_int (by omega), nI_int (by omega)]
    unfold vfi vhas
    by_cases c1 : q.1 ≤ p ∧ p < q.1 + q.2.1
    · rw [if_pos (by omega), if_pos (by simpa using c1)]
      rfl
    · rw [if_neg (by omega), if_neg (by simpa using c1), nI_1]
      exact next
theorem q_pieceAt {p : Nat} (hP : vr_P (s 111) ps) (ho : vo 2048 ps) (hp : p < 1000000) : gX11_pieceAt s (nI p) = some (oI (vfi (vhas p) ps 0), s) :=
  q_pieceAt_loop hP ho hp ps 0 wt_N rfl (by have := hP.2.1; unfold wt_N; omega) (by omega)
end
/-! ### the reference's row is written -/
theorem uf_u {s : wt_S} {a k : Nat} {f : Nat → Int32} {v : Int32} : wt_u (wt_uf s a f) a k v = wt_uf s a (mj_upd f k v) := by
  funext c
  unfold wt_u wt_uf
  by_cases h : c = a
  · rw [if_pos h, if_pos h, if_pos rfl]
  · rw [if_neg h, if_neg h, if_neg h]
theorem u_uf {s : wt_S} {a k : Nat} {v : Int32} : wt_u s a k v = wt_uf s a (mj_upd (s a) k v) := rfl
theorem uf_self {s : wt_S} {a : Nat} : wt_uf s a (s a) = s := by
  funext c
  unfold wt_uf
  by_cases h : c = a
  · rw [if_pos h, h]
  · rw [if_neg h]
theorem uf_uf {s : wt_S} {a : Nat} {f g : Nat → Int32} : wt_uf (wt_uf s a f) a g = wt_uf s a g := by
  funext c
  unfold wt_uf
  by_cases h : c = a
  · rw [if_pos h, if_pos h]
  · rw [if_neg h, if_neg h, if_neg h]
def rg_mv (w : Nat → Int32) (i j : Nat) : Nat → Int32 := mj_upd w i (w j)
def rg_shift (w : Nat → Int32) (i j : Nat) : Nat → Int32 := rg_mv (rg_mv (rg_mv (rg_mv w (2899 + i) (2899 + j)) (3155 + i) (3155 + j)) (3411 + i) (3411 + j)) (3667 + i) (3667 + j)
theorem rg_shift_at {w : Nat → Int32} {i j : Nat} (h1 : i < 256) (h2 : j < 256) : rg_shift w i j (2899 + i) = w (2899 + j) ∧ rg_shift w i j (3155 + i) = w (3155 + j) ∧ rg_shift w i j (3411 + i) = w (3411 + j) ∧ rg_shift w i j (3667 + i) = w (3667 + j) ∧ ∀ q, q ≠ 2899 + i → q ≠ 3155 + i → q ≠ 3411 + i → q ≠ 3667 + i → rg_shift w i j q = w q := by
  unfold rg_shift rg_mv
  refine ⟨?_, ?_, ?_, ?_, fun q q1 q2 q3 q4 => ?_⟩
  · rw [mj_upd_ne (by omega), mj_upd_ne (by omega), mj_upd_ne (by omega), mj_upd_self]
  · rw [mj_upd_ne (by omega), mj_upd_ne (by omega), mj_upd_self, mj_upd_ne (by omega)]
  · rw [mj_upd_ne (by omega), mj_upd_self, mj_upd_ne (by omega), mj_upd_ne (by omega)]
  · rw [mj_upd_self, mj_upd_ne (by omega), mj_upd_ne (by omega), mj_upd_ne (by omega)]
  · rw [mj_upd_ne q4, mj_upd_ne q3, mj_upd_ne q2, mj_upd_ne q1]
theorem q_shifts {s : wt_S} {i j : Nat} (h1 : i < 256) (h2 : j < 256) : gX11_shifts s (nI i) (nI j) = some ((), wt_uf s 111 (rg_shift (s 111) i j)) := by
  unfold gX11_shifts
  simp only [wr_eq]
  rw [li_add, ix_nI (by omega) (by omega), li_add, ix_nI (by omega) (by omega), li_add, ix_nI (by omega) (by omega), li_add, ix_nI (by omega) (by omega), li_add, ix_nI (by omega) (by omega), li_add, ix_nI (by omega) (by omega), li_add, ix_nI (by omega) (by omega), li_add, ix_nI (by omega) (by omega)]
  simp only [u_uf, uf_uf, wt_uf_at]
  rfl
theorem vshift_row {w : Nat → Int32} {i j x : Nat} {q : vP} (h1 : i < 256) (h2 : j < 256) (hx : x < 256) (h : vrow w (if x = i then j else x) q) : vrow (rg_shift w i j) x q := by
  obtain ⟨s1, s2, s3, s4, s5⟩ := rg_shift_at (w := w) h1 h2
  by_cases e : x = i
  · subst e
    rw [if_pos rfl] at h
    unfold vrow at h ⊢
    rw [s1, s2, s3, s4]
    exact h
  · rw [if_neg e] at h
    unfold vrow at h ⊢
    rw [s5 _ (by omega) (by omega) (by omega) (by omega), s5 _ (by omega) (by omega) (by omega) (by omega), s5 _ (by omega) (by omega) (by omega) (by omega), s5 _ (by omega) (by omega) (by omega) (by omega)]
    exact h
theorem vrow_upd {w : Nat → Int32} {k x : Nat} {v : Int32} {q : vP} (hx : x < 256) (hk : k < 2899 ∨ 3923 ≤ k) (h : vrow w x q) : vrow (mj_upd w k v) x q := by
  unfold vrow at h ⊢
  rw [mj_upd_ne (by omega), mj_upd_ne (by omega), mj_upd_ne (by omega), mj_upd_ne (by omega)]
  exact h
/-- what isn't of the pieces -/
def vout (i : Nat) : Prop := i < 2898 ∨ 3923 ≤ i
theorem q_gives_loop {ps : List vP} {k0 : Nat} (hk0 : k0 < ps.length) (hl : ps.length ≤ 256) : ∀ (m i n : Nat) (s : wt_S), i + m = ps.length - 1 → m < n → k0 ≤ i → s 111 2898 = nI (ps.length - 1) → (∀ x q, x < i → (ps.eraseIdx k0)[x]? = some q → vrow (s 111) x q) → (∀ x q, i ≤ x → ps[x]? = some q → vrow (s 111) x q) →
    ∃ w', gX11_gives_14 n s (nI i) = some ((), wt_uf s 111 w') ∧ vr_P w' (ps.eraseIdx k0) ∧ ∀ q, vout q → w' q = s 111 q := by
  intro m
  induction m with
  | zero =>
    intro i n s hi1 hn hki h1 h2 h3
    obtain ⟨n, rfl⟩ : ∃ m, n = m + 1 := ⟨n - 1, by omega⟩
    refine ⟨s 111, ?_, ⟨?_, ?_, ?_⟩, fun _ _ => rfl⟩
    · unfold gX11_gives_14
      rw [h1, nI_int (by omega), nI_int (by omega), if_pos (by omega), uf_self]
    · rw [h1, List.length_eraseIdx_of_lt hk0]
    · rw [List.length_eraseIdx_of_lt hk0]; omega
    · intro x q hx
      refine h2 x q ?_ hx
      have := (List.getElem?_eq_some_iff.mp hx).1
      rw [List.length_eraseIdx_of_lt hk0] at this
      omega
  | succ m ih =>
    intro i n s hi1 hn hki h1 h2 h3
    obtain ⟨n, rfl⟩ : ∃ m, n = m + 1 := ⟨n - 1, by omega⟩
    have sh := rg_shift_at (w := s 111) (i := i) (j := i + 1) (by omega) (by omega)
    obtain ⟨w', e1, e2, e3⟩ := ih (i + 1) n (wt_uf s 111 (rg_shift (s 111) i (i + 1))) (by omega) (by omega) (by omega)
      (by rw [wt_uf_at, sh.2.2.2.2 2898 (by omega) (by omega) (by omega) (by omega)]; exact h1)
      (fun x q hx hq => by
        rw [wt_uf_at]
        refine vshift_row (by omega) (by omega) (by omega) ?_
        by_cases e : x = i
        · subst e
          rw [if_pos rfl]
          refine h3 _ _ (by omega) ?_
          rw [List.getElem?_eraseIdx, if_neg (by omega)] at hq
          exact hq
        · rw [if_neg e]
          exact h2 x q (by omega) hq)
      (fun x q hx hq => by
        rw [wt_uf_at]
        refine vshift_row (by omega) (by omega) (by have := (List.getElem?_eq_some_iff.mp hq).1; omega) ?_
        rw [if_neg (by omega)]
        exact h3 x q (by omega) hq)
    refine ⟨w', ?_, e2, fun q hq => ?_⟩
    · unfold gX11_gives_14
      rw [h1, nI_int (by omega), nI_int (by omega), if_neg (by omega), nI_1, q_shifts (by omega) (by omega), cl_some, e1, uf_uf]
    · rw [e3 q hq, wt_uf_at]
      unfold vout at hq
      exact sh.2.2.2.2 q (by omega) (by omega) (by omega) (by omega)
theorem q_gives {s : wt_S} {ps : List vP} {k0 : Nat} (hP : vr_P (s 111) ps) (hk0 : k0 < ps.length) : ∃ w', gX11_gives s (nI k0) = some ((), wt_uf s 111 w') ∧ vr_P w' (ps.eraseIdx k0) ∧ ∀ q, vout q → w' q = s 111 q := by
  obtain ⟨h1, h2, h3⟩ := hP
  obtain ⟨w', e1, e2, e3⟩ := q_gives_loop hk0 h2 (ps.length - 1 - k0) k0 wt_N (wt_uf s 111 (mj_upd (s 111) 2898 (nI (ps.length - 1)))) (by omega) (by unfold wt_N; omega) (by omega)
    (by rw [wt_uf_at, mj_upd_self])
    (fun x q hx hq => by
      rw [List.getElem?_eraseIdx, if_pos hx] at hq
      rw [wt_uf_at]
      exact vrow_upd (by omega) (by omega) (h3 x q hq))
    (fun x q hx hq => by
      rw [wt_uf_at]
      exact vrow_upd (by have := (List.getElem?_eq_some_iff.mp hq).1; omega) (by omega) (h3 x q hq))
  refine ⟨w', ?_, e2, fun q hq => ?_⟩
  · unfold gX11_gives
    rw [wr_eq, h1, li_sub (by omega), u_uf, e1, uf_uf]
  · rw [e3 q hq, wt_uf_at]
    unfold vout at hq
    exact mj_upd_ne (by omega)
end
section
/-! ===== the reference takes, logs, gives all ===== -/
def vins (q : vP) : List vP → List vP
  | [] => [q]
  | p :: ps => if q.1 < p.1 then q :: p :: ps else p :: vins q ps
theorem vins_eq {q : vP} : ∀ {ps : List vP} {j : Nat}, j ≤ ps.length → (∀ x p, x < j → ps[x]? = some p → ¬ q.1 < p.1) → (∀ p, ps[j]? = some p → q.1 < p.1) → ps.insertIdx j q = vins q ps := by
  intro ps
  induction ps with
  | nil =>
    intro j hj _ _
    obtain rfl : j = 0 := by simpa using hj
    rfl
  | cons p ps ih =>
    intro j hj h1 h2
    cases j with
    | zero =>
      unfold vins
      rw [if_pos (h2 p rfl)]
      rfl
    | succ j =>
      unfold vins
      rw [if_neg (h1 0 p (by omega) rfl), List.insertIdx_succ_cons, ih (by simpa using hj) (fun x p hx hp => h1 (x + 1) p (by omega) hp) (fun p hp => h2 p hp)]
def rg_put (w : Nat → Int32) (i : Nat) (q : vP) : Nat → Int32 := mj_upd (mj_upd (mj_upd (mj_upd w (2899 + i) (nI q.1)) (3155 + i) (nI q.2.1)) (3411 + i) (nI q.2.2.1)) (3667 + i) (nI q.2.2.2)
theorem rg_put_row {w : Nat → Int32} {i x : Nat} {q q' : vP} (hi : i < 256) (hx : x < 256) (h : if x = i then q' = q else vrow w x q') : vrow (rg_put w i q) x q' := by
  unfold rg_put vrow
  by_cases e : x = i
  · subst e
    rw [if_pos rfl] at h
    subst h
    refine ⟨?_, ?_, ?_, ?_⟩
    · rw [mj_upd_ne (by omega), mj_upd_ne (by omega), mj_upd_ne (by omega), mj_upd_self]
    · rw [mj_upd_ne (by omega), mj_upd_ne (by omega), mj_upd_self]
    · rw [mj_upd_ne (by omega), mj_upd_self]
    · rw [mj_upd_self]
  · rw [if_neg e] at h
    obtain ⟨h1, h2, h3, h4⟩ := h
    refine ⟨?_, ?_, ?_, ?_⟩
    · rw [mj_upd_ne (by omega), mj_upd_ne (by omega), mj_upd_ne (by omega), mj_upd_ne (by omega)]; exact h1
    · rw [mj_upd_ne (by omega), mj_upd_ne (by omega), mj_upd_ne (by omega), mj_upd_ne (by omega)]; exact h2
    · rw [mj_upd_ne (by omega), mj_upd_ne (by omega), mj_upd_ne (by omega), mj_upd_ne (by omega)]; exact h3
    · rw [mj_upd_ne (by omega), mj_upd_ne (by omega), mj_upd_ne (by omega), mj_upd_ne (by omega)]; exact h4
theorem rg_put_ne {w : Nat → Int32} {i x : Nat} {q : vP} (hi : i < 256) (h : x < 2899 ∨ 3923 ≤ x) : rg_put w i q x = w x := by
  unfold rg_put
  rw [mj_upd_ne (by omega), mj_upd_ne (by omega), mj_upd_ne (by omega), mj_upd_ne (by omega)]
theorem q_takes_60 {s : wt_S} {t a words number i : Nat} (hi : i < 256) : gX11_takes_60 s (nI t) (nI a) (nI words) (nI number) (nI i) = some ((), wt_uf s 111 (rg_put (s 111) i (a, words, t, number))) := by
  unfold gX11_takes_60
  simp only [wr_eq]
  rw [li_add, ix_nI (by omega) (by omega), li_add, ix_nI (by omega) (by omega), li_add, ix_nI (by omega) (by omega), li_add, ix_nI (by omega) (by omega)]
  simp only [u_uf, uf_uf, wt_uf_at]
  rfl
theorem nI_pred2 (n : Nat) : nI (n + 1) + (-1) = nI n := by
  rw [nI_succ, Int32.add_assoc, show (1 : Int32) + (-1) = 0 by decide +kernel, Int32.add_zero]
theorem i_sub1 (x : Int32) : x - 1 = x + (-1) := by
  rw [Int32.sub_eq_add_neg]
theorem q_takes_loop {ps : List vP} {t a words number : Nat} (hl : ps.length < 256) (ho : vo 2048 ps) (ha : a < 1000000) : ∀ (i n : Nat) (s : wt_S), i ≤ ps.length → i < n → s 111 2898 = nI (ps.length + 1) → (∀ x q, x < i → ps[x]? = some q → vrow (s 111) x q) → (∀ x q, i ≤ x → ps[x]? = some q → vrow (s 111) (x + 1) q ∧ a < q.1) →
    ∃ w', gX11_takes_22 n s (nI t) (nI a) (nI words) (nI number) (nI i) = some ((), wt_uf s 111 w') ∧ vr_P w' (vins (a, words, t, number) ps) ∧ ∀ q, vout q → w' q = s 111 q := by
  have fin : ∀ i (s : wt_S), i ≤ ps.length → s 111 2898 = nI (ps.length + 1) → (∀ x q, x < i → ps[x]? = some q → vrow (s 111) x q) → (∀ x q, i ≤ x → ps[x]? = some q → vrow (s 111) (x + 1) q ∧ a < q.1) → (∀ x q, x < i → ps[x]? = some q → q.1 ≤ a) →
      vr_P (rg_put (s 111) i (a, words, t, number)) (vins (a, words, t, number) ps) ∧ ∀ q, vout q → rg_put (s 111) i (a, words, t, number) q = s 111 q := by
    intro i s h0 h1 h2 h3 h5
    refine ⟨?_, fun q hq => rg_put_ne (by omega) (by unfold vout at hq; omega)⟩
    rw [← vins_eq h0 (fun x p hx hp => by have := h5 x p hx hp; show ¬ a < p.1; omega) (fun p hp => (h3 i p (Nat.le_refl _) hp).2)]
    refine ⟨?_, ?_, ?_⟩
    · rw [rg_put_ne (by omega) (by omega), h1, List.length_insertIdx_of_le_length h0]
    · rw [List.length_insertIdx_of_le_length h0]; omega
    · intro x q hx
      have hx2 := (List.getElem?_eq_some_iff.mp hx).1
      rw [List.length_insertIdx_of_le_length h0] at hx2
      refine rg_put_row (by omega) (by omega) ?_
      rw [List.getElem?_insertIdx] at hx
      by_cases e1 : x < i
      · rw [if_pos e1] at hx
        rw [if_neg (by omega)]
        exact h2 x q e1 hx
      · rw [if_neg e1] at hx
        by_cases e2 : x = i
        · rw [if_pos e2, if_pos (by omega)] at hx
          rw [if_pos e2]
          exact (Option.some.inj hx).symm
        · rw [if_neg e2] at hx
          rw [if_neg e2]
          have := (h3 (x - 1) q (by omega) hx).1
          rw [Nat.sub_add_cancel (by omega)] at this
          exact this
  intro i
  induction i with
  | zero =>
    intro n s h0 hn h1 h2 h3
    obtain ⟨n, rfl⟩ : ∃ m, n = m + 1 := ⟨n - 1, by omega⟩
    refine ⟨_, ?_, fin 0 s h0 h1 h2 h3 (fun x q hx => absurd hx (by omega))⟩
    unfold gX11_takes_22
    rw [nI_int (by omega), if_pos (by decide), q_takes_60 (by omega)]
  | succ i ih =>
    intro n s h0 hn h1 h2 h3
    obtain ⟨n, rfl⟩ : ∃ m, n = m + 1 := ⟨n - 1, by omega⟩
    obtain ⟨q0, hq0⟩ : ∃ q, ps[i]? = some q := ⟨_, List.getElem?_eq_getElem (by omega)⟩
    have hr0 := h2 i q0 (by omega) hq0
    have hb0 := ho.2 q0 (List.mem_of_getElem? hq0)
    have e0 : (2899 + nI (i + 1)) - 1 = nI (2899 + i) := by rw [li_add, li_sub (by omega)]; rfl
    have ec : ¬ (nI (i + 1)).toInt ≤ (0 : Int32).toInt := by rw [nI_int (by omega)]; show ¬ ((i + 1 : Nat) : Int) ≤ 0; omega
    by_cases c : q0.1 ≤ a
    · refine ⟨_, ?_, fin (i + 1) s h0 h1 h2 h3 (fun x q hx hq => ?_)⟩
      · unfold gX11_takes_22
        rw [if_neg ec, e0, ix_nI (by omega) (by omega), hr0.1, nI_int (by omega), nI_int (by omega), if_pos (by omega), q_takes_60 (by omega)]
      · by_cases ex : x = i
        · subst ex
          rw [hq0] at hq
          cases hq
          exact c
        · have := (List.pairwise_iff_getElem.mp ho.1) x i (by omega) (by omega) (by omega)
          rw [List.getElem?_eq_getElem (by omega)] at hq hq0
          rw [Option.some.inj hq, Option.some.inj hq0] at this
          omega
    · have sh := rg_shift_at (w := s 111) (i := i + 1) (j := i) (by omega) (by omega)
      obtain ⟨w', e1, e2, e3⟩ := ih n (wt_uf s 111 (rg_shift (s 111) (i + 1) i)) (by omega) (by omega)
        (by rw [wt_uf_at, sh.2.2.2.2 2898 (by omega) (by omega) (by omega) (by omega)]; exact h1)
        (fun x q hx hq => by
          rw [wt_uf_at]
          exact vshift_row (by omega) (by omega) (by omega) (by rw [if_neg (by omega)]; exact h2 x q (by omega) hq))
        (fun x q hx hq => by
          rw [wt_uf_at]
          have hx2 := (List.getElem?_eq_some_iff.mp hq).1
          by_cases e : x = i
          · subst e
            rw [hq0] at hq
            cases hq
            exact ⟨vshift_row (by omega) (by omega) (by omega) (by rw [if_pos rfl]; exact hr0), by omega⟩
          · have := h3 x q (by omega) hq
            exact ⟨vshift_row (by omega) (by omega) (by omega) (by rw [if_neg (by omega)]; exact this.1), this.2⟩)
      refine ⟨w', ?_, e2, fun q hq => ?_⟩
      · unfold gX11_takes_22
        rw [if_neg ec, e0, ix_nI (by omega) (by omega), hr0.1, nI_int (by omega), nI_int (by omega), if_neg (by omega), li_sub (by omega), Nat.add_sub_cancel, q_shifts (by omega) (by omega), cl_some, nI_pred2, e1, uf_uf]
      · rw [e3 q hq, wt_uf_at]
        unfold vout at hq
        exact sh.2.2.2.2 q (by omega) (by omega) (by omega) (by omega)
theorem q_takes {s : wt_S} {ps : List vP} {t a words number : Nat} (hP : vr_P (s 111) ps) (ho : vo 2048 ps) (hl : ps.length < 256) (ha : a < 1000000) : ∃ w', gX11_takes s (nI t) (nI a) (nI words) (nI number) = some ((), wt_uf s 111 w') ∧ vr_P w' (vins (a, words, t, number) ps) ∧ ∀ q, vout q → w' q = s 111 q := by
  obtain ⟨h1, h2, h3⟩ := hP
  obtain ⟨w', e1, e2, e3⟩ := q_takes_loop (t := t) (words := words) (number := number) hl ho ha ps.length wt_N (wt_uf s 111 (mj_upd (s 111) 2898 (nI (ps.length + 1)))) (Nat.le_refl _) (by unfold wt_N; omega)
    (by rw [wt_uf_at, mj_upd_self])
    (fun x q hx hq => by
      rw [wt_uf_at]
      exact vrow_upd (by omega) (by omega) (h3 x q hq))
    (fun x q hx hq => absurd (List.getElem?_eq_some_iff.mp hq).1 (by omega))
  refine ⟨w', ?_, e2, fun q hq => ?_⟩
  · unfold gX11_takes
    rw [wr_eq, h1, nI_1, u_uf, e1, uf_uf]
  · rw [e3 q hq, wt_uf_at]
    unfold vout at hq
    exact mj_upd_ne (by omega)
/-! ### the log: only how many came is kept in mind -/
def vlg (i : Nat) : Prop := i < 2067 ∨ 2228 ≤ i
def rg_lg (w : Nat → Int32) (k : Nat) (a b c d : Int32) : Nat → Int32 := mj_upd (mj_upd (mj_upd (mj_upd w (2068 + 4 * k) a) (2068 + 4 * k + 1) b) (2068 + 4 * k + 2) c) (2068 + 4 * k + 3) d
theorem q_logs_84 {s : wt_S} {a b c d : Int32} {k : Nat} (hk : k < 40) : ∃ w', gX11_logs_84 s a b c d 2068 4 (nI k) = some ((), wt_uf s 111 w') ∧ w' 2067 = s 111 2067 + 1 ∧ ∀ i, vlg i → w' i = s 111 i := by
  refine ⟨mj_upd (rg_lg (s 111) k a b c d) 2067 (rg_lg (s 111) k a b c d 2067 + 1), ?_, ?_, ?_⟩
  · unfold gX11_logs_84
    simp only [wr_eq]
    rw [li_mul, li_add, ix_nI (by omega) (by omega), li_add2, ix_nI (by omega) (by omega), li_add2, ix_nI (by omega) (by omega), li_add2, ix_nI (by omega) (by omega)]
    simp only [u_uf, uf_uf, wt_uf_at]
    rfl
  · unfold rg_lg
    rw [mj_upd_self, mj_upd_ne (by omega), mj_upd_ne (by omega), mj_upd_ne (by omega), mj_upd_ne (by omega)]
  · intro i hi
    unfold rg_lg
    unfold vlg at hi
    rw [mj_upd_ne (by omega), mj_upd_ne (by omega), mj_upd_ne (by omega), mj_upd_ne (by omega), mj_upd_ne (by omega)]
theorem q_logs_54 {s : wt_S} {a b c0 d : Int32} {k : Nat} (h : s 111 2067 = nI k) (hk : k < 2147483648) : ∃ w', gX11_logs_54 s a b c0 d = some ((), wt_uf s 111 w') ∧ w' 2067 = s 111 2067 + 1 ∧ ∀ i, vlg i → w' i = s 111 i := by
  by_cases hc : 40 ≤ k
  · obtain ⟨w', e1, e2⟩ := q_logs_84 (s := s) (a := a) (b := b) (c := c0) (d := d) (k := 39) (by omega)
    refine ⟨w', ?_, e2⟩
    unfold gX11_logs_54
    rw [if_pos (by rw [h, nI_int hk]; show (40 : Int) ≤ k; omega)]
    exact e1
  · obtain ⟨w', e1, e2⟩ := q_logs_84 (s := s) (a := a) (b := b) (c := c0) (d := d) (k := k) (by omega)
    refine ⟨w', ?_, e2⟩
    unfold gX11_logs_54
    rw [if_neg (by rw [h, nI_int hk]; show ¬ (40 : Int) ≤ k; omega), h]
    exact e1
theorem q_logs_16 {a b c d : Int32} {k : Nat} (hk : k < 2147483648) : ∀ (m x n : Nat) (s : wt_S), x + m = 160 → m < n → 4 ≤ x → s 111 2067 = nI k → ∃ w', gX11_logs_16 n s a b c d (nI x) = some ((), wt_uf s 111 w') ∧ w' 2067 = s 111 2067 + 1 ∧ ∀ i, vlg i → w' i = s 111 i := by
  intro m
  induction m with
  | zero =>
    intro x n s hx hn h4 h
    obtain ⟨n, rfl⟩ : ∃ m, n = m + 1 := ⟨n - 1, by omega⟩
    unfold gX11_logs_16
    rw [nI_int (by omega), if_pos (by show (160 : Int) ≤ x; omega)]
    exact q_logs_54 h hk
  | succ m ih =>
    intro x n s hx hn h4 h
    obtain ⟨n, rfl⟩ : ∃ m, n = m + 1 := ⟨n - 1, by omega⟩
    unfold gX11_logs_16
    rw [nI_int (by omega), if_neg (by show ¬ (160 : Int) ≤ x; omega), li_add, ix_nI (by omega) (by omega), li_sub (by omega), ix_nI (by omega) (by omega), wr_eq, u_uf, nI_1]
    obtain ⟨w', e1, e2, e3⟩ := ih (x + 1) n (wt_uf s 111 (mj_upd (s 111) (2068 + x - 4) (s 111 (2068 + x)))) (by omega) (by omega) (by omega) (by rw [wt_uf_at, mj_upd_ne (by omega)]; exact h)
    refine ⟨w', by rw [e1, uf_uf], ?_, fun i hi => ?_⟩
    · rw [e2, wt_uf_at, mj_upd_ne (by omega)]
    · rw [e3 i hi, wt_uf_at]
      unfold vlg at hi
      exact mj_upd_ne (by omega)
theorem q_logs {s : wt_S} {a b c d : Int32} {k : Nat} (h : s 111 2067 = nI k) (hk : k < 2147483648) : ∃ w', gX11_logs s a b c d = some ((), wt_uf s 111 w') ∧ w' 2067 = s 111 2067 + 1 ∧ ∀ i, vlg i → w' i = s 111 i := by
  unfold gX11_logs
  split
  · exact q_logs_54 h hk
  · exact q_logs_16 hk 156 4 wt_N s rfl (by unfold wt_N; omega) (by omega) h
end
section
/-! ===== what both sides stand for: scalars (by the reference's places), pieces, how many frames, frames ===== -/
/-- a frame: function, number of its piece, where in it, BACK, its numbers, its pointers (frame, slot) -/
abbrev vF : Type := Nat × Nat × Nat × Nat × (Nat → Int32) × (Nat → Option (Nat × Nat))
abbrev vV : Type := (Nat → Int32) × List vP × (Nat → Nat) × (Nat → Nat → vF)
def vsz (w : Nat → Int32) (f : Nat) : Nat := (w (2228 + f)).toInt.toNat
def vat (ps : List vP) (t n : Nat) : Nat := match ps.find? (vkey t n) with
  | some q => q.1
  | none => 0
def vln (ps : List vP) (t n : Nat) : Nat := match ps.find? (vkey t n) with
  | some q => q.2.1
  | none => 0
def vpl (V : vV) (t i : Nat) : Nat := vat V.2.1 t (V.2.2.2 t i).2.1 + (V.2.2.2 t i).2.2.1
/-- a slot's word -/
def vsw (w : Nat → Int32) (pl : Nat → Nat) (F : vF) (k : Nat) : Int32 := if bt (w (2238 + F.1)) k then (match F.2.2.2.2.2 k with
  | none => -1
  | some q => nI (pl q.1 + 2 + q.2)) else F.2.2.2.2.1 k
/-- frames as words -/
def MR (mm w : Nat → Int32) (n : Nat) (fr : Nat → vF) (pl : Nat → Nat) : Prop := ∀ i, i < n → (fr i).1 < 10 ∧ mm (pl i) = (if i = 0 then -1 else nI (pl (i - 1))) ∧ mm (pl i + 1) = nI (fr i).2.2.2.1 ∧ ∀ k, k < vsz w (fr i).1 → mm (pl i + 2 + k) = vsw w pl (fr i) k
def VM (mm : Nat → Int32) (V : vV) : Prop := ∀ t, t < 6 → MR mm V.1 (V.2.2.1 t) (V.2.2.2 t) (vpl V t)
/-- places of scalars that are kept in mind -/
def vtr (i : Nat) : Prop := (2048 ≤ i ∧ i ≤ 2067) ∨ (2228 ≤ i ∧ i < 2898) ∨ (3923 ≤ i ∧ i < 3926) ∨ (3926 ≤ i ∧ i < 4073 ∧ (i - 3926) % 7 ≠ 6)
/-- the reference's row -/
def RR (w : Nat → Int32) (V : vV) : Prop := (∀ i, vtr i → w i = V.1 i) ∧ vr_P w V.2.1 ∧ ∃ mm, (∀ p, p < 2048 → w p = mm p) ∧ VM mm V
/-- a scalar is set -/
def vs (V : vV) (i : Nat) (v : Int32) : vV := (mj_upd V.1 i v, V.2)
theorem MR_w {mm w w' : Nat → Int32} {n : Nat} {fr : Nat → vF} {pl : Nat → Nat} (h : ∀ i, 2228 ≤ i → i < 2248 → w' i = w i) (hM : MR mm w n fr pl) : MR mm w' n fr pl := by
  intro i hi
  obtain ⟨h1, h2, h3, h4⟩ := hM i hi
  refine ⟨h1, h2, h3, fun k hk => ?_⟩
  unfold vsz at hk
  rw [h _ (by omega) (by omega)] at hk
  rw [h4 k hk]
  unfold vsw
  rw [h _ (by omega) (by omega)]
theorem VM_vs {mm : Nat → Int32} {V : vV} {i : Nat} {v : Int32} (hi : i < 2228 ∨ 2248 ≤ i) (h : VM mm V) : VM mm (vs V i v) :=
  fun t ht => MR_w (fun j h1 h2 => mj_upd_ne (by omega)) (h t ht)
theorem vr_P_upd {w : Nat → Int32} {ps : List vP} {i : Nat} {v : Int32} (hi : vout i) (h : vr_P w ps) : vr_P (mj_upd w i v) ps := by
  obtain ⟨h1, h2, h3⟩ := h
  unfold vout at hi
  refine ⟨by rw [mj_upd_ne (by omega)]; exact h1, h2, fun x q hx => ?_⟩
  have hx2 := (List.getElem?_eq_some_iff.mp hx).1
  exact vrow_upd (by omega) (by omega) (h3 x q hx)
theorem vr_P_eq {w w' : Nat → Int32} {ps : List vP} (he : ∀ i, 2898 ≤ i → i < 3923 → w' i = w i) (h : vr_P w ps) : vr_P w' ps := by
  obtain ⟨h1, h2, h3⟩ := h
  refine ⟨by rw [he _ (by omega) (by omega)]; exact h1, h2, fun x q hx => ?_⟩
  have hx2 := (List.getElem?_eq_some_iff.mp hx).1
  have := h3 x q hx
  unfold vrow at this ⊢
  rw [he _ (by omega) (by omega), he _ (by omega) (by omega), he _ (by omega) (by omega), he _ (by omega) (by omega)]
  exact this
theorem vtr_out {i : Nat} (h : vtr i) : vout i ∧ 2048 ≤ i := by
  unfold vtr at h
  unfold vout
  omega
theorem RR.vs {w : Nat → Int32} {V : vV} {i : Nat} {v : Int32} (hi : vtr i) (hp : i < 2228 ∨ 2248 ≤ i) (h : RR w V) : RR (mj_upd w i v) (vs V i v) := by
  obtain ⟨h1, h2, mm, h3, h4⟩ := h
  have ho := vtr_out hi
  refine ⟨fun j hj => ?_, vr_P_upd ho.1 h2, mm, fun p hp => ?_, VM_vs hp h4⟩
  · by_cases e : j = i
    · subst e
      show mj_upd w j v j = mj_upd V.1 j v j
      rw [mj_upd_self, mj_upd_self]
    · show mj_upd w i v j = mj_upd V.1 i v j
      rw [mj_upd_ne e, mj_upd_ne e]
      exact h1 j hj
  · rw [mj_upd_ne (by omega)]
    exact h3 p hp
theorem RR.at {w : Nat → Int32} {V : vV} {i : Nat} (h : RR w V) (hi : vtr i) : w i = V.1 i := h.1 i hi
/-- pieces change, nothing else -/
theorem RR.ps {w w' : Nat → Int32} {V : vV} {ps : List vP} (h : RR w V) (h1 : ∀ i, vout i → w' i = w i) (h2 : vr_P w' ps) (h3 : ∀ mm, VM mm V → VM mm (V.1, ps, V.2.2)) : RR w' (V.1, ps, V.2.2) := by
  obtain ⟨g1, -, mm, g3, g4⟩ := h
  refine ⟨fun i hi => ?_, h2, mm, fun p hp => ?_, h3 mm g4⟩
  · rw [h1 i (vtr_out hi).1]
    exact g1 i hi
  · rw [h1 p (Or.inl (by omega))]
    exact g3 p hp
/-- a line of the log came -/
def vlg1 (V : vV) : vV := vs V 2067 (V.1 2067 + 1)
theorem RR.lg {w w' : Nat → Int32} {V : vV} (h : RR w V) (h1 : w' 2067 = w 2067 + 1) (h2 : ∀ i, vlg i → w' i = w i) : RR w' (vlg1 V) := by
  have hq := RR.vs (i := 2067) (v := w 2067 + 1) (Or.inl (by omega)) (Or.inl (by omega)) h
  have e : V.1 2067 + 1 = w 2067 + 1 := by rw [h.at (Or.inl (by omega))]
  unfold vlg1
  rw [e]
  obtain ⟨g1, g2, mm, g3, g4⟩ := hq
  refine ⟨fun i hi => ?_, vr_P_eq (fun i q1 q2 => ?_) g2, mm, fun p hp => ?_, g4⟩
  · rw [← g1 i hi]
    by_cases e : i = 2067
    · subst e
      rw [mj_upd_self, h1]
    · rw [mj_upd_ne e]
      exact h2 i (by unfold vtr at hi; unfold vlg; omega)
  · rw [mj_upd_ne (by omega)]
    exact h2 i (Or.inr (by omega))
  · rw [← g3 p hp, mj_upd_ne (by omega)]
    exact h2 p (Or.inl (by omega))
/-! ### the reference: nothing else of the store changes -/
def RF (s s' : wt_S) : Prop := (∀ c, c < 110 → s' c = s c) ∧ s' 112 = s 112 ∧ s' 113 = s 113 ∧ s' 110 4 = s 110 4 ∧ s' 110 5 = s 110 5
theorem RF.refl {s : wt_S} : RF s s := ⟨fun _ _ => rfl, rfl, rfl, rfl, rfl⟩
theorem RF.trans {s s1 s2 : wt_S} (h : RF s s1) (h' : RF s1 s2) : RF s s2 := ⟨fun c hc => (h'.1 c hc).trans (h.1 c hc), h'.2.1.trans h.2.1, h'.2.2.1.trans h.2.2.1, h'.2.2.2.1.trans h.2.2.2.1, h'.2.2.2.2.trans h.2.2.2.2⟩
theorem RF.uf {s : wt_S} {f : Nat → Int32} {a : Nat} (ha : a = 111 ∨ (114 ≤ a)) : RF s (wt_uf s a f) :=
  ⟨fun c hc => wt_uf_ne (by omega), wt_uf_ne (by omega), wt_uf_ne (by omega), by rw [wt_uf_ne (by omega)], by rw [wt_uf_ne (by omega)]⟩
theorem RF.uo {s : wt_S} {k : Nat} {v : Int32} (hk : k ≠ 4) (hk5 : k ≠ 5) : RF s (wt_u s 110 k v) :=
  ⟨fun c hc => wt_u_ne (by omega), wt_u_ne (by omega), wt_u_ne (by omega), by rw [wt_u_nk (by omega)], by rw [wt_u_nk (by omega)]⟩
/-- the store holds the reference's picture, not on the endless stack -/
def RS (s : wt_S) (V : vV) : Prop := s 110 5 = 0 ∧ RR (s 111) V
theorem RS.uf {s : wt_S} {w : Nat → Int32} {V V' : vV} (h : RS s V) (h' : RR w V') : RS (wt_uf s 111 w) V' := by
  refine ⟨?_, ?_⟩
  · rw [wt_uf_ne (by omega)]
    exact h.1
  · rw [wt_uf_at]
    exact h'
theorem RS.u {s : wt_S} {V : vV} {i : Nat} {v : Int32} (h : RS s V) (hi : vtr i) (hp : i < 2228 ∨ 2248 ≤ i) : RS (wt_u s 111 i v) (vs V i v) := h.uf (h.2.vs hi hp)
def vcn (V : vV) (k : Nat) (v : Int32) : vV := vs V (2054 + k) (V.1 (2054 + k) + v)
theorem q_cnt {s : wt_S} {V : vV} {c : Nat} {v : Int32} (h : RS s V) (hc : c < 12) : gX11_counts s (nI c) v = some ((), wt_u s 111 (2054 + c) (V.1 (2054 + c) + v)) ∧ RS (wt_u s 111 (2054 + c) (V.1 (2054 + c) + v)) (vcn V c v) := by
  have ht : vtr (2054 + c) := Or.inl (by omega)
  refine ⟨?_, h.u ht (Or.inl (by omega))⟩
  rw [q_counts0 h.1 hc, h.2.at ht]
theorem q_log {s : wt_S} {V : vV} {a b c d : Int32} {k : Nat} (h : RS s V) (hk : V.1 2067 = nI k) (hl : k < 2147483648) : ∃ s', gX11_logs s a b c d = some ((), s') ∧ RS s' (vlg1 V) ∧ RF s s' := by
  obtain ⟨w', e1, e2, e3⟩ := q_logs (s := s) (a := a) (b := b) (c := c) (d := d) (by rw [h.2.at (Or.inl (by omega))]; exact hk) hl
  exact ⟨_, e1, h.uf (h.2.lg e2 e3), RF.uf (Or.inl rfl)⟩
end
section
/-! ===== what always holds ===== -/
def vwd (w : Nat → Int32) (f : Nat) : Nat := vsz w f + 2
def vli (w : Nat → Int32) (f : Nat) : Nat := (w (2248 + f)).toInt.toNat
def vco (f k : Nat) : Nat := 2258 + 4 * (16 * f + k)
/-- words of the first frames -/
def vus (w : Nat → Int32) (fr : Nat → vF) : Nat → Nat
  | 0 => 0
  | n + 1 => vus w fr n + vwd w (fr n).1
/-- those of them in one piece -/
def vud (w : Nat → Int32) (fr : Nat → vF) (k : Nat) : Nat → Nat
  | 0 => 0
  | n + 1 => vud w fr k n + if (fr n).2.1 = k then vwd w (fr n).1 else 0
/-- words on a side for a frame that was called back -/
def vfo (w : Nat → Int32) (F : vF) : Nat := if 2048 ≤ F.2.2.2.1 then (w (vco (F.2.2.2.1 % 1024 / 32) (F.2.2.2.1 % 32 - 1) + 1)).toInt.toNat else 0
def vos (w : Nat → Int32) (fr : Nat → vF) : Nat → Nat
  | 0 => 0
  | n + 1 => vos w fr n + vfo w (fr n)
def vslt (w : Nat → Int32) (f : Nat) (x : Int32) : Prop := ∃ k, x = nI k ∧ k < vsz w f
def vnum (w : Nat → Int32) (f : Nat) (x : Int32) : Prop := ∃ k, x = nI k ∧ k < vsz w f ∧ ¬ bt (w (2238 + f)) k
def vptr (w : Nat → Int32) (f : Nat) (x : Int32) : Prop := ∃ k, x = nI k ∧ k < vsz w f ∧ bt (w (2238 + f)) k
def vfun (x : Int32) : Prop := ∃ f, x = nI f ∧ f < 10
/-- a line that can be -/
def vcan (w : Nat → Int32) (f : Nat) (kind a b c : Int32) : Prop :=
  (0 ≤ kind.toInt ∧ kind.toInt ≤ 10) ∧ (kind = 0 → vnum w f a) ∧ (kind = 1 ∨ kind = 2 → vnum w f a ∧ vnum w f b ∧ vnum w f c) ∧ (kind = 3 → vptr w f a ∧ vnum w f b) ∧ (kind = 4 → vnum w f a ∧ vptr w f b) ∧ (kind = 5 → vptr w f a ∧ vnum w f b) ∧
  (kind = 6 → vfun a ∧ vslt w f b ∧ vnum w f c) ∧ (kind = 7 → vnum w f a ∧ ∃ l, b = nI l ∧ l ≤ 15) ∧ (kind = 8 → vnum w f a) ∧ (kind = 9 → (∃ n, a = nI n ∧ 1 ≤ n ∧ n ≤ 40) ∧ (b = -1 ∨ vfun b) ∧ vnum w f c)
def vlin (w : Nat → Int32) (f k : Nat) : Prop := vcan w f (w (vco f k)) (w (vco f k + 1)) (w (vco f k + 2)) (w (vco f k + 3))
/-- the program -/
def Ipr (w : Nat → Int32) : Prop := ∀ f, f < 10 → (∃ z, z ≤ 8 ∧ w (2228 + f) = nI z) ∧ (∃ l, l ≤ 16 ∧ w (2248 + f) = nI l) ∧ ∀ k, k < vli w f → vlin w f k
/-- what is set -/
def Ise (lim : Nat) (w : Nat → Int32) : Prop := (∃ z, w 2048 = nI z ∧ 8 ≤ z ∧ z ≤ lim ∧ lim ≤ 256 * z) ∧ (w 2049 = 0 ∨ w 2049 = 1) ∧ (w 2050 = 0 ∨ w 2050 = 1) ∧ (∃ z, w 2051 = nI z ∧ 10 ≤ z ∧ z ≤ 80) ∧ (∃ z, w 2052 = nI z ∧ 1 ≤ z ∧ z ≤ 3) ∧ (∃ z, w 2053 = nI z ∧ z ≤ 1000000)
/-- pieces -/
def Ipc (lim : Nat) (w : Nat → Int32) (ps : List vP) : Prop := vo lim ps ∧ ps.Pairwise (fun p q => ¬ (p.2.2.1 = q.2.2.1 ∧ p.2.2.2 = q.2.2.2)) ∧ ∀ q ∈ ps, (w 2048).toInt.toNat ≤ q.2.1
/-- how the frames of a task lie -/
def Geo (w : Nat → Int32) (ps : List vP) (t np n : Nat) (fr : Nat → vF) : Prop :=
  (∀ i, i < n → (fr i).2.1 < np ∧ (fr i).2.2.1 + vwd w (fr i).1 ≤ vln ps t (fr i).2.1) ∧ ((fr 0).2.2.1 = 0 ∧ (fr 0).2.1 ≤ 1) ∧
  (∀ i, i + 1 < n → ((fr (i + 1)).2.1 = (fr i).2.1 ∧ (fr (i + 1)).2.2.1 = (fr i).2.2.1 + vwd w (fr i).1) ∨ ((fr (i + 1)).2.1 = (fr i).2.1 + 1 ∧ (fr (i + 1)).2.2.1 = 0))
def vcv (F : vF) : Prop := F.2.2.2.1 / 1024 % 2 = 1
/-- how deep a function is: none, if without an end -/
def vcal (w : Nat → Int32) (f k : Nat) : Int32 := if w (vco f k) = 6 then w (vco f k + 1) else if w (vco f k) = 9 then w (vco f k + 2) else -1
def vdl (w : Nat → Int32) (D : Nat → Option Nat) (f : Nat) : Nat → Option Nat
  | 0 => some 0
  | k + 1 => match vdl w D f k with
    | none => none
    | some m => if tld w (vcal w f k) then (match D (vcal w f k).toInt.toNat with
      | none => none
      | some d => some (max m d)) else some m
def vdp (w : Nat → Int32) : Nat → Nat → Option Nat
  | 0, _ => none
  | m + 1, f => match vdl w (vdp w m) f (vli w f) with
    | none => none
    | some d => some (vwd w f + d)
/-- BACK of a frame, by the one below it -/
def vbk (w : Nat → Int32) (F G : vF) : Prop := F.2.2.2.1 < 4096 ∧ F.2.2.2.1 % 1024 / 32 = G.1 ∧ 1 ≤ F.2.2.2.1 % 32 ∧ F.2.2.2.1 % 32 - 1 < vli w G.1 ∧
  ((F.2.2.2.1 < 2048 ∧ w (vco G.1 (F.2.2.2.1 % 32 - 1)) = 6 ∧ w (vco G.1 (F.2.2.2.1 % 32 - 1) + 1) = nI F.1) ∨ (2048 ≤ F.2.2.2.1 ∧ w (vco G.1 (F.2.2.2.1 % 32 - 1)) = 9 ∧ w (vco G.1 (F.2.2.2.1 % 32 - 1) + 2) = nI F.1))
/-- the frames of a task -/
def Ifr (w : Nat → Int32) (ps : List vP) (t n : Nat) (fr : Nat → vF) : Prop :=
  (∀ i, i < n → (fr i).1 < 10 ∧ 1 ≤ vsz w (fr i).1) ∧ ((fr 0).2.2.2.1 = 0 ∨ (fr 0).2.2.2.1 = 1024) ∧ (∀ i, i + 1 < n → vbk w (fr (i + 1)) (fr i)) ∧
  (∀ i, i + 1 < n → vcv (fr i) → vcv (fr (i + 1))) ∧ (∀ i, i < n → vcv (fr i) → ∃ d, vdp w 10 (fr i).1 = some d ∧ d ≤ (w 2051).toInt.toNat ∧ (fr i).2.2.1 + d ≤ vln ps t (fr i).2.1) ∧
  (∀ i, i < n → ∀ k, k < vsz w (fr i).1 → bt (w (2238 + (fr i).1)) k → ∀ q, (fr i).2.2.2.2.2 k = some q → q.1 ≤ i ∧ q.2 < vsz w (fr q.1).1 ∧ ¬ bt (w (2238 + (fr q.1).1)) q.2)
/-- the pieces of a task -/
def Itp (ps : List vP) (t np : Nat) : Prop := (∀ k, k < np → ∃ q ∈ ps, q.2.2.1 = t ∧ q.2.2.2 = k) ∧ ∀ q ∈ ps, q.2.2.1 = t → q.2.2.2 < np ∨ q.2.2.2 = 1000
def vbz (w : Nat → Int32) (t : Nat) : Prop := w (3926 + t) = 1 ∨ w (3926 + t) = 2
/-- a task that is going or waiting -/
def Ibz (lim : Nat) (V : vV) (t : Nat) : Prop := ∃ n np, V.2.2.1 t = n + 1 ∧ V.1 (3954 + t) = nI (n + 1) ∧ V.1 (4066 + t) = nI np ∧ (1 ≤ np ∧ np ≤ 256) ∧ Itp V.2.1 t np ∧
  ((V.1 (3933 + t) = 0 ∧ np = 1 ∧ ∀ q ∈ V.2.1, ¬ (q.2.2.1 = t ∧ q.2.2.2 = 1000)) ∨ V.1 (3933 + t) = 1) ∧ Geo V.1 V.2.1 t np (n + 1) (V.2.2.2 t) ∧ (V.2.2.2 t n).2.1 = np - 1 ∧ Ifr V.1 V.2.1 t (n + 1) (V.2.2.2 t) ∧
  V.1 (3961 + t) = nI (vus V.1 (V.2.2.2 t) (n + 1)) ∧ V.1 (3982 + t) = nI (vpl V t n) ∧ V.1 (3975 + t) = nI (V.2.2.2 t n).1 ∧ (∃ l, l ≤ 16 ∧ V.1 (3968 + t) = nI l) ∧
  V.1 (3996 + t) = nI (vos V.1 (V.2.2.2 t) (n + 1)) ∧ vos V.1 (V.2.2.2 t) (n + 1) ≤ 1000000 ∧ ((V.1 (3989 + t) = -1 ∧ vos V.1 (V.2.2.2 t) (n + 1) = 0) ∨ ∃ k, k < 3 ∧ V.1 (3989 + t) = nI k ∧ V.1 (3923 + k) = nI t ∧ 1 ≤ vos V.1 (V.2.2.2 t) (n + 1)) ∧ tld V.1 (V.1 (4052 + t))
/-- one that is not -/
def Iid (V : vV) (t : Nat) : Prop := V.2.2.1 t = 0 ∧ V.1 (3954 + t) = 0 ∧ V.1 (4066 + t) = 0 ∧ V.1 (3961 + t) = 0 ∧ V.1 (3975 + t) = -1 ∧ V.1 (3989 + t) = -1 ∧ V.1 (3996 + t) = 0 ∧ (V.1 (3926 + t) = 0 ∨ V.1 (3926 + t) = 3 ∨ V.1 (3926 + t) = 4) ∧ ∀ q ∈ V.2.1, q.2.2.1 ≠ t
def Isd (w : Nat → Int32) : Prop := ∀ k, k < 3 → w (3923 + k) = -1 ∨ ∃ t, t < 6 ∧ w (3923 + k) = nI t ∧ w (3989 + t) = nI k
def VI (lim B : Nat) (V : vV) : Prop := Ise lim V.1 ∧ Ipr V.1 ∧ Ipc lim V.1 V.2.1 ∧ Isd V.1 ∧ (∃ k, k ≤ B ∧ V.1 2067 = nI k) ∧ ∀ t, t < 6 → (vbz V.1 t ∧ Ibz lim V t) ∨ Iid V t
/-! ### what follows at once -/
theorem vget {ps : List vP} {t k : Nat} (h : ∃ q ∈ ps, q.2.2.1 = t ∧ q.2.2.2 = k) : ∃ q ∈ ps, q.2.2.1 = t ∧ q.2.2.2 = k ∧ vat ps t k = q.1 ∧ vln ps t k = q.2.1 ∧ ps.find? (vkey t k) = some q := by
  have : (ps.find? (vkey t k)).isSome := by
    rw [List.find?_isSome]
    obtain ⟨q, h1, h2, h3⟩ := h
    exact ⟨q, h1, by simp [vkey, h2, h3]⟩
  obtain ⟨q, hq⟩ := Option.isSome_iff_exists.mp this
  have h1 := List.mem_of_find?_eq_some hq
  have h2 := List.find?_some hq
  have h2 : q.2.2.1 = t ∧ q.2.2.2 = k := by simpa [vkey] using h2
  refine ⟨q, h1, h2.1, h2.2, ?_, ?_, hq⟩
  · unfold vat; rw [hq]
  · unfold vln; rw [hq]
theorem vuniq {ps : List vP} (h : ps.Pairwise (fun p q => ¬ (p.2.2.1 = q.2.2.1 ∧ p.2.2.2 = q.2.2.2))) : ∀ p ∈ ps, ∀ q ∈ ps, p.2.2.1 = q.2.2.1 → p.2.2.2 = q.2.2.2 → p = q := by
  induction ps with
  | nil => intro p hp; cases hp
  | cons a ps ih =>
    obtain ⟨h1, h2⟩ := List.pairwise_cons.mp h
    intro p hp q hq e1 e2
    rcases List.mem_cons.mp hp with r1 | hp1 <;> rcases List.mem_cons.mp hq with r2 | hq1
    · rw [r1, r2]
    · rw [r1] at e1 e2; exact absurd ⟨e1, e2⟩ (h1 q hq1)
    · rw [r2] at e1 e2; exact absurd ⟨e1.symm, e2.symm⟩ (h1 p hp1)
    · exact ih h2 p hp1 q hq1 e1 e2
theorem vdisj {lim : Nat} {ps : List vP} (h : vo lim ps) : ∀ p ∈ ps, ∀ q ∈ ps, p ≠ q → p.1 + p.2.1 ≤ q.1 ∨ q.1 + q.2.1 ≤ p.1 := by
  induction ps with
  | nil => intro p hp; cases hp
  | cons a ps ih =>
    intro p hp q hq hn
    rcases List.mem_cons.mp hp with r1 | hp1 <;> rcases List.mem_cons.mp hq with r2 | hq1
    · exact absurd (r1.trans r2.symm) hn
    · rw [r1]; exact Or.inl (vo_head h q hq1)
    · rw [r2]; exact Or.inr (vo_head h p hp1)
    · exact ih (vo_tail h) p hp1 q hq1 hn
theorem Geo.lt {w : Nat → Int32} {ps : List vP} {t np n : Nat} {fr : Nat → vF} (h : Geo w ps t np n fr) {i j : Nat} (hij : i < j) (hj : j < n) : (fr i).2.1 < (fr j).2.1 ∨ ((fr i).2.1 = (fr j).2.1 ∧ (fr i).2.2.1 + vwd w (fr i).1 ≤ (fr j).2.2.1) := by
  induction j with
  | zero => omega
  | succ j ih =>
    have hs := h.2.2 j hj
    by_cases e : i = j
    · subst e
      rcases hs with ⟨h1, h2⟩ | ⟨h1, h2⟩
      · exact Or.inr ⟨h1.symm, by omega⟩
      · exact Or.inl (by omega)
    · rcases ih (by omega) (by omega) with h3 | ⟨h3, h4⟩
      · exact Or.inl (by omega)
      · rcases hs with ⟨h1, h2⟩ | ⟨h1, h2⟩
        · exact Or.inr ⟨by omega, by omega⟩
        · exact Or.inl (by omega)
/-- a frame lies in a piece of its task -/
theorem Geo.pc {w : Nat → Int32} {ps : List vP} {t np n : Nat} {fr : Nat → vF} (h : Geo w ps t np n fr) (hp : Itp ps t np) {i : Nat} (hi : i < n) : ∃ q ∈ ps, q.2.2.1 = t ∧ q.2.2.2 = (fr i).2.1 ∧ vat ps t (fr i).2.1 = q.1 ∧ q.1 + (fr i).2.2.1 + vwd w (fr i).1 ≤ q.1 + q.2.1 := by
  obtain ⟨h1, h2⟩ := h.1 i hi
  obtain ⟨q, q1, q2, q3, q4, q5, -⟩ := vget (hp.1 _ h1)
  exact ⟨q, q1, q2, q3, q4, by omega⟩
/-- frames have no word in common -/
theorem Geo.dj {w : Nat → Int32} {lim : Nat} {ps : List vP} {t t' np np' n n' : Nat} {fr fr' : Nat → vF} (ho : vo lim ps) (hu : ps.Pairwise (fun p q => ¬ (p.2.2.1 = q.2.2.1 ∧ p.2.2.2 = q.2.2.2))) (h : Geo w ps t np n fr) (hp : Itp ps t np) (h' : Geo w ps t' np' n' fr') (hp' : Itp ps t' np') (he : t = t' → fr = fr' ∧ n = n') {i j : Nat} (hi : i < n) (hj : j < n') (hne : ¬ (t = t' ∧ i = j)) :
    vat ps t (fr i).2.1 + (fr i).2.2.1 + vwd w (fr i).1 ≤ vat ps t' (fr' j).2.1 + (fr' j).2.2.1 ∨ vat ps t' (fr' j).2.1 + (fr' j).2.2.1 + vwd w (fr' j).1 ≤ vat ps t (fr i).2.1 + (fr i).2.2.1 := by
  obtain ⟨p, p1, p2, p3, p4, p5⟩ := h.pc hp hi
  obtain ⟨q, q1, q2, q3, q4, q5⟩ := h'.pc hp' hj
  by_cases e : p = q
  · subst e
    have et : t = t' := p2.symm.trans q2
    have ef := he et
    subst et
    obtain ⟨ef, en⟩ := ef
    subst ef
    subst en
    have hij : i ≠ j := fun e => hne ⟨rfl, e⟩
    rcases Nat.lt_or_gt_of_ne hij with hlt | hgt
    · rcases h.lt hlt hj with h6 | ⟨h6, h7⟩
      · omega
      · left; omega
    · rcases h.lt hgt hi with h6 | ⟨h6, h7⟩
      · omega
      · right; omega
  · rcases vdisj ho p p1 q q1 e with h6 | h6
    · left; omega
    · right; omega
end
section
/-! ===== bounds, and how frames as words change ===== -/
def vsum (f : Nat → Nat) : Nat → Nat
  | 0 => 0
  | k + 1 => vsum f k + f k
theorem vsum_le {f g : Nat → Nat} : ∀ {k : Nat}, (∀ j, j < k → f j ≤ g j) → vsum f k ≤ vsum g k := by
  intro k
  induction k with
  | zero => intro _; exact Nat.le_refl _
  | succ k ih => intro h; unfold vsum; have := ih (fun j hj => h j (by omega)); have := h k (by omega); omega
theorem vsum_if {g : Nat → Nat} {j0 c : Nat} : ∀ {k : Nat}, vsum (fun j => if j = j0 then c else g j) k ≤ c + vsum g k ∧ (k ≤ j0 → vsum (fun j => if j = j0 then c else g j) k ≤ vsum g k) := by
  intro k
  induction k with
  | zero => unfold vsum; omega
  | succ k ih =>
    unfold vsum
    by_cases e : k = j0
    · subst e
      rw [if_pos rfl]
      have := ih.2 (Nat.le_refl _)
      omega
    · rw [if_neg e]
      omega
/-- words of all pieces -/
def vall (ps : List vP) : Nat := ps.foldr (fun q n => q.2.1 + n) 0
theorem vall_le {lim : Nat} : ∀ {ps : List vP} {a : Nat}, vo lim ps → (∀ q ∈ ps, a ≤ q.1) → a ≤ lim → a + vall ps ≤ lim := by
  intro ps
  induction ps with
  | nil => intro a _ _ h; exact h
  | cons q ps ih =>
    intro a ho ha hl
    have h1 := ho.2 q (List.mem_cons_self ..)
    have h2 := ha q (List.mem_cons_self ..)
    have := ih (a := q.1 + q.2.1) (vo_tail ho) (vo_head ho) h1.2.1
    show a + (q.2.1 + vall ps) ≤ lim
    omega
theorem vln_cons {q : vP} {ps : List vP} {t k : Nat} : vln (q :: ps) t k = if q.2.2.1 = t ∧ q.2.2.2 = k then q.2.1 else vln ps t k := by
  unfold vln
  by_cases h : q.2.2.1 = t ∧ q.2.2.2 = k
  · rw [if_pos h, List.find?_cons_of_pos (by simpa [vkey] using h)]
  · rw [if_neg h, List.find?_cons_of_neg (by simpa [vkey] using h)]
theorem vsum_all {t : Nat} : ∀ {ps : List vP} {k : Nat}, vsum (fun j => vln ps t j) k ≤ vall ps := by
  intro ps
  induction ps with
  | nil =>
    intro k
    have : ∀ k, vsum (fun j => vln [] t j) k = 0 := by
      intro k
      induction k with
      | zero => rfl
      | succ k ih => unfold vsum; rw [ih]; rfl
    rw [this]
    exact Nat.zero_le _
  | cons q ps ih =>
    intro k
    show _ ≤ q.2.1 + vall ps
    by_cases h : q.2.2.1 = t
    · have e : (fun j => vln (q :: ps) t j) = (fun j => if j = q.2.2.2 then q.2.1 else vln ps t j) := by
        funext j
        rw [vln_cons]
        by_cases e : j = q.2.2.2
        · rw [if_pos ⟨h, e.symm⟩, if_pos e]
        · rw [if_neg (fun x => e x.2.symm), if_neg e]
      rw [e]
      have := (vsum_if (g := fun j => vln ps t j) (j0 := q.2.2.2) (c := q.2.1) (k := k)).1
      have := ih (k := k)
      omega
    · have e : (fun j => vln (q :: ps) t j) = (fun j => vln ps t j) := by
        funext j
        rw [vln_cons, if_neg (fun x => h x.1)]
      rw [e]
      have := ih (k := k)
      omega
theorem vsum_mono {f : Nat → Nat} {a b : Nat} (h : a ≤ b) : vsum f a ≤ vsum f b := by
  induction h with
  | refl => exact Nat.le_refl _
  | step _ ih => exact Nat.le_trans ih (Nat.le_add_right _ _)
theorem Geo.us {w : Nat → Int32} {ps : List vP} {t np n : Nat} {fr : Nat → vF} (h : Geo w ps t np n fr) : ∀ i, i < n → vus w fr (i + 1) ≤ vsum (fun j => vln ps t j) (fr i).2.1 + (fr i).2.2.1 + vwd w (fr i).1 := by
  intro i
  induction i with
  | zero => intro _; unfold vus vus; omega
  | succ i ih =>
    intro hi
    have h1 := ih (by omega)
    have h2 := (h.1 i (by omega)).2
    rw [vus]
    rcases h.2.2 i hi with ⟨e1, e2⟩ | ⟨e1, e2⟩
    · rw [e1, e2]; omega
    · rw [e1, e2, vsum]; omega
/-- all words of a task's frames -/
theorem Geo.all {w : Nat → Int32} {lim : Nat} {ps : List vP} {t np n : Nat} {fr : Nat → vF} (h : Geo w ps t np (n + 1) fr) (ho : vo lim ps) : vus w fr (n + 1) ≤ lim := by
  have h1 := h.us n (by omega)
  have h2 := (h.1 n (by omega)).2
  have h3 := vsum_all (t := t) (ps := ps) (k := (fr n).2.1 + 1)
  rw [vsum] at h3
  have h4 := vall_le (a := 0) ho (fun _ _ => Nat.zero_le _) (Nat.zero_le _)
  omega
theorem vus3 {w : Nat → Int32} {fr : Nat → vF} : ∀ {n : Nat}, (∀ i, i < n → 1 ≤ vsz w (fr i).1) → 3 * n ≤ vus w fr n := by
  intro n
  induction n with
  | zero => intro _; exact Nat.le_refl _
  | succ n ih => intro h; have := ih (fun i hi => h i (by omega)); have := h n (by omega); unfold vus vwd; omega
/-- all pieces are 256 at most -/
theorem vlen {lim z : Nat} {ps : List vP} (ho : vo lim ps) (hz : ∀ q ∈ ps, z ≤ q.2.1) : ps.length * z ≤ lim := by
  have h1 : ∀ (ps : List vP), (∀ q ∈ ps, z ≤ q.2.1) → ps.length * z ≤ vall ps := by
    intro ps
    induction ps with
    | nil => intro _; simp
    | cons q ps ih =>
      intro h
      have a := ih (fun p hp => h p (List.mem_cons_of_mem _ hp))
      have b := h q (List.mem_cons_self ..)
      show (ps.length + 1) * z ≤ q.2.1 + vall ps
      rw [Nat.add_mul, Nat.one_mul]
      omega
  have := h1 ps hz
  have h4 := vall_le (a := 0) ho (fun _ _ => Nat.zero_le _) (Nat.zero_le _)
  omega
/-- what of it the frames as words stand on -/
def VJ (lim : Nat) (V : vV) : Prop := Ipr V.1 ∧ vo lim V.2.1 ∧ V.2.1.Pairwise (fun p q => ¬ (p.2.2.1 = q.2.2.1 ∧ p.2.2.2 = q.2.2.2)) ∧ ∀ t, t < 6 → 0 < V.2.2.1 t → ∃ np, Itp V.2.1 t np ∧ Geo V.1 V.2.1 t np (V.2.2.1 t) (V.2.2.2 t) ∧ Ifr V.1 V.2.1 t (V.2.2.1 t) (V.2.2.2 t)
section
variable {lim B : Nat} {V : vV}
theorem VI.bz (h : VI lim B V) {t : Nat} (ht : t < 6) (hn : 0 < V.2.2.1 t) : vbz V.1 t ∧ Ibz lim V t := by
  rcases h.2.2.2.2.2 t ht with h1 | h1
  · exact h1
  · exact absurd h1.1 (by omega)
theorem VI.J (h : VI lim B V) : VJ lim V := by
  refine ⟨h.2.1, h.2.2.1.1, h.2.2.1.2.1, fun t ht hn => ?_⟩
  obtain ⟨-, n, np, e, -, -, -, h2, -, h3, -, h4, -⟩ := h.bz ht hn
  rw [e]
  exact ⟨np, h2, h3, h4⟩
theorem VJ.geo (h : VJ lim V) {t : Nat} (ht : t < 6) (hn : 0 < V.2.2.1 t) : ∃ np, Itp V.2.1 t np ∧ Geo V.1 V.2.1 t np (V.2.2.1 t) (V.2.2.2 t) ∧ Ifr V.1 V.2.1 t (V.2.2.1 t) (V.2.2.2 t) := h.2.2.2 t ht hn
theorem VJ.dj (h : VJ lim V) {t t' i j : Nat} (ht : t < 6) (ht' : t' < 6) (hi : i < V.2.2.1 t) (hj : j < V.2.2.1 t') (hne : ¬ (t = t' ∧ i = j)) : vpl V t i + vwd V.1 (V.2.2.2 t i).1 ≤ vpl V t' j ∨ vpl V t' j + vwd V.1 (V.2.2.2 t' j).1 ≤ vpl V t i := by
  obtain ⟨np, a1, a2, -⟩ := h.geo ht (by omega)
  obtain ⟨np', b1, b2, -⟩ := h.geo ht' (by omega)
  exact Geo.dj h.2.1 h.2.2.1 a2 a1 b2 b1 (fun e => by subst e; exact ⟨rfl, rfl⟩) hi hj hne
/-- a frame lies within the memory -/
theorem VJ.fit (h : VJ lim V) {t i : Nat} (ht : t < 6) (hi : i < V.2.2.1 t) : (V.2.2.2 t i).1 < 10 ∧ 1 ≤ vsz V.1 (V.2.2.2 t i).1 ∧ vpl V t i + vwd V.1 (V.2.2.2 t i).1 ≤ lim := by
  obtain ⟨np, a1, a2, a3⟩ := h.geo ht (by omega)
  obtain ⟨q, q1, q2, q3, q4, q5⟩ := a2.pc a1 hi
  have := h.2.1.2 q q1
  refine ⟨(a3.1 i hi).1, (a3.1 i hi).2, ?_⟩
  unfold vpl
  omega
end
theorem vsz_of {w : Nat → Int32} {f z : Nat} (h : w (2228 + f) = nI z) (hz : z < 100) : vsz w f = z := by
  unfold vsz
  rw [h, nI_int (by omega)]
  rfl
theorem vli_of {w : Nat → Int32} {f z : Nat} (h : w (2248 + f) = nI z) (hz : z < 100) : vli w f = z := by
  unfold vli
  rw [h, nI_int (by omega)]
  rfl
theorem Ipr.sz {w : Nat → Int32} (h : Ipr w) {f : Nat} (hf : f < 10) : w (2228 + f) = nI (vsz w f) ∧ vsz w f ≤ 8 := by
  obtain ⟨⟨z, h1, h2⟩, -⟩ := h f hf
  rw [vsz_of h2 (by omega)]
  exact ⟨h2, h1⟩
theorem Ipr.li {w : Nat → Int32} (h : Ipr w) {f : Nat} (hf : f < 10) : w (2248 + f) = nI (vli w f) ∧ vli w f ≤ 16 := by
  obtain ⟨-, ⟨z, h1, h2⟩, -⟩ := h f hf
  rw [vli_of h2 (by omega)]
  exact ⟨h2, h1⟩
theorem Ipr.wd {w : Nat → Int32} (h : Ipr w) {f : Nat} (hf : f < 10) : w (2228 + f) + 2 = nI (vwd w f) ∧ vwd w f ≤ 10 := by
  obtain ⟨h1, h2⟩ := h.sz hf
  rw [h1, li_add2]
  exact ⟨rfl, by unfold vwd; omega⟩
/-! ### words change in places of no other frame -/
/-- frame i of task t is another one -/
def vfr (V : vV) (t i : Nat) (F : vF) : vV := (V.1, V.2.1, V.2.2.1, fun t' => if t' = t then mj_upd (V.2.2.2 t) i F else V.2.2.2 t')
theorem vfr_at {V : vV} {t i : Nat} {F : vF} : (vfr V t i F).2.2.2 t i = F := by
  show (if t = t then mj_upd (V.2.2.2 t) i F else V.2.2.2 t) i = F
  rw [if_pos rfl, mj_upd_self]
theorem vfr_ne {V : vV} {t i t' j : Nat} {F : vF} (h : ¬ (t' = t ∧ j = i)) : (vfr V t i F).2.2.2 t' j = V.2.2.2 t' j := by
  show (if t' = t then mj_upd (V.2.2.2 t) i F else V.2.2.2 t') j = _
  by_cases e : t' = t
  · subst e
    rw [if_pos rfl, mj_upd_ne (fun x => h ⟨rfl, x⟩)]
  · rw [if_neg e]
theorem vfr_pl {V : vV} {t i t' j : Nat} {F : vF} (h1 : F.2.1 = (V.2.2.2 t i).2.1) (h2 : F.2.2.1 = (V.2.2.2 t i).2.2.1) : vpl (vfr V t i F) t' j = vpl V t' j := by
  unfold vpl
  by_cases e : t' = t ∧ j = i
  · obtain ⟨rfl, rfl⟩ := e
    rw [vfr_at, h1, h2]
    rfl
  · rw [vfr_ne e]
    rfl
/-- a slot is written -/
theorem VM.set {lim : Nat} {V : vV} {mm : Nat → Int32} {t i k : Nat} {F : vF} {v : Int32} (hI : VJ lim V) (h : VM mm V) (ht : t < 6) (hi : i < V.2.2.1 t) (hk : k < vsz V.1 (V.2.2.2 t i).1) (h1 : F.1 = (V.2.2.2 t i).1) (h2 : F.2.1 = (V.2.2.2 t i).2.1) (h3 : F.2.2.1 = (V.2.2.2 t i).2.2.1) (h4 : F.2.2.2.1 = (V.2.2.2 t i).2.2.2.1)
    (hv : vsw V.1 (vpl V t) F k = v) (hs : ∀ k', k' ≠ k → vsw V.1 (vpl V t) F k' = vsw V.1 (vpl V t) (V.2.2.2 t i) k') : VM (mj_upd mm (vpl V t i + 2 + k) v) (vfr V t i F) := by
  intro t' ht' j hj
  have hj : j < V.2.2.1 t' := hj
  obtain ⟨g1, g2, g3, g4⟩ := h t' ht' j hj
  have ep : vpl (vfr V t i F) t' = vpl V t' := by funext x; exact vfr_pl h2 h3
  rw [ep]
  show _ ∧ _ ∧ _ ∧ ∀ k', k' < vsz V.1 _ → _ = vsw V.1 _ _ _
  by_cases e : t' = t ∧ j = i
  · obtain ⟨rfl, rfl⟩ := e
    rw [vfr_at, h1, h4]
    refine ⟨g1, ?_, ?_, fun k' hk' => ?_⟩
    · rw [mj_upd_ne (by omega)]; exact g2
    · rw [mj_upd_ne (by omega)]; exact g3
    · by_cases ek : k' = k
      · subst ek
        rw [mj_upd_self, hv]
      · rw [mj_upd_ne (by omega), hs k' ek]
        exact g4 k' hk'
  · rw [vfr_ne e]
    have hd := hI.dj ht' ht hj hi e
    unfold vwd at hd
    have hz := (hI.fit ht' hj).2.1
    refine ⟨g1, ?_, ?_, fun k' hk' => ?_⟩
    · rw [mj_upd_ne (by omega)]; exact g2
    · rw [mj_upd_ne (by omega)]; exact g3
    · rw [mj_upd_ne (by omega)]; exact g4 k' hk'
end
