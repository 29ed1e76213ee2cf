/-! ===== ints, places, what functions of the store are made of ===== -/
theorem mj_upd_ne {V : Type} {f : Nat → V} {k j : Nat} {v : V} (h : j ≠ k) : mj_upd f k v j = f j := by
  rw [mj_upd_eq]
  exact if_neg h
theorem mj_upd_self {V : Type} {f : Nat → V} {k : Nat} {v : V} : mj_upd f k v k = v := by
  rw [mj_upd_eq]
  exact if_pos rfl
theorem wt_u_at {s : wt_S} {a k : Nat} {v : Int32} : wt_u s a k v a = mj_upd (s a) k v := if_pos rfl
theorem wt_u_ne {s : wt_S} {a b k : Nat} {v : Int32} (h : b ≠ a) : wt_u s a k v b = s b := if_neg h
theorem wt_u_self {s : wt_S} {a k : Nat} {v : Int32} : wt_u s a k v a k = v := by rw [wt_u_at, mj_upd_self]
theorem wt_u_nk {s : wt_S} {a k j : Nat} {v : Int32} (h : j ≠ k) : wt_u s a k v a j = s a j := by rw [wt_u_at, mj_upd_ne h]
theorem wt_uf_at {s : wt_S} {a : Nat} {f : Nat → Int32} : wt_uf s a f a = f := if_pos rfl
theorem wt_uf_ne {s : wt_S} {a b : Nat} {f : Nat → Int32} (h : b ≠ a) : wt_uf s a f b = s b := if_neg h
theorem li_add {c k : Nat} : (@OfNat.ofNat Int32 c Int32.instOfNat) + nI k = nI ((@OfNat.ofNat Nat c (instOfNatNat c)) + k) := nI_add c k
theorem li_add2 {c k : Nat} : nI k + (@OfNat.ofNat Int32 c Int32.instOfNat) = nI (k + (@OfNat.ofNat Nat c (instOfNatNat c))) := nI_add k c
theorem nI_mul (a b : Nat) : nI a * nI b = nI (a * b) := (Int32.ofNat_mul a b).symm
theorem li_mul {c k : Nat} : (@OfNat.ofNat Int32 c Int32.instOfNat) * nI k = nI ((@OfNat.ofNat Nat c (instOfNatNat c)) * k) := nI_mul c k
theorem li_mul2 {c k : Nat} : nI k * (@OfNat.ofNat Int32 c Int32.instOfNat) = nI (k * (@OfNat.ofNat Nat c (instOfNatNat c))) := nI_mul k c
theorem li_eq {c : Nat} : (@OfNat.ofNat Int32 c Int32.instOfNat) = nI (@OfNat.ofNat Nat c (instOfNatNat c)) := rfl
theorem nI_sub {a b : Nat} (h : b ≤ a) : nI a - nI b = nI (a - b) := by
  have : nI (a - b) + nI b = nI a := by rw [nI_add, Nat.sub_add_cancel h]
  rw [← this]
  exact Int32.add_sub_cancel ..
theorem li_sub {a c : Nat} (h : (@OfNat.ofNat Nat c (instOfNatNat c)) ≤ a) : nI a - (@OfNat.ofNat Int32 c Int32.instOfNat) = nI (a - (@OfNat.ofNat Nat c (instOfNatNat c))) := nI_sub h
theorem li_sub2 {a c : Nat} (h : a ≤ (@OfNat.ofNat Nat c (instOfNatNat c))) : (@OfNat.ofNat Int32 c Int32.instOfNat) - nI a = nI ((@OfNat.ofNat Nat c (instOfNatNat c)) - a) := nI_sub h
theorem nI_int {n : Nat} (h : n < 2147483648) : (nI n).toInt = (n : Int) := nI_toInt (by omega)
theorem li_int {c : Nat} (h : (@OfNat.ofNat Nat c (instOfNatNat c)) < 2147483648) : (@OfNat.ofNat Int32 c Int32.instOfNat).toInt = ((@OfNat.ofNat Nat c (instOfNatNat c)) : Int) := nI_int h
theorem m1_int : (-1 : Int32).toInt = -1 := by decide
theorem nI_inj {a b : Nat} (ha : a < 2147483648) (hb : b < 2147483648) : nI a = nI b ↔ a = b := nI_eq (by omega) (by omega)
theorem nI_m1 {a : Nat} (ha : a < 2147483648) : nI a ≠ -1 := fun h => by
  have := congrArg Int32.toInt h
  rw [nI_int ha, m1_int] at this
  omega
/-- an int that is no less than 0 -/
theorem nI_ex {v : Int32} (h : 0 ≤ v.toInt) : ∃ n : Nat, n < 2147483648 ∧ v = nI n := by
  refine ⟨v.toInt.toNat, by have := v.toInt_lt; omega, ?_⟩
  rw [← Int32.toInt_inj, nI_int (by have := v.toInt_lt; omega)]
  omega
theorem nI_ext {v : Int32} {n : Nat} (h : n < 2147483648) : v = nI n ↔ v.toInt = n := by
  rw [← Int32.toInt_inj, nI_int h]
theorem ix_nI {α : Type} {k n : Nat} {F : Nat → Option α} (h : k < n) (hn : n ≤ 100000) : wt_ix (nI k) n F = F k := by
  unfold wt_ix
  rw [nI_int (by omega), if_pos (by omega)]
  rfl
theorem ix_of {α : Type} {i : Int32} {k n : Nat} {F : Nat → Option α} (hi : i = nI k) (h : k < n) (hn : n ≤ 100000) : wt_ix i n F = F k := by
  rw [hi, ix_nI h hn]
theorem cl_some {α β : Type} {v : β} {s : wt_S} {F : β → wt_S → Option α} : wt_cl (some (v, s)) F = F v s := rfl
theorem wr_eq {α : Type} {s : wt_S} {a k : Nat} {v : Int32} {F : wt_S → Option α} : wt_wr s a k v F = F (wt_u s a k v) := rfl
/-- 1 where it holds -/
def rb (p : Prop) [Decidable p] : Int32 := if p then 1 else 0
theorem rb_pos {p : Prop} [Decidable p] (h : p) : rb p = 1 := if_pos h
theorem rb_neg {p : Prop} [Decidable p] (h : ¬ p) : rb p = 0 := if_neg h
theorem rb_bit {p : Prop} [Decidable p] : rb p = 0 ∨ rb p = 1 := by
  by_cases h : p
  · exact Or.inr (rb_pos h)
  · exact Or.inl (rb_neg h)
theorem rb_zero {p : Prop} [Decidable p] : rb p = 0 ↔ ¬ p := by
  by_cases h : p
  · rw [rb_pos h]; simp [h]
  · rw [rb_neg h]; simp [h]
theorem rb_one {p : Prop} [Decidable p] : rb p = 1 ↔ p := by
  by_cases h : p
  · rw [rb_pos h]; simp [h]
  · rw [rb_neg h]; simp [h]
theorem rb_iff {p q : Prop} [Decidable p] [Decidable q] (h : p ↔ q) : rb p = rb q := by
  by_cases hp : p
  · rw [rb_pos hp, rb_pos (h.mp hp)]
  · rw [rb_neg hp, rb_neg (fun q => hp (h.mpr q))]
theorem rz_rb {α : Type} {p : Prop} [Decidable p] {F : Option α} : wt_rz (rb p) F = F := if_pos rb_bit
theorem if_rb {α : Type} {p : Prop} [Decidable p] {a b : α} : (if rb p = 0 then a else b) = if p then b else a := by
  by_cases h : p
  · rw [rb_pos h, if_pos h, if_neg (by decide)]
  · rw [rb_neg h, if_neg h, if_pos rfl]
theorem if_rbn {α : Type} {p : Prop} [Decidable p] {a b : α} : (if rb p ≠ 0 then a else b) = if p then a else b := by
  by_cases h : p
  · rw [rb_pos h, if_pos h, if_pos (by decide)]
  · rw [rb_neg h, if_neg h, if_neg (by simp)]
/-! ### the reference's small methods -/
section
variable {s : wt_S}
theorem q_isIn {v l m : Int32} : gX11_isIn s v l m = some (rb (l.toInt ≤ v.toInt ∧ v.toInt ≤ m.toInt), s) := by
  unfold gX11_isIn
  split
  · rw [rb_neg (by omega)]
  · split
    · rw [rb_neg (by omega)]
    · rw [rb_pos (by omega)]
/-- whether a bit is set -/
abbrev bt (x : Int32) (k : Nat) : Prop := (x >>> (nI k &&& 31)) &&& 1 = 1
theorem q_has {x : Int32} {k : Nat} : gX11_has s x (nI k) = some (rb (bt x k), s) := by
  unfold gX11_has
  split
  · rename_i h
    rw [rb_neg h]
  · rename_i h
    rw [rb_pos (Classical.not_not.mp h)]
theorem q_has0 {x : Int32} : gX11_has s x 0 = some (rb (bt x 0), s) := q_has (k := 0)
theorem q_isFunction {f : Int32} : gX11_isFunction s f = some (rb (0 ≤ f.toInt ∧ f.toInt ≤ 9), s) := by
  unfold gX11_isFunction
  rw [q_isIn, cl_some, rz_rb]
  rfl
theorem q_isTask {f : Int32} : gX11_isTask s f = some (rb (0 ≤ f.toInt ∧ f.toInt ≤ 5), s) := by
  unfold gX11_isTask
  rw [q_isIn, cl_some, rz_rb]
  rfl
/-- a function that is told -/
abbrev tld (w : Nat → Int32) (f : Int32) : Prop := (0 ≤ f.toInt ∧ f.toInt ≤ 9) ∧ 0 < (w (2228 + f.toInt.toNat)).toInt
theorem q_isTold {f : Int32} : gX11_isTold s f = some (rb (tld (s 111) f), s) := by
  unfold gX11_isTold
  rw [q_isFunction, cl_some, if_rb]
  split
  · rename_i h
    obtain ⟨n, hn, rfl⟩ := nI_ex h.1
    rw [nI_int hn] at h
    rw [li_add, ix_nI (by omega) (by omega)]
    split
    · rename_i h2
      rw [rb_neg]
      rintro ⟨-, q⟩
      rw [nI_int hn] at q
      exact absurd h2 (by show ¬ (s 111 (2228 + n)).toInt ≤ 0; rw [show (2228 + n) = 2228 + (n : Int).toNat by omega]; omega)
    · rename_i h2
      rw [rb_pos]
      refine ⟨by rw [nI_int hn]; exact h, ?_⟩
      rw [nI_int hn, show (n : Int).toNat = n by omega]
      have : ¬ (s 111 (2228 + n)).toInt ≤ 0 := h2
      omega
  · rename_i h
    rw [rb_neg (fun q => h q.1)]
theorem q_frameOf {f : Nat} (hf : f < 10) : gX11_frameOf s (nI f) = some (s 111 (2228 + f) + 2, s) := by
  unfold gX11_frameOf
  rw [li_add, ix_nI (by omega) (by omega)]
theorem q_codeAt {f l : Nat} : gX11_codeAt s (nI f) (nI l) = some (nI (2258 + 4 * (16 * f + l)), s) := by
  unfold gX11_codeAt
  rw [li_mul, nI_add, li_mul, li_add]
theorem q_isSlot {f : Nat} {x : Int32} (hf : f < 10) : gX11_isSlot s (nI f) x = some (rb (0 ≤ x.toInt ∧ x.toInt ≤ (s 111 (2228 + f) - 1).toInt), s) := by
  unfold gX11_isSlot
  rw [li_add, ix_nI (by omega) (by omega), q_isIn, cl_some, rz_rb]
  rfl
theorem q_word0 {p : Nat} (he : s 110 5 = 0) (hp : p < 2048) : gX11_word s (nI p) = some (s 111 p, s) := by
  unfold gX11_word
  rw [if_pos he, ix_nI (by omega) (by omega)]
theorem q_word1 {p : Nat} (he : s 110 5 ≠ 0) (hp : p < 20200) : gX11_word s (nI p) = some (s 114 p, s) := by
  unfold gX11_word
  rw [if_neg he, ix_nI (by omega) (by omega)]
theorem q_lays0 {p : Nat} {v : Int32} (he : s 110 5 = 0) (hp : p < 2048) : gX11_lays s (nI p) v = some ((), wt_u s 111 p v) := by
  unfold gX11_lays
  rw [if_pos he, ix_nI (by omega) (by omega)]
  rfl
theorem q_lays1 {p : Nat} {v : Int32} (he : s 110 5 ≠ 0) (hp : p < 20200) : gX11_lays s (nI p) v = some ((), wt_u s 114 p v) := by
  unfold gX11_lays
  rw [if_neg he, ix_nI (by omega) (by omega)]
  rfl
theorem q_counts0 {c : Nat} {v : Int32} (he : s 110 5 = 0) (hc : c < 12) : gX11_counts s (nI c) v = some ((), wt_u s 111 (2054 + c) (s 111 (2054 + c) + v)) := by
  unfold gX11_counts
  rw [if_neg (by simp [he]), li_add, ix_nI (by omega) (by omega), ix_nI (by omega) (by omega)]
  rfl
theorem q_counts1 {c v : Int32} (he : s 110 5 ≠ 0) : gX11_counts s c v = some ((), s) := by
  unfold gX11_counts
  rw [if_pos he]
theorem q_isBusy {t : Nat} (ht : t < 7) : gX11_isBusy s (nI t) = some (rb (s 111 (3926 + t) = 1 ∨ s 111 (3926 + t) = 2), s) := by
  unfold gX11_isBusy
  rw [li_add, ix_nI (by omega) (by omega)]
  split
  · rename_i h
    rw [rb_pos (Or.inl h)]
  · rename_i h
    rw [ix_nI (by omega) (by omega)]
    split
    · rename_i h2
      rw [rb_neg (fun q => q.elim h h2)]
    · rename_i h2
      rw [rb_pos (Or.inr (Classical.not_not.mp h2))]
end
