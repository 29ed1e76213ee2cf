/-! ===== the reference over its own cells ===== -/
/-- its object (at 110), its rows -/
def rf (w a k e fr sz to tk : Nat → Int32) (hi ie pa gr ip fu il : Int32) : mj_h Int32 :=
  [.inr (.inr (11, [.inr (some 111), .inr (some 112), .inr (some 113), .inr (some 114), .inl hi, .inl ie, .inr (some 115), .inr (some 116), .inr (some 117), .inl pa, .inl gr, .inl ip, .inl fu, .inl il, .inr (some 118)])),
   .inl (0, 4073, w), .inl (0, 4073, a), .inl (0, 4073, k), .inl (0, 20200, e), .inl (0, 256, fr), .inl (0, 256, sz), .inl (0, 256, to), .inl (1, 2048, tk)]
def wq_no : Nat → Option (mj_c Int32) := fun _ => none
/-- 110 cells of others -/
abbrev rf_P : Type := {l : mj_h Int32 // l.length = 110}
/-- the heap: 110 cells of others, then the reference's -/
def rf_e (pre : rf_P) (s : mj_h Int32) : mj_h Int32 := pre.1 ++ (s ++ [])
/-- a method of the reference runs -/
def rf_W (pre : rf_P) (d : Nat) (cd : List mj_r) (loc : mj_l Int32) (s : mj_h Int32) (Q : Option (mj_v Int32) → mj_h Int32 → Prop) : Prop := wq_W (rf_e pre) d cd cd loc [] s Q
theorem rf_ok {pre : rf_P} : wq_ok (wq_L 110 wq_no) (wq_U 110) (rf_e pre) := by
  have := wq_ok_row (pre := pre.1) (post := []) (P := wq_no) (fun a c h => by cases h)
  rw [pre.2] at this
  exact this
section
variable {pre : rf_P} {d : Nat} {cd suf : List mj_r} {loc : mj_l Int32} {s : mj_h Int32} {Q : Option (mj_v Int32) → mj_h Int32 → Prop}
theorem rf_go (stops : List Nat) (n : Nat) (h : wq (wq_L 110 wq_no) (wq_U 110) (rf_e pre) stops d cd Q n cd loc [] s) : rf_W pre d cd loc s Q := wq_sound rf_ok n h
theorem rf_at (stops : List Nat) (n : Nat) (h : wq1 (wq_L 110 wq_no) (wq_U 110) (rf_e pre) stops d cd Q n suf loc [] s) : wq_W (rf_e pre) d cd suf loc [] s Q := wq1_sound rf_ok n h
end
/-! ### ints -/
theorem ri_ofNat {n : Nat} (h : n < 2147483648) : (nI n).toInt = n := by
  rw [nI_toInt (by omega)]
theorem ri_lt {v : Int32} : -2147483648 ≤ v.toInt ∧ v.toInt < 2147483648 := ⟨v.le_toInt, v.toInt_lt⟩
theorem ri_add {a b : Int32} (h : -2147483648 ≤ a.toInt + b.toInt ∧ a.toInt + b.toInt < 2147483648) : (a + b).toInt = a.toInt + b.toInt := by
  rw [Int32.toInt_add]
  exact Int.bmod_eq_of_le (by omega) (by omega)
theorem ri_sub {a b : Int32} (h : -2147483648 ≤ a.toInt - b.toInt ∧ a.toInt - b.toInt < 2147483648) : (a - b).toInt = a.toInt - b.toInt := by
  rw [Int32.toInt_sub]
  exact Int.bmod_eq_of_le (by omega) (by omega)
theorem ri_lit {z : Int} (h : -2147483648 ≤ z ∧ z < 2147483648) : (Int32.ofInt z).toInt = z := Int32.toInt_ofInt_of_le (by omega) (by omega)
/-- a place that is known -/
theorem ri_ix0 {z : Int} {c n : Nat} (hz : z = c) (h : c < n ∧ n < 2147483648) : (Int32.ofInt z).toInt = c ∧ c < n := by
  subst hz
  exact ⟨ri_lit (by omega), h.1⟩
/-- a place in a row's part -/
theorem ri_ix {z : Int} {c k n : Nat} (hz : z = c) (h : c + k < n ∧ n < 2147483648) : (Int32.ofInt z + nI k).toInt = (c + k : Nat) ∧ c + k < n := by
  subst hz
  refine ⟨?_, h.1⟩
  rw [ri_add (by rw [ri_lit (by omega), ri_ofNat (by omega)]; omega), ri_lit (by omega), ri_ofNat (by omega)]
  omega
theorem ri_ixI {z : Int} {c n : Nat} {v : Int32} (hz : z = c) (hv : 0 ≤ v.toInt) (h : c + v.toInt.toNat < n ∧ n < 2147483648) : (Int32.ofInt z + v).toInt = (c + v.toInt.toNat : Nat) ∧ c + v.toInt.toNat < n := by
  subst hz
  refine ⟨?_, h.1⟩
  rw [ri_add (by rw [ri_lit (by omega)]; omega), ri_lit (by omega)]
  omega
section
variable {pre : rf_P} {d : Nat} {s : mj_h Int32} {w a k e fr sz to tk : Nat → Int32} {hi ie pa gr ip fu il : Int32}
theorem rf_isIn {v l m : Int32} : rf_W pre d kX11_isIn (mj_ent 3 [.inl v, .inl l, .inl m]) s (fun r s' => r = some (.inl (if l.toInt ≤ v.toInt ∧ v.toInt ≤ m.toInt then 1 else 0)) ∧ s' = s) := by
  refine rf_go [] 20 ?_
  constructor
  · intro (h : v.toInt < l.toInt)
    refine ⟨Or.inl rfl, ?_, rfl⟩
    rw [if_neg (by omega)]
    rfl
  · intro (h1 : ¬ v.toInt < l.toInt)
    constructor
    · intro (h : m.toInt < v.toInt)
      refine ⟨Or.inl rfl, ?_, rfl⟩
      rw [if_neg (by omega)]
      rfl
    · intro (h : ¬ m.toInt < v.toInt)
      refine ⟨Or.inr rfl, ?_, rfl⟩
      rw [if_pos (by omega)]
      rfl
/-- where the first gap of so many begins, from a piece on -/
def rg_gap (w : Nat → Int32) (words : Int32) : Nat → Nat → Int32 → Int32
  | 0, _, at_ => if words.toInt ≤ (2048 - at_ : Int32).toInt then at_ else -1
  | n + 1, k, at_ => if words.toInt ≤ (w (2899 + k) - at_).toInt then at_ else rg_gap w words n (k + 1) (w (2899 + k) + w (3155 + k))
theorem rf_gapFor {m : Nat} {words : Int32} (hm : m ≤ 256) (hw : w 2898 = nI m) : rf_W pre d kX11_gapFor (mj_ent 4 [.inr (some 110), .inl words]) (rf w a k e fr sz to tk hi ie pa gr ip fu il) (fun r s' => r = some (.inl (rg_gap w words m 0 0)) ∧ s' = rf w a k e fr sz to tk hi ie pa gr ip fu il) := by
  have loop : ∀ n k0 at_, n + k0 = m → wq_W (rf_e pre) d kX11_gapFor (mj_drop 4 kX11_gapFor) [some (.inr (some 110)), some (.inl words), some (.inl at_), some (.inl (nI k0))] [] (rf w a k e fr sz to tk hi ie pa gr ip fu il) (fun r s' => r = some (.inl (rg_gap w words n k0 at_)) ∧ s' = rf w a k e fr sz to tk hi ie pa gr ip fu il) := by
    intro n
    induction n with
    | zero =>
      intro k0 at_ hk
      refine rf_at [4] 60 ⟨2898, ri_ix0 rfl (by decide), ?_⟩
      constructor
      · intro _
        constructor
        · intro (h : (2048 - at_ : Int32).toInt < words.toInt)
          refine ⟨?_, rfl⟩
          unfold rg_gap
          rw [if_neg (by omega)]
          rfl
        · intro (h : ¬ (2048 - at_ : Int32).toInt < words.toInt)
          refine ⟨?_, rfl⟩
          unfold rg_gap
          rw [if_pos (by omega)]
      · intro (h : ¬ (w 2898).toInt ≤ (nI k0).toInt)
        rw [hw, ri_ofNat (by omega), ri_ofNat (by omega)] at h
        omega
    | succ n ih =>
      intro k0 at_ hk
      refine rf_at [4] 60 ⟨2898, ri_ix0 rfl (by decide), ?_⟩
      constructor
      · intro (h : (w 2898).toInt ≤ (nI k0).toInt)
        rw [hw, ri_ofNat (by omega), ri_ofNat (by omega)] at h
        omega
      · intro _
        refine ⟨2899 + k0, ri_ix rfl (by omega), ?_⟩
        constructor
        · intro (h : (w (2899 + k0) - at_).toInt < words.toInt)
          refine ⟨2899 + k0, ri_ix rfl (by omega), 3155 + k0, ri_ix rfl (by omega), trivial, ?_⟩
          have q : rg_gap w words (n + 1) k0 at_ = rg_gap w words n (k0 + 1) (w (2899 + k0) + w (3155 + k0)) := by rw [rg_gap, if_neg (by omega)]
          have := ih (k0 + 1) (w (2899 + k0) + w (3155 + k0)) (by omega)
          rw [← q, nI_succ] at this
          exact this
        · intro (h : ¬ (w (2899 + k0) - at_).toInt < words.toInt)
          refine ⟨?_, rfl⟩
          rw [rg_gap, if_pos (by omega)]
  exact rf_go [4] 20 ⟨trivial, loop m 0 0 (by omega)⟩
/-- 1 where it holds -/
def rb (p : Prop) [Decidable p] : Int32 := if p then 1 else 0
theorem rb_pos {p : Prop} [Decidable p] (h : p) : rb p = 1 := if_pos h
theorem rb_neg {p : Prop} [Decidable p] (h : ¬ p) : rb p = 0 := if_neg h
theorem rb_bit {p : Prop} [Decidable p] : rb p = 0 ∨ rb p = 1 := by
  by_cases h : p
  · exact Or.inr (rb_pos h)
  · exact Or.inl (rb_neg h)
theorem rb_zero {p : Prop} [Decidable p] : rb p = 0 ↔ ¬ p := by
  by_cases h : p
  · rw [rb_pos h]; simp [h]
  · rw [rb_neg h]; simp [h]
abbrev rg_has (set k : Int32) : Prop := (set >>> (k &&& 31)) &&& 1 = 1
theorem rf_has {x y : Int32} : rf_W pre d kX11_has (mj_ent 2 [.inl x, .inl y]) s (fun r s' => r = some (.inl (rb (rg_has x y))) ∧ s' = s) := by
  refine rf_go [] 20 ?_
  constructor
  · intro (h : ¬ rg_has x y)
    refine ⟨Or.inl rfl, ?_, rfl⟩
    rw [rb_neg h]
    rfl
  · intro (h : ¬ ¬ rg_has x y)
    refine ⟨Or.inr rfl, ?_, rfl⟩
    rw [rb_pos (Classical.not_not.mp h)]
    rfl
theorem rf_isBusy {t : Nat} (ht : t < 7) : rf_W pre d kX11_isBusy (mj_ent 2 [.inr (some 110), .inl (nI t)]) (rf w a k e fr sz to tk hi ie pa gr ip fu il) (fun r s' => r = some (.inl (rb (w (3926 + t) = 1 ∨ w (3926 + t) = 2))) ∧ s' = rf w a k e fr sz to tk hi ie pa gr ip fu il) := by
  refine rf_go [] 30 ⟨3926 + t, ri_ix rfl (by omega), ?_⟩
  constructor
  · intro (h : w (3926 + t) = 1)
    refine ⟨Or.inr rfl, ?_, rfl⟩
    rw [rb_pos (Or.inl h)]
    rfl
  · intro (h : ¬ w (3926 + t) = 1)
    refine ⟨3926 + t, ri_ix rfl (by omega), ?_⟩
    constructor
    · intro (h2 : ¬ w (3926 + t) = 2)
      refine ⟨Or.inl rfl, ?_, rfl⟩
      rw [rb_neg (fun q => q.elim h h2)]
      rfl
    · intro (h2 : ¬ ¬ w (3926 + t) = 2)
      refine ⟨Or.inr rfl, ?_, rfl⟩
      rw [rb_pos (Or.inr (Classical.not_not.mp h2))]
      rfl
theorem rf_isFunction {f : Int32} : rf_W pre (d + 1) kX11_isFunction (mj_ent 1 [.inl f]) s (fun r s' => r = some (.inl (rb (0 ≤ f.toInt ∧ f.toInt ≤ 9))) ∧ s' = s) := by
  refine rf_go [] 20 ⟨d, _, rfl, rfl, (rf_isIn (l := 0) (m := 9)).mono ?_⟩
  rintro v s' ⟨rfl, rfl⟩
  exact ⟨rb_bit (p := 0 ≤ f.toInt ∧ f.toInt ≤ 9), rfl, rfl⟩
abbrev rg_told (w : Nat → Int32) (f : Int32) : Prop := (0 ≤ f.toInt ∧ f.toInt ≤ 9) ∧ 0 < (w (2228 + f.toInt.toNat)).toInt
theorem rf_isTold {f : Int32} : rf_W pre (d + 2) kX11_isTold (mj_ent 2 [.inr (some 110), .inl f]) (rf w a k e fr sz to tk hi ie pa gr ip fu il) (fun r s' => r = some (.inl (rb (rg_told w f))) ∧ s' = rf w a k e fr sz to tk hi ie pa gr ip fu il) := by
  refine rf_go [] 30 ⟨d + 1, _, rfl, rfl, rf_isFunction.mono ?_⟩
  rintro v s' ⟨rfl, rfl⟩
  constructor
  · intro (h : rb (0 ≤ f.toInt ∧ f.toInt ≤ 9) = 0)
    refine ⟨Or.inl rfl, ?_, rfl⟩
    rw [rb_neg (fun q : rg_told w f => rb_zero.mp h q.1)]
    rfl
  · intro (h : ¬ rb (0 ≤ f.toInt ∧ f.toInt ≤ 9) = 0)
    have h1 : 0 ≤ f.toInt ∧ f.toInt ≤ 9 := Classical.not_not.mp (fun q => h (rb_zero.mpr q))
    refine ⟨2228 + f.toInt.toNat, ri_ixI rfl h1.1 (by omega), ?_⟩
    constructor
    · intro (h2 : (w (2228 + f.toInt.toNat)).toInt ≤ 0)
      refine ⟨Or.inl rfl, ?_, rfl⟩
      rw [rb_neg (fun q : rg_told w f => by have := q.2; omega)]
      rfl
    · intro (h2 : ¬ (w (2228 + f.toInt.toNat)).toInt ≤ 0)
      refine ⟨Or.inr rfl, ?_, rfl⟩
      rw [rb_pos (show rg_told w f from ⟨h1, by omega⟩)]
      rfl
theorem rf_frameOf {f : Nat} (hf : f < 10) : rf_W pre d kX11_frameOf (mj_ent 2 [.inr (some 110), .inl (nI f)]) (rf w a k e fr sz to tk hi ie pa gr ip fu il) (fun r s' => r = some (.inl (w (2228 + f) + 2)) ∧ s' = rf w a k e fr sz to tk hi ie pa gr ip fu il) :=
  rf_go [] 30 ⟨2228 + f, ri_ix rfl (by omega), rfl, rfl⟩
theorem rf_codeAt {f l : Int32} : rf_W pre d kX11_codeAt (mj_ent 3 [.inr (some 110), .inl f, .inl l]) s (fun r s' => r = some (.inl (2258 + 4 * (16 * f + l))) ∧ s' = s) :=
  rf_go [] 30 ⟨rfl, rfl⟩
theorem rf_isSlot {f : Nat} {x : Int32} (hf : f < 10) : rf_W pre (d + 1) kX11_isSlot (mj_ent 3 [.inr (some 110), .inl (nI f), .inl x]) (rf w a k e fr sz to tk hi ie pa gr ip fu il) (fun r s' => r = some (.inl (rb (0 ≤ x.toInt ∧ x.toInt ≤ (w (2228 + f) - 1).toInt))) ∧ s' = rf w a k e fr sz to tk hi ie pa gr ip fu il) := by
  refine rf_go [] 30 ⟨2228 + f, ri_ix rfl (by omega), d, _, rfl, rfl, (rf_isIn (l := 0) (m := w (2228 + f) - 1)).mono ?_⟩
  rintro v s' ⟨rfl, rfl⟩
  exact ⟨rb_bit (p := 0 ≤ x.toInt ∧ x.toInt ≤ (w (2228 + f) - 1).toInt), rfl, rfl⟩
/-- a word, of the memory or of the endless stack -/
theorem rf_word {p : Nat} (hp : p < 2048 ∨ ie ≠ 0 ∧ p < 20200) : rf_W pre d kX11_word (mj_ent 2 [.inr (some 110), .inl (nI p)]) (rf w a k e fr sz to tk hi ie pa gr ip fu il) (fun r s' => r = some (.inl (if ie = 0 then w p else e p)) ∧ s' = rf w a k e fr sz to tk hi ie pa gr ip fu il) := by
  refine rf_go [] 30 ?_
  constructor
  · intro (h : ie = 0)
    have hp : p < 2048 := hp.elim id (fun q => absurd h q.1)
    refine ⟨p, ⟨ri_ofNat (by omega), by omega⟩, ?_, rfl⟩
    rw [if_pos h]
  · intro (h : ¬ ie = 0)
    refine ⟨p, ⟨ri_ofNat (by omega), by omega⟩, ?_, rfl⟩
    rw [if_neg h]
theorem rf_lays {p : Nat} {v : Int32} (hp : p < 2048 ∨ ie ≠ 0 ∧ p < 20200) : rf_W pre d kX11_lays (mj_ent 3 [.inr (some 110), .inl (nI p), .inl v]) (rf w a k e fr sz to tk hi ie pa gr ip fu il) (fun r s' => r = none ∧ s' = if ie = 0 then rf (mj_upd w p v) a k e fr sz to tk hi ie pa gr ip fu il else rf w a k (mj_upd e p v) fr sz to tk hi ie pa gr ip fu il) := by
  refine rf_go [] 30 ?_
  constructor
  · intro (h : ie = 0)
    have hp : p < 2048 := hp.elim id (fun q => absurd h q.1)
    refine ⟨p, ⟨ri_ofNat (by omega), by omega⟩, rfl, ?_⟩
    rw [if_pos h]
    rfl
  · intro (h : ¬ ie = 0)
    refine ⟨p, ⟨ri_ofNat (by omega), by omega⟩, rfl, ?_⟩
    rw [if_neg h]
    rfl
theorem rf_counts {c : Nat} {v : Int32} (hc : c < 12) : rf_W pre d kX11_counts (mj_ent 3 [.inr (some 110), .inl (nI c), .inl v]) (rf w a k e fr sz to tk hi ie pa gr ip fu il) (fun r s' => r = none ∧ s' = rf (if ie = 0 then mj_upd w (2054 + c) (w (2054 + c) + v) else w) a k e fr sz to tk hi ie pa gr ip fu il) := by
  refine rf_go [] 30 ?_
  constructor
  · intro (h : ie ≠ 0)
    refine ⟨rfl, ?_⟩
    rw [if_neg h]
  · intro (h : ¬ ie ≠ 0)
    refine ⟨2054 + c, ri_ix rfl (by omega), 2054 + c, ri_ix rfl (by omega), rfl, ?_⟩
    rw [if_pos (Classical.not_not.mp h)]
    rfl
/-- the piece of a task with a number, from a piece on -/
def rg_piece (w : Nat → Int32) (t number : Int32) : Nat → Nat → Int32
  | 0, _ => -1
  | n + 1, k => if w (3411 + k) = t ∧ w (3667 + k) = number then nI k else rg_piece w t number n (k + 1)
theorem rf_pieceOf {m : Nat} {t number : Int32} (hm : m ≤ 256) (hw : w 2898 = nI m) : rf_W pre d kX11_pieceOf (mj_ent 4 [.inr (some 110), .inl t, .inl number]) (rf w a k e fr sz to tk hi ie pa gr ip fu il) (fun r s' => r = some (.inl (rg_piece w t number m 0)) ∧ s' = rf w a k e fr sz to tk hi ie pa gr ip fu il) := by
  have loop : ∀ n k0, n + k0 = m → wq_W (rf_e pre) d kX11_pieceOf (mj_drop 2 kX11_pieceOf) [some (.inr (some 110)), some (.inl t), some (.inl number), some (.inl (nI k0))] [] (rf w a k e fr sz to tk hi ie pa gr ip fu il) (fun r s' => r = some (.inl (rg_piece w t number n k0)) ∧ s' = rf w a k e fr sz to tk hi ie pa gr ip fu il) := by
    intro n
    induction n with
    | zero =>
      intro k0 hk
      refine rf_at [2] 60 ⟨2898, ri_ix0 rfl (by decide), ?_⟩
      constructor
      · intro _
        exact ⟨rfl, rfl⟩
      · intro (h : ¬ (w 2898).toInt ≤ (nI k0).toInt)
        rw [hw, ri_ofNat (by omega), ri_ofNat (by omega)] at h
        omega
    | succ n ih =>
      intro k0 hk
      have next : ¬ (w (3411 + k0) = t ∧ w (3667 + k0) = number) → wq_W (rf_e pre) d kX11_pieceOf (mj_drop 2 kX11_pieceOf) [some (.inr (some 110)), some (.inl t), some (.inl number), some (.inl (nI k0 + Int32.ofInt 1))] [] (rf w a k e fr sz to tk hi ie pa gr ip fu il) (fun r s' => r = some (.inl (rg_piece w t number (n + 1) k0)) ∧ s' = rf w a k e fr sz to tk hi ie pa gr ip fu il) := fun hq => by
        have := ih (k0 + 1) (by omega)
        rw [nI_succ] at this
        rw [rg_piece, if_neg hq]
        exact this
      refine rf_at [2] 60 ⟨2898, ri_ix0 rfl (by decide), ?_⟩
      constructor
      · intro (h : (w 2898).toInt ≤ (nI k0).toInt)
        rw [hw, ri_ofNat (by omega), ri_ofNat (by omega)] at h
        omega
      · intro _
        refine ⟨3411 + k0, ri_ix rfl (by omega), ?_⟩
        constructor
        · intro (h : w (3411 + k0) ≠ t)
          exact ⟨trivial, next (fun q => h q.1)⟩
        · intro (h : ¬ w (3411 + k0) ≠ t)
          refine ⟨3667 + k0, ri_ix rfl (by omega), ?_⟩
          constructor
          · intro (h2 : w (3667 + k0) ≠ number)
            exact ⟨trivial, next (fun q => h2 q.2)⟩
          · intro (h2 : ¬ w (3667 + k0) ≠ number)
            refine ⟨?_, rfl⟩
            rw [rg_piece, if_pos ⟨Classical.not_not.mp h, Classical.not_not.mp h2⟩]
  exact rf_go [2] 20 ⟨trivial, loop m 0 (by omega)⟩
theorem rf_isPointer {f : Nat} {x : Int32} (hf : f < 10) : rf_W pre (d + 2) kX11_isPointer (mj_ent 3 [.inr (some 110), .inl (nI f), .inl x]) (rf w a k e fr sz to tk hi ie pa gr ip fu il) (fun r s' => r = some (.inl (rb ((0 ≤ x.toInt ∧ x.toInt ≤ (w (2228 + f) - 1).toInt) ∧ rg_has (w (2238 + f)) x))) ∧ s' = rf w a k e fr sz to tk hi ie pa gr ip fu il) := by
  refine rf_go [] 40 ⟨d + 1, _, rfl, rfl, (rf_isSlot hf).mono ?_⟩
  rintro v s' ⟨rfl, rfl⟩
  constructor
  · intro (h : rb (0 ≤ x.toInt ∧ x.toInt ≤ (w (2228 + f) - 1).toInt) = 0)
    refine ⟨Or.inl rfl, ?_, rfl⟩
    rw [rb_neg (fun q : (0 ≤ x.toInt ∧ x.toInt ≤ (w (2228 + f) - 1).toInt) ∧ rg_has (w (2238 + f)) x => rb_zero.mp h q.1)]
    rfl
  · intro (h : ¬ rb (0 ≤ x.toInt ∧ x.toInt ≤ (w (2228 + f) - 1).toInt) = 0)
    have h1 : 0 ≤ x.toInt ∧ x.toInt ≤ (w (2228 + f) - 1).toInt := Classical.not_not.mp (fun q => h (rb_zero.mpr q))
    refine ⟨2238 + f, ri_ix rfl (by omega), d + 1, _, rfl, rfl, (rf_has (x := w (2238 + f)) (y := x)).mono ?_⟩
    rintro v s' ⟨rfl, rfl⟩
    constructor
    · intro (h2 : rb (rg_has (w (2238 + f)) x) = 0)
      refine ⟨Or.inl rfl, ?_, rfl⟩
      rw [rb_neg (fun q : (0 ≤ x.toInt ∧ x.toInt ≤ (w (2228 + f) - 1).toInt) ∧ rg_has (w (2238 + f)) x => rb_zero.mp h2 q.2)]
      rfl
    · intro (h2 : ¬ rb (rg_has (w (2238 + f)) x) = 0)
      refine ⟨Or.inr rfl, ?_, rfl⟩
      rw [rb_pos (show (0 ≤ x.toInt ∧ x.toInt ≤ (w (2228 + f) - 1).toInt) ∧ rg_has (w (2238 + f)) x from ⟨h1, Classical.not_not.mp (fun q => h2 (rb_zero.mpr q))⟩)]
      rfl
theorem rf_isNumber {f : Nat} {x : Int32} (hf : f < 10) : rf_W pre (d + 2) kX11_isNumber (mj_ent 3 [.inr (some 110), .inl (nI f), .inl x]) (rf w a k e fr sz to tk hi ie pa gr ip fu il) (fun r s' => r = some (.inl (rb ((0 ≤ x.toInt ∧ x.toInt ≤ (w (2228 + f) - 1).toInt) ∧ ¬ rg_has (w (2238 + f)) x))) ∧ s' = rf w a k e fr sz to tk hi ie pa gr ip fu il) := by
  refine rf_go [] 40 ⟨d + 1, _, rfl, rfl, (rf_isSlot hf).mono ?_⟩
  rintro v s' ⟨rfl, rfl⟩
  constructor
  · intro (h : rb (0 ≤ x.toInt ∧ x.toInt ≤ (w (2228 + f) - 1).toInt) = 0)
    refine ⟨Or.inl rfl, ?_, rfl⟩
    rw [rb_neg (fun q : (0 ≤ x.toInt ∧ x.toInt ≤ (w (2228 + f) - 1).toInt) ∧ ¬ rg_has (w (2238 + f)) x => rb_zero.mp h q.1)]
    rfl
  · intro (h : ¬ rb (0 ≤ x.toInt ∧ x.toInt ≤ (w (2228 + f) - 1).toInt) = 0)
    have h1 : 0 ≤ x.toInt ∧ x.toInt ≤ (w (2228 + f) - 1).toInt := Classical.not_not.mp (fun q => h (rb_zero.mpr q))
    refine ⟨2238 + f, ri_ix rfl (by omega), d + 1, _, rfl, rfl, (rf_has (x := w (2238 + f)) (y := x)).mono ?_⟩
    rintro v s' ⟨rfl, rfl⟩
    constructor
    · intro (h2 : rb (rg_has (w (2238 + f)) x) ≠ 0)
      refine ⟨Or.inl rfl, ?_, rfl⟩
      rw [rb_neg (fun q : (0 ≤ x.toInt ∧ x.toInt ≤ (w (2228 + f) - 1).toInt) ∧ ¬ rg_has (w (2238 + f)) x => h2 (rb_zero.mpr q.2))]
      rfl
    · intro (h2 : ¬ rb (rg_has (w (2238 + f)) x) ≠ 0)
      refine ⟨Or.inr rfl, ?_, rfl⟩
      rw [rb_pos (show (0 ≤ x.toInt ∧ x.toInt ≤ (w (2228 + f) - 1).toInt) ∧ ¬ rg_has (w (2238 + f)) x from ⟨h1, rb_zero.mp (Classical.not_not.mp h2)⟩)]
      rfl
theorem rf_lastPiece {m t : Nat} (hm : m ≤ 256) (hw : w 2898 = nI m) (ht : t < 7) : rf_W pre (d + 1) kX11_lastPiece (mj_ent 2 [.inr (some 110), .inl (nI t)]) (rf w a k e fr sz to tk hi ie pa gr ip fu il) (fun r s' => r = some (.inl (rg_piece w (nI t) (w (4066 + t) - 1) m 0)) ∧ s' = rf w a k e fr sz to tk hi ie pa gr ip fu il) := by
  refine rf_go [] 30 ⟨4066 + t, ri_ix rfl (by omega), d, _, rfl, rfl, (rf_pieceOf hm hw).mono ?_⟩
  rintro v s' ⟨rfl, rfl⟩
  exact ⟨rfl, rfl⟩
/-- the piece in which a place is, from a piece on -/
def rg_at (w : Nat → Int32) (p : Int32) : Nat → Nat → Int32
  | 0, _ => -1
  | n + 1, k => if (w (2899 + k)).toInt ≤ p.toInt ∧ p.toInt ≤ (w (2899 + k) + w (3155 + k) - 1).toInt then nI k else rg_at w p n (k + 1)
theorem rf_pieceAt {m : Nat} {p : Int32} (hm : m ≤ 256) (hw : w 2898 = nI m) : rf_W pre (d + 1) kX11_pieceAt (mj_ent 3 [.inr (some 110), .inl p]) (rf w a k e fr sz to tk hi ie pa gr ip fu il) (fun r s' => r = some (.inl (rg_at w p m 0)) ∧ s' = rf w a k e fr sz to tk hi ie pa gr ip fu il) := by
  have loop : ∀ n k0, n + k0 = m → wq_W (rf_e pre) (d + 1) kX11_pieceAt (mj_drop 2 kX11_pieceAt) [some (.inr (some 110)), some (.inl p), some (.inl (nI k0))] [] (rf w a k e fr sz to tk hi ie pa gr ip fu il) (fun r s' => r = some (.inl (rg_at w p n k0)) ∧ s' = rf w a k e fr sz to tk hi ie pa gr ip fu il) := by
    intro n
    induction n with
    | zero =>
      intro k0 hk
      refine rf_at [2] 60 ⟨2898, ri_ix0 rfl (by decide), ?_⟩
      constructor
      · intro _
        exact ⟨rfl, rfl⟩
      · intro (h : ¬ (w 2898).toInt ≤ (nI k0).toInt)
        rw [hw, ri_ofNat (by omega), ri_ofNat (by omega)] at h
        omega
    | succ n ih =>
      intro k0 hk
      refine rf_at [2] 60 ⟨2898, ri_ix0 rfl (by decide), ?_⟩
      constructor
      · intro (h : (w 2898).toInt ≤ (nI k0).toInt)
        rw [hw, ri_ofNat (by omega), ri_ofNat (by omega)] at h
        omega
      · intro _
        refine ⟨2899 + k0, ri_ix rfl (by omega), 2899 + k0, ri_ix rfl (by omega), 3155 + k0, ri_ix rfl (by omega), d, _, rfl, rfl, (rf_isIn (v := p) (l := w (2899 + k0)) (m := w (2899 + k0) + w (3155 + k0) - 1)).mono ?_⟩
        rintro v s' ⟨rfl, rfl⟩
        constructor
        · intro (h : rb ((w (2899 + k0)).toInt ≤ p.toInt ∧ p.toInt ≤ (w (2899 + k0) + w (3155 + k0) - 1).toInt) = 0)
          refine ⟨trivial, ?_⟩
          have := ih (k0 + 1) (by omega)
          rw [nI_succ] at this
          rw [rg_at, if_neg (rb_zero.mp h)]
          exact this
        · intro (h : ¬ rb ((w (2899 + k0)).toInt ≤ p.toInt ∧ p.toInt ≤ (w (2899 + k0) + w (3155 + k0) - 1).toInt) = 0)
          refine ⟨?_, rfl⟩
          rw [rg_at, if_pos (Classical.not_not.mp (fun q => h (rb_zero.mpr q)))]
  exact rf_go [2] 20 ⟨trivial, loop m 0 (by omega)⟩
theorem mj_upd_ne {V : Type} {f : Nat → V} {k j : Nat} {v : V} (h : j ≠ k) : mj_upd f k v j = f j := by
  rw [mj_upd_eq]
  exact if_neg h
theorem mj_upd_self {V : Type} {f : Nat → V} {k : Nat} {v : V} : mj_upd f k v k = v := by
  rw [mj_upd_eq]
  exact if_pos rfl
/-- a cell of one row part takes another's -/
def rg_mv (w : Nat → Int32) (i j : Nat) : Nat → Int32 := mj_upd w i (w j)
/-- a piece's row goes to another place -/
def rg_shift (w : Nat → Int32) (i j : Nat) : Nat → Int32 := rg_mv (rg_mv (rg_mv (rg_mv w (2899 + i) (2899 + j)) (3155 + i) (3155 + j)) (3411 + i) (3411 + j)) (3667 + i) (3667 + j)
theorem rf_shifts {i j : Nat} (h1 : i < 256) (h2 : j < 256) : rf_W pre d kX11_shifts (mj_ent 3 [.inr (some 110), .inl (nI i), .inl (nI j)]) (rf w a k e fr sz to tk hi ie pa gr ip fu il) (fun r s' => r = none ∧ s' = rf (rg_shift w i j) a k e fr sz to tk hi ie pa gr ip fu il) :=
  rf_go [] 60 ⟨2899 + j, ri_ix rfl (by omega), 2899 + i, ri_ix rfl (by omega), 3155 + j, ri_ix rfl (by omega), 3155 + i, ri_ix rfl (by omega), 3411 + j, ri_ix rfl (by omega), 3411 + i, ri_ix rfl (by omega), 3667 + j, ri_ix rfl (by omega), 3667 + i, ri_ix rfl (by omega), rfl, rfl⟩
/-- what a shift leaves: the four of the place, and nothing else -/
theorem rg_shift_at {w : Nat → Int32} {i j : Nat} (h1 : i < 256) (h2 : j < 256) : rg_shift w i j (2899 + i) = w (2899 + j) ∧ rg_shift w i j (3155 + i) = w (3155 + j) ∧ rg_shift w i j (3411 + i) = w (3411 + j) ∧ rg_shift w i j (3667 + i) = w (3667 + j) ∧ ∀ q, q ≠ 2899 + i → q ≠ 3155 + i → q ≠ 3411 + i → q ≠ 3667 + i → rg_shift w i j q = w q := by
  unfold rg_shift rg_mv
  refine ⟨?_, ?_, ?_, ?_, fun q q1 q2 q3 q4 => ?_⟩
  · rw [mj_upd_ne (by omega), mj_upd_ne (by omega), mj_upd_ne (by omega), mj_upd_self]
  · rw [mj_upd_ne (by omega), mj_upd_ne (by omega), mj_upd_self, mj_upd_ne (by omega)]
  · rw [mj_upd_ne (by omega), mj_upd_self, mj_upd_ne (by omega), mj_upd_ne (by omega)]
  · rw [mj_upd_self, mj_upd_ne (by omega), mj_upd_ne (by omega), mj_upd_ne (by omega)]
  · rw [mj_upd_ne q4, mj_upd_ne q3, mj_upd_ne q2, mj_upd_ne q1]
end
