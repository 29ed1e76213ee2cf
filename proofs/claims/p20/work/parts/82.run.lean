section
/-! ===== start, step, round, quiet ===== -/
def vby (V : vV) (t : Nat) : Bool := decide (V.1 (3926 + t) = 1 ∨ V.1 (3926 + t) = 2)
theorem vby_iff {V : vV} {t : Nat} : vby V t = true ↔ vbz V.1 t := by unfold vby vbz; rw [decide_eq_true_iff]
def vstart (V : vV) (x f a mode : Int32) : Int32 × vV := if (0 ≤ x.toInt ∧ x.toInt ≤ 5) ∧ vby V x.toInt.toNat = false ∧ tld V.1 f ∧ (mode = 0 ∨ mode = 1) then (rb ((vbg 2048 V x.toInt.toNat f.toInt.toNat a mode).1 = true), (vbg 2048 V x.toInt.toNat f.toInt.toNat a mode).2) else (0, V)
def vrun (Z : (Nat → Int32) → Int32 → Int32 → Int32 → Bool) (t : Nat) : Nat → vV → Nat × vV
  | 0, V => (0, V)
  | n + 1, V => if vby V t then ((vrun Z t n (vst 2048 Z V t)).1 + 1, (vrun Z t n (vst 2048 Z V t)).2) else (0, V)
def vstep (Z : (Nat → Int32) → Int32 → Int32 → Int32 → Bool) (V : vV) (x n : Int32) : Int32 × vV := if (0 ≤ x.toInt ∧ x.toInt ≤ 5) ∧ (1 ≤ n.toInt ∧ n.toInt ≤ 200) then (nI (vrun Z x.toInt.toNat n.toInt.toNat V).1, (vrun Z x.toInt.toNat n.toInt.toNat V).2) else (-1, V)
/-- each task by numbers, from one on -/
def vrn6 (Z : (Nat → Int32) → Int32 → Int32 → Int32 → Bool) : Nat → Nat → Nat → vV → Nat × vV
  | 0, _, m, V => (m, V)
  | r + 1, t, m, V => vrn6 Z r (t + 1) (m + (vrun Z t 1 V).1) (vrun Z t 1 V).2
def vrnd (Z : (Nat → Int32) → Int32 → Int32 → Int32 → Bool) : Nat → Nat → vV → Nat × vV
  | 0, m, V => (m, V)
  | r + 1, m, V => vrnd Z r (vrn6 Z 6 0 m V).1 (vrn6 Z 6 0 m V).2
def vround (Z : (Nat → Int32) → Int32 → Int32 → Int32 → Bool) (V : vV) (n : Int32) : Int32 × vV := if 1 ≤ n.toInt ∧ n.toInt ≤ 100 then (nI (vrnd Z n.toInt.toNat 0 V).1, (vrnd Z n.toInt.toNat 0 V).2) else (-1, V)
def vquiet (V : vV) (x : Int32) : Int32 × vV := if (0 ≤ x.toInt ∧ x.toInt ≤ 5) ∧ vby V x.toInt.toNat = true then (rb ((vqu 2048 V x.toInt.toNat).1 = true), (vqu 2048 V x.toInt.toNat).2) else (0, V)
theorem i_task {x : Int32} (h : 0 ≤ x.toInt ∧ x.toInt ≤ 5) : ∃ t, t < 6 ∧ x = nI t ∧ x.toInt.toNat = t := by
  obtain ⟨t, h1, h2⟩ := nI_ex (v := x) (by omega)
  rw [h2, nI_int h1] at h
  exact ⟨t, by omega, h2, by rw [h2, nI_int h1]; rfl⟩
theorem i_nat {x : Int32} (h : 0 ≤ x.toInt) : ∃ t, t < 2147483648 ∧ x = nI t ∧ x.toInt.toNat = t ∧ x.toInt = t := by
  obtain ⟨t, h1, h2⟩ := nI_ex (v := x) h
  exact ⟨t, h1, h2, by rw [h2, nI_int h1]; rfl, by rw [h2, nI_int h1]⟩
section
variable {s : wt_S} {V : vV} {t B : Nat} {Z : (Nat → Int32) → Int32 → Int32 → Int32 → Bool} {D : wt_S → Int32 → Int32 → Option (Int32 × wt_S)}
theorem q_busy (h : RS s V) (ht : t < 6) : gX11_isBusy s (nI t) = some (rb (vby V t = true), s) := by
  rw [q_isBusy (by omega), h.tk (c := 3926) (by omega) ht]
  exact congrArg (fun x => some (x, s)) (rb_iff (by rw [vby_iff]; rfl))
theorem VI.idle (hI : VI 2048 B V) (ht : t < 6) (hb : vby V t = false) : Iid V t := by
  rcases hI.2.2.2.2.2 t ht with ⟨b, -⟩ | b
  · rw [vby_iff.mpr b] at hb
    cases hb
  · exact b
theorem tld_nat {w : Nat → Int32} {f : Int32} (h : tld w f) : ∃ f', f' < 10 ∧ f = nI f' ∧ f.toInt.toNat = f' ∧ 1 ≤ vsz w f' := by
  obtain ⟨h1, h2⟩ := h
  obtain ⟨f', a1, a2, a3, a4⟩ := i_nat (x := f) h1.1
  refine ⟨f', by omega, a2, a3, ?_⟩
  rw [a3] at h2
  unfold vsz
  omega
theorem q_start {x f a mode : Int32} (h : RS s V) (hI : VI 2048 B V) (hB : B < 2147483200) : ∃ s', gX11_start s x f a mode = some ((vstart V x f a mode).1, s') ∧ RS s' (vstart V x f a mode).2 ∧ RF s s' ∧ VI 2048 (B + 3) (vstart V x f a mode).2 := by
  unfold gX11_start
  rw [q_isTask, cl_some, if_rb]
  by_cases c1 : 0 ≤ x.toInt ∧ x.toInt ≤ 5
  · obtain ⟨t, ht, rfl, etn⟩ := i_task c1
    rw [if_pos c1, q_busy h ht, cl_some, if_rbn]
    by_cases c2 : vby V t = true
    · have : vstart V (nI t) f a mode = (0, V) := by unfold vstart; rw [if_neg (fun e => by have := e.2.1; rw [etn, c2] at this; cases this)]
      rw [if_pos c2, this]
      exact ⟨s, rfl, h, RF.refl, hI.mono (by omega)⟩
    · have c2' : vby V t = false := by simpa using c2
      rw [if_neg c2, q_isTold, cl_some, if_rb]
      have htl : tld (s 111) f ↔ tld V.1 f := h.prog.tl
      by_cases c3 : tld V.1 f
      · rw [if_pos (htl.mpr c3), q_isIn, cl_some, if_rbn]
        obtain ⟨f', f1, rfl, f3, f4⟩ := tld_nat c3
        by_cases c4 : mode = 0 ∨ mode = 1
        · have hv : vstart V (nI t) (nI f') a mode = (rb ((vbg 2048 V t f' a mode).1 = true), (vbg 2048 V t f' a mode).2) := by unfold vstart; rw [if_pos ⟨c1, by rw [etn]; exact c2', c3, c4⟩, etn, f3]
          obtain ⟨s', e1, e2, e3⟩ := q_begins (a := a) h hI hB ht (hI.idle ht c2') f1 f4 c4
          rw [if_pos (by rcases c4 with e | e <;> subst e <;> decide), e1, cl_some, rz_rb, hv]
          exact ⟨s', rfl, e2, e3, vi_bg hI (by omega) ht (hI.idle ht c2') f1 f4 c4⟩
        · have hv : vstart V (nI t) (nI f') a mode = (0, V) := by unfold vstart; rw [if_neg (fun e => c4 e.2.2.2)]
          rw [if_neg (fun e => c4 ?_), hv]
          · exact ⟨s, rfl, h, RF.refl, hI.mono (by omega)⟩
          · have e1 : 0 ≤ mode.toInt := e.1
            have e2 : mode.toInt ≤ 1 := e.2
            obtain ⟨m, m1, m2, m3, m4⟩ := i_nat (x := mode) e1
            rw [m2]
            have : m = 0 ∨ m = 1 := by omega
            rcases this with rfl | rfl
            · exact Or.inl rfl
            · exact Or.inr rfl
      · have hv : vstart V (nI t) f a mode = (0, V) := by unfold vstart; rw [if_neg (fun e => c3 e.2.2.1)]
        rw [if_neg (fun e => c3 (htl.mp e)), hv]
        exact ⟨s, rfl, h, RF.refl, hI.mono (by omega)⟩
  · have hv : vstart V x f a mode = (0, V) := by unfold vstart; rw [if_neg (fun e => c1 e.1)]
    rw [if_neg c1, hv]
    exact ⟨s, rfl, h, RF.refl, hI.mono (by omega)⟩
theorem vrun_le : ∀ {n : Nat} {V : vV}, (vrun Z t n V).1 ≤ n := by
  intro n
  induction n with
  | zero => intro V; exact Nat.le_refl _
  | succ n ih =>
    intro V
    unfold vrun
    split
    · exact Nat.succ_le_succ ih
    · exact Nat.zero_le _
theorem q_runs (hD : HD gX11_runsEndless Z) (ht : t < 6) : ∀ (r m fu B : Nat) (s : wt_S) (V : vV), r < fu → m + r < 100000 → RS s V → VI 2048 B V → B + 4 * r < 2147483200 → ∃ s', gX11_runs_2 fu s (nI t) (nI (m + r)) (nI m) = some (nI (m + (vrun Z t r V).1), s') ∧ RS s' (vrun Z t r V).2 ∧ RF s s' ∧ VI 2048 (B + 4 * r) (vrun Z t r V).2 := by
  intro r
  induction r with
  | zero =>
    intro m fu B s V hfu hm h hI hB
    obtain ⟨fu, rfl⟩ : ∃ m, fu = m + 1 := ⟨fu - 1, by omega⟩
    rw [gX11_runs_2, nI_int (by omega), nI_int (by omega), if_pos (by omega)]
    exact ⟨s, rfl, h, RF.refl, hI⟩
  | succ r ih =>
    intro m fu B s V hfu hm h hI hB
    obtain ⟨fu, rfl⟩ : ∃ m, fu = m + 1 := ⟨fu - 1, by omega⟩
    rw [gX11_runs_2, nI_int (by omega), nI_int (by omega), if_neg (by omega), q_busy h ht, cl_some, if_rb]
    unfold vrun
    by_cases c : vby V t = true
    · rw [if_pos c, if_pos c]
      have hb := vby_iff.mp c
      obtain ⟨s1, e1, e2, e3⟩ := q_steps hD h hI ht hb (by omega)
      obtain ⟨s', f1, f2, f3, f4⟩ := ih (m + 1) fu (B + 4) s1 (vst 2048 Z V t) (by omega) (by omega) e2 (vi_st hI ht hb (by omega)) (by omega)
      rw [e1, cl_some, nI_1, show m + (r + 1) = m + 1 + r by omega, f1]
      refine ⟨s', ?_, f2, RF.trans e3 f3, f4.mono (by omega)⟩
      rw [show m + 1 + (vrun Z t r (vst 2048 Z V t)).1 = m + ((vrun Z t r (vst 2048 Z V t)).1 + 1) by omega]
    · rw [if_neg c, if_neg c]
      exact ⟨s, rfl, h, RF.refl, hI.mono (by omega)⟩
theorem q_step {x n : Int32} (hD : HD gX11_runsEndless Z) (h : RS s V) (hI : VI 2048 B V) (hB : B < 2147480000) : ∃ s', gX11_step s x n = some ((vstep Z V x n).1, s') ∧ RS s' (vstep Z V x n).2 ∧ RF s s' ∧ VI 2048 (B + 800) (vstep Z V x n).2 := by
  unfold gX11_step
  rw [q_isTask, cl_some, if_rb]
  by_cases c1 : 0 ≤ x.toInt ∧ x.toInt ≤ 5
  · obtain ⟨t, ht, rfl, etn⟩ := i_task c1
    rw [if_pos c1, q_isIn, cl_some, if_rb]
    by_cases c2 : 1 ≤ n.toInt ∧ n.toInt ≤ 200
    · obtain ⟨m, m1, rfl, m3, m4⟩ := i_nat (x := n) (by omega)
      rw [if_pos (show (1 : Int32).toInt ≤ (nI m).toInt ∧ (nI m).toInt ≤ (200 : Int32).toInt from c2)]
      obtain ⟨s', e1, e2, e3, e4⟩ := q_runs hD ht m 0 wt_N B s V (by unfold wt_N; omega) (by omega) h hI (by omega)
      unfold gX11_runs vstep
      rw [Nat.zero_add] at e1
      rw [show gX11_runs_2 wt_N s (nI t) (nI m) 0 = _ from e1, cl_some, if_pos ⟨c1, c2⟩, etn, m3]
      rw [Nat.zero_add]
      exact ⟨s', rfl, e2, e3, e4.mono (by omega)⟩
    · have hv : vstep Z V (nI t) n = (-1, V) := by unfold vstep; rw [if_neg (fun e => c2 e.2)]
      rw [if_neg (show ¬ ((1 : Int32).toInt ≤ n.toInt ∧ n.toInt ≤ (200 : Int32).toInt) from c2), hv]
      exact ⟨s, rfl, h, RF.refl, hI.mono (by omega)⟩
  · have hv : vstep Z V x n = (-1, V) := by unfold vstep; rw [if_neg (fun e => c1 e.1)]
    rw [if_neg c1, hv]
    exact ⟨s, rfl, h, RF.refl, hI.mono (by omega)⟩
theorem q_round_24 {K : wt_S → Int32 → Int32 → Int32 → Option (Int32 × wt_S)} {l1 l3 : Int32} (hD : HD gX11_runsEndless Z) : ∀ (r t m fu B : Nat) (s : wt_S) (V : vV), r < fu → t + r = 6 → RS s V → VI 2048 B V → B + 4 * r < 2147483200 → ∃ s', gX11_round_24 K fu s l1 (nI m) l3 (nI t) = K s' l1 (nI (vrn6 Z r t m V).1) (l3 + 1) ∧ RS s' (vrn6 Z r t m V).2 ∧ RF s s' ∧ VI 2048 (B + 4 * r) (vrn6 Z r t m V).2 ∧ (vrn6 Z r t m V).1 ≤ m + r := by
  intro r
  induction r with
  | zero =>
    intro t m fu B s V hfu ht h hI hB
    obtain ⟨fu, rfl⟩ : ∃ m, fu = m + 1 := ⟨fu - 1, by omega⟩
    rw [gX11_round_24, nI_int (by omega), if_pos (by show (6 : Int) ≤ _; omega)]
    exact ⟨s, rfl, h, RF.refl, hI, Nat.le_refl _⟩
  | succ r ih =>
    intro t m fu B s V hfu ht h hI hB
    obtain ⟨fu, rfl⟩ : ∃ m, fu = m + 1 := ⟨fu - 1, by omega⟩
    rw [gX11_round_24, nI_int (by omega), if_neg (by show ¬ (6 : Int) ≤ _; omega)]
    obtain ⟨s1, e1, e2, e3, e4⟩ := q_runs (t := t) hD (by omega) 1 0 wt_N B s V (by unfold wt_N; omega) (by omega) h hI (by omega)
    have hle := vrun_le (Z := Z) (t := t) (n := 1) (V := V)
    obtain ⟨s', f1, f2, f3, f4, f5⟩ := ih (t + 1) (m + (vrun Z t 1 V).1) fu (B + 4) s1 (vrun Z t 1 V).2 (by omega) (by omega) e2 e4 (by omega)
    unfold gX11_runs
    rw [show gX11_runs_2 wt_N s (nI t) 1 0 = _ from e1, cl_some, Nat.zero_add, nI_add, nI_1, f1]
    refine ⟨s', rfl, f2, RF.trans e3 f3, f4.mono (by omega), ?_⟩
    show (vrn6 Z r (t + 1) (m + (vrun Z t 1 V).1) (vrun Z t 1 V).2).1 ≤ m + (r + 1)
    omega
theorem q_round_16 (hD : HD gX11_runsEndless Z) : ∀ (r k m fu B : Nat) (s : wt_S) (V : vV), r < fu → k + r ≤ 100 → RS s V → VI 2048 B V → B + 24 * r < 2147483200 → ∃ s', gX11_round_16 fu s (nI (k + r)) (nI m) (nI k) = some (nI (vrnd Z r m V).1, s') ∧ RS s' (vrnd Z r m V).2 ∧ RF s s' ∧ VI 2048 (B + 24 * r) (vrnd Z r m V).2 := by
  intro r
  induction r with
  | zero =>
    intro k m fu B s V hfu hk h hI hB
    obtain ⟨fu, rfl⟩ : ∃ m, fu = m + 1 := ⟨fu - 1, by omega⟩
    rw [gX11_round_16, nI_int (by omega), nI_int (by omega), if_pos (by omega)]
    exact ⟨s, rfl, h, RF.refl, hI⟩
  | succ r ih =>
    intro k m fu B s V hfu hk h hI hB
    obtain ⟨fu, rfl⟩ : ∃ m, fu = m + 1 := ⟨fu - 1, by omega⟩
    rw [gX11_round_16, nI_int (by omega), nI_int (by omega), if_neg (by omega)]
    obtain ⟨s1, e1, e2, e3, e4, e5⟩ := q_round_24 (K := gX11_round_16 fu) (l1 := nI (k + (r + 1))) (l3 := nI k) hD 6 0 m wt_N B s V (by unfold wt_N; omega) (by omega) h hI (by omega)
    obtain ⟨s', f1, f2, f3, f4⟩ := ih (k + 1) (vrn6 Z 6 0 m V).1 fu (B + 24) s1 (vrn6 Z 6 0 m V).2 (by omega) (by omega) e2 (e4.mono (by omega)) (by omega)
    rw [show gX11_round_24 (gX11_round_16 fu) wt_N s (nI (k + (r + 1))) (nI m) (nI k) 0 = _ from e1, nI_1, show k + (r + 1) = k + 1 + r by omega, f1]
    exact ⟨s', rfl, f2, RF.trans e3 f3, f4.mono (by omega)⟩
theorem q_round {n : Int32} (hD : HD gX11_runsEndless Z) (h : RS s V) (hI : VI 2048 B V) (hB : B < 2147480000) : ∃ s', gX11_round s n = some ((vround Z V n).1, s') ∧ RS s' (vround Z V n).2 ∧ RF s s' ∧ VI 2048 (B + 2400) (vround Z V n).2 := by
  unfold gX11_round
  rw [q_isIn, cl_some, if_rbn]
  by_cases c2 : 1 ≤ n.toInt ∧ n.toInt ≤ 100
  · obtain ⟨m, m1, rfl, m3, m4⟩ := i_nat (x := n) (by omega)
    rw [if_pos (show (1 : Int32).toInt ≤ (nI m).toInt ∧ (nI m).toInt ≤ (100 : Int32).toInt from c2)]
    obtain ⟨s', e1, e2, e3, e4⟩ := q_round_16 hD m 0 0 wt_N B s V (by unfold wt_N; omega) (by omega) h hI (by omega)
    unfold vround
    rw [Nat.zero_add] at e1
    rw [show gX11_round_16 wt_N s (nI m) 0 0 = _ from e1, if_pos c2, m3]
    exact ⟨s', rfl, e2, e3, e4.mono (by omega)⟩
  · have hv : vround Z V n = (-1, V) := by unfold vround; rw [if_neg c2]
    rw [if_neg (show ¬ ((1 : Int32).toInt ≤ n.toInt ∧ n.toInt ≤ (100 : Int32).toInt) from c2), hv]
    exact ⟨s, rfl, h, RF.refl, hI.mono (by omega)⟩
theorem q_quiet {x : Int32} (h : RS s V) (hI : VI 2048 B V) (hB : B < 2147483200) : ∃ s', gX11_quiet s x = some ((vquiet V x).1, s') ∧ RS s' (vquiet V x).2 ∧ RF s s' ∧ VI 2048 (B + 1) (vquiet V x).2 := by
  unfold gX11_quiet
  rw [q_isTask, cl_some, if_rb]
  by_cases c1 : 0 ≤ x.toInt ∧ x.toInt ≤ 5
  · obtain ⟨t, ht, rfl, etn⟩ := i_task c1
    rw [if_pos c1, q_busy h ht, cl_some, if_rb]
    by_cases c2 : vby V t = true
    · have hb := vby_iff.mp c2
      have hv : vquiet V (nI t) = (rb ((vqu 2048 V t).1 = true), (vqu 2048 V t).2) := by unfold vquiet; rw [etn, if_pos ⟨c1, c2⟩]
      obtain ⟨np, z, z2, z3, k, l, hP, h0, -, ⟨r1, r2, r3⟩, -, ⟨k1, k2⟩, -, -, -, -⟩ := hI.opn ht hb (by omega)
      obtain ⟨s', f1, f2, f3⟩ := q_quiets (k := k) h hP r1 (by omega) k1 (by omega)
      rw [if_pos c2, f1, cl_some, if_rb, hv]
      refine ⟨s', ?_, f2, f3, vi_qu hI ht hb (by omega)⟩
      by_cases c3 : (vqu 2048 V t).1 = true
      · rw [if_pos c3, rb_pos c3]
      · rw [if_neg c3, rb_neg c3]
    · have hv : vquiet V (nI t) = (0, V) := by unfold vquiet; rw [etn, if_neg (fun e => c2 e.2)]
      rw [if_neg c2, hv]
      exact ⟨s, rfl, h, RF.refl, hI.mono (by omega)⟩
  · have hv : vquiet V x = (0, V) := by unfold vquiet; rw [if_neg (fun e => c1 e.1)]
    rw [if_neg c1, hv]
    exact ⟨s, rfl, h, RF.refl, hI.mono (by omega)⟩
end
end
section
/-! ===== what is told: set, function, line ===== -/
def vab (V : vV) : Nat → Nat → Bool
  | 0, _ => false
  | r + 1, t => vby V t || vab V r (t + 1)
theorem vab_f {V : vV} : ∀ {r t : Nat}, vab V r t = false → ∀ j, t ≤ j → j < t + r → vby V j = false := by
  intro r
  induction r with
  | zero => intro t _ j h1 h2; omega
  | succ r ih =>
    intro t h j h1 h2
    unfold vab at h
    rw [Bool.or_eq_false_iff] at h
    by_cases e : j = t
    · subst e; exact h.1
    · exact ih h.2 j (by omega) (by omega)
section
variable {s : wt_S} {V : vV} {B : Nat}
theorem q_anyBusy (h : RS s V) : gX11_isAnyBusy s = some (rb (vab V 6 0 = true), s) := by
  have loop : ∀ (r t fu : Nat), t + r = 6 → r < fu → gX11_isAnyBusy_2 fu s (nI t) = some (rb (vab V r t = true), s) := by
    intro r
    induction r with
    | zero =>
      intro t fu ht hfu
      obtain ⟨fu, rfl⟩ : ∃ m, fu = m + 1 := ⟨fu - 1, by omega⟩
      rw [gX11_isAnyBusy_2, nI_int (by omega), if_pos (by show (6 : Int) ≤ _; omega), rb_neg (by simp [vab])]
    | succ r ih =>
      intro t fu ht hfu
      obtain ⟨fu, rfl⟩ : ∃ m, fu = m + 1 := ⟨fu - 1, by omega⟩
      rw [gX11_isAnyBusy_2, nI_int (by omega), if_neg (by show ¬ (6 : Int) ≤ _; omega), q_busy h (by omega), cl_some, if_rb, nI_1, ih (t + 1) fu (by omega) (by omega)]
      by_cases c : vby V t = true
      · rw [if_pos c, rb_pos (by unfold vab; rw [c]; rfl)]
      · rw [if_neg c]
        have : vab V (r + 1) t = vab V r (t + 1) := by
          rw [vab]
          rw [show vby V t = false by simpa using c]
          rfl
        rw [this]
  exact loop 6 0 wt_N (by omega) (by unfold wt_N; omega)
/-- nobody is busy: no piece, no frame -/
theorem VI.non (hI : VI 2048 B V) (hn : vab V 6 0 = false) : V.2.1 = [] ∧ ∀ t, t < 6 → V.2.2.1 t = 0 ∧ Iid V t := by
  have hid : ∀ t, t < 6 → Iid V t := fun t ht => hI.idle ht (vab_f hn t (by omega) (by omega))
  refine ⟨?_, fun t ht => ⟨(hid t ht).1, hid t ht⟩⟩
  cases e : V.2.1 with
  | nil => rfl
  | cons q ps =>
    exfalso
    have hq : q ∈ V.2.1 := by rw [e]; exact List.mem_cons_self ..
    exact (hid q.2.2.1 (hI.2.2.1.1.2 q hq).2.2.1).2.2.2.2.2.2.2.2 q hq rfl
theorem VI.re {w' : Nat → Int32} (hI : VI 2048 B V) (hn : vab V 6 0 = false) (h1 : Ise 2048 w') (h2 : Ipr w') (h3 : ∀ i, 2054 ≤ i → (i < 2228 ∨ 2898 ≤ i) → w' i = V.1 i) : VI 2048 B (w', V.2) := by
  obtain ⟨n1, n2⟩ := hI.non hn
  refine ⟨h1, h2, ⟨hI.2.2.1.1, hI.2.2.1.2.1, ?_⟩, fun k hk => ?_, ?_, fun t ht => Or.inr ?_⟩
  · show ∀ q ∈ V.2.1, _
    rw [n1]
    intro q hq
    cases hq
  · show w' (3923 + k) = -1 ∨ ∃ t, t < 6 ∧ w' (3923 + k) = nI t ∧ w' (3989 + t) = nI k
    rw [h3 _ (by omega) (by omega)]
    rcases hI.2.2.2.1 k hk with e | ⟨t, a1, a2, a3⟩
    · exact Or.inl e
    · exact Or.inr ⟨t, a1, a2, (h3 _ (by omega) (by omega)).trans a3⟩
  · obtain ⟨k, k1, k2⟩ := hI.2.2.2.2.1
    exact ⟨k, k1, (h3 _ (by omega) (by omega)).trans k2⟩
  · obtain ⟨c1, c2, c3, c4, c5, c6, c7, c8, c9⟩ := (n2 t ht).2
    refine ⟨c1, (h3 _ (by omega) (by omega)).trans c2, (h3 _ (by omega) (by omega)).trans c3, (h3 _ (by omega) (by omega)).trans c4, (h3 _ (by omega) (by omega)).trans c5, (h3 _ (by omega) (by omega)).trans c6, (h3 _ (by omega) (by omega)).trans c7, ?_, c9⟩
    show w' (3926 + t) = 0 ∨ w' (3926 + t) = 3 ∨ w' (3926 + t) = 4
    rw [h3 _ (by omega) (by omega)]
    exact c8
theorem RS.u0 {i : Nat} {v : Int32} (h : RS s V) (hn : ∀ t, t < 6 → V.2.2.1 t = 0) (hi : vtr i) : RS (wt_u s 111 i v) (vs V i v) := by
  have ho := vtr_out hi
  refine h.uf (h.2.mk' (fun j hj => ?_) (vr_P_upd ho.1 h.2.2.1) (fun p hp => mj_upd_ne (by omega)) (fun mm _ t ht j hj => ?_))
  · by_cases e : j = i
    · subst e
      show mj_upd (s 111) j v j = mj_upd V.1 j v j
      rw [mj_upd_self, mj_upd_self]
    · show mj_upd (s 111) i v j = mj_upd V.1 i v j
      rw [mj_upd_ne e, mj_upd_ne e]
      exact h.2.at hj
  · have hj : j < V.2.2.1 t := hj
    rw [hn t ht] at hj
    omega
theorem q_canBe0 {v : Int32} : gX11_canBe s (nI 0) v = some (rb ((8 : Int32).toInt ≤ v.toInt ∧ v.toInt ≤ (64 : Int32).toInt), s) := by unfold gX11_canBe; rw [if_neg (by decide), if_pos (by decide), q_isIn, cl_some, rz_rb]
theorem q_canBe1 {v : Int32} : gX11_canBe s (nI 1) v = some (rb ((0 : Int32).toInt ≤ v.toInt ∧ v.toInt ≤ (1 : Int32).toInt), s) := by unfold gX11_canBe; rw [if_neg (by decide), if_neg (by decide), if_pos (by decide), q_isIn, cl_some, rz_rb]
theorem q_canBe2 {v : Int32} : gX11_canBe s (nI 2) v = some (rb ((0 : Int32).toInt ≤ v.toInt ∧ v.toInt ≤ (1 : Int32).toInt), s) := by unfold gX11_canBe; rw [if_neg (by decide), if_neg (by decide), if_neg (by decide), if_pos (by decide), q_isIn, cl_some, rz_rb]
theorem q_canBe3 {v : Int32} : gX11_canBe s (nI 3) v = some (rb ((10 : Int32).toInt ≤ v.toInt ∧ v.toInt ≤ (80 : Int32).toInt), s) := by unfold gX11_canBe; rw [if_neg (by decide), if_neg (by decide), if_neg (by decide), if_neg (by decide), if_pos (by decide), q_isIn, cl_some, rz_rb]
theorem q_canBe4 {v : Int32} : gX11_canBe s (nI 4) v = some (rb ((1 : Int32).toInt ≤ v.toInt ∧ v.toInt ≤ (3 : Int32).toInt), s) := by unfold gX11_canBe; rw [if_neg (by decide), if_neg (by decide), if_neg (by decide), if_neg (by decide), if_neg (by decide), if_pos (by decide), q_isIn, cl_some, rz_rb]
theorem q_canBe5 {v : Int32} : gX11_canBe s (nI 5) v = some (rb ((10 : Int32).toInt ≤ v.toInt ∧ v.toInt ≤ (90 : Int32).toInt), s) := by unfold gX11_canBe; rw [if_neg (by decide), if_neg (by decide), if_neg (by decide), if_neg (by decide), if_neg (by decide), if_neg (by decide), if_pos (by decide), q_isIn, cl_some, rz_rb]
/-- what a setting can be: least, most -/
def vlo (k : Nat) : Int := if k = 0 then 8 else if k = 3 ∨ k = 5 then 10 else if k = 4 then 1 else 0
def vhi (k : Nat) : Int := if k = 0 then 64 else if k = 3 then 80 else if k = 5 then 90 else if k = 4 then 3 else 1
def vset (V : vV) (x v : Int32) : Int32 × vV := if (0 ≤ x.toInt ∧ x.toInt ≤ 5) ∧ (vlo x.toInt.toNat ≤ v.toInt ∧ v.toInt ≤ vhi x.toInt.toNat) ∧ vab V 6 0 = false then (1, vs V (2048 + x.toInt.toNat) v) else (0, V)
theorem q_canBe {k : Nat} {v : Int32} (hk : k < 6) : gX11_canBe s (nI k) v = some (rb (vlo k ≤ v.toInt ∧ v.toInt ≤ vhi k), s) := by
  have : k = 0 ∨ k = 1 ∨ k = 2 ∨ k = 3 ∨ k = 4 ∨ k = 5 := by omega
  rcases this with rfl | rfl | rfl | rfl | rfl | rfl
  · exact q_canBe0
  · exact q_canBe1
  · exact q_canBe2
  · exact q_canBe3
  · exact q_canBe4
  · exact q_canBe5
theorem q_set {x v : Int32} (h : RS s V) (hI : VI 2048 B V) : ∃ s', gX11_set s x v = some ((vset V x v).1, s') ∧ RS s' (vset V x v).2 ∧ RF s s' ∧ VI 2048 B (vset V x v).2 := by
  unfold gX11_set
  by_cases c1 : 0 ≤ x.toInt ∧ x.toInt ≤ 5
  · obtain ⟨k, hk, rfl, ek⟩ := i_task c1
    rw [q_canBe hk, cl_some, if_rb]
    by_cases c2 : vlo k ≤ v.toInt ∧ v.toInt ≤ vhi k
    · rw [if_pos c2, q_anyBusy h, cl_some, if_rb]
      by_cases c3 : vab V 6 0 = true
      · have hv : vset V (nI k) v = (0, V) := by unfold vset; rw [if_neg (fun e => by have := e.2.2; rw [c3] at this; cases this)]
        rw [if_pos c3, hv]
        exact ⟨s, rfl, h, RF.refl, hI⟩
      · have c3' : vab V 6 0 = false := by simpa using c3
        have hv : vset V (nI k) v = (1, vs V (2048 + k) v) := by unfold vset; rw [ek, if_pos ⟨c1, c2, c3'⟩]
        obtain ⟨n1, n2⟩ := hI.non c3'
        rw [if_neg c3, hv, li_add, ix_nI (by omega) (by omega), wr_eq]
        refine ⟨_, rfl, h.u0 (fun t ht => (n2 t ht).1) (Or.inl (by omega)), RF.uf (Or.inl rfl), hI.re c3' ?_ ?_ (fun i h1 h2 => mj_upd_ne (by omega))⟩
        · obtain ⟨i1, i2, i3, i4, i5, i6⟩ := hI.1
          unfold Ise
          have : k = 0 ∨ k = 1 ∨ k = 2 ∨ k = 3 ∨ k = 4 ∨ k = 5 := by omega
          rcases this with rfl | rfl | rfl | rfl | rfl | rfl
          · have h1 : (8 : Int) ≤ v.toInt := c2.1
            have h2 : v.toInt ≤ 64 := c2.2
            obtain ⟨n, a1, a2, a3, a4⟩ := i_nat (x := v) (by omega)
            rw [mj_upd_self, mj_upd_ne (by omega), mj_upd_ne (by omega), mj_upd_ne (by omega), mj_upd_ne (by omega), mj_upd_ne (by omega)]
            exact ⟨⟨n, a2, by omega, by omega, by omega⟩, i2, i3, i4, i5, i6⟩
          · have h1 : (0 : Int) ≤ v.toInt := c2.1
            have h2 : v.toInt ≤ 1 := c2.2
            obtain ⟨n, a1, a2, a3, a4⟩ := i_nat (x := v) (by omega)
            have hn : n = 0 ∨ n = 1 := by omega
            rw [mj_upd_ne (by omega), mj_upd_self, mj_upd_ne (by omega), mj_upd_ne (by omega), mj_upd_ne (by omega), mj_upd_ne (by omega), a2]
            exact ⟨i1, by rcases hn with rfl | rfl; exact Or.inl rfl; exact Or.inr rfl, i3, i4, i5, i6⟩
          · have h1 : (0 : Int) ≤ v.toInt := c2.1
            have h2 : v.toInt ≤ 1 := c2.2
            obtain ⟨n, a1, a2, a3, a4⟩ := i_nat (x := v) (by omega)
            have hn : n = 0 ∨ n = 1 := by omega
            rw [mj_upd_ne (by omega), mj_upd_ne (by omega), mj_upd_self, mj_upd_ne (by omega), mj_upd_ne (by omega), mj_upd_ne (by omega), a2]
            exact ⟨i1, i2, by rcases hn with rfl | rfl; exact Or.inl rfl; exact Or.inr rfl, i4, i5, i6⟩
          · have h1 : (10 : Int) ≤ v.toInt := c2.1
            have h2 : v.toInt ≤ 80 := c2.2
            obtain ⟨n, a1, a2, a3, a4⟩ := i_nat (x := v) (by omega)
            rw [mj_upd_ne (by omega), mj_upd_ne (by omega), mj_upd_ne (by omega), mj_upd_self, mj_upd_ne (by omega), mj_upd_ne (by omega)]
            exact ⟨i1, i2, i3, ⟨n, a2, by omega, by omega⟩, i5, i6⟩
          · have h1 : (1 : Int) ≤ v.toInt := c2.1
            have h2 : v.toInt ≤ 3 := c2.2
            obtain ⟨n, a1, a2, a3, a4⟩ := i_nat (x := v) (by omega)
            rw [mj_upd_ne (by omega), mj_upd_ne (by omega), mj_upd_ne (by omega), mj_upd_ne (by omega), mj_upd_self, mj_upd_ne (by omega)]
            exact ⟨i1, i2, i3, i4, ⟨n, a2, by omega, by omega⟩, i6⟩
          · have h1 : (10 : Int) ≤ v.toInt := c2.1
            have h2 : v.toInt ≤ 90 := c2.2
            obtain ⟨n, a1, a2, a3, a4⟩ := i_nat (x := v) (by omega)
            rw [mj_upd_ne (by omega), mj_upd_ne (by omega), mj_upd_ne (by omega), mj_upd_ne (by omega), mj_upd_ne (by omega), mj_upd_self]
            exact ⟨i1, i2, i3, i4, i5, ⟨n, a2, by omega⟩⟩
        · intro f hf
          obtain ⟨p1, p2, p3⟩ := hI.2.1 f hf
          have e : ∀ i, 2228 ≤ i → mj_upd V.1 (2048 + k) v i = V.1 i := fun i hi => mj_upd_ne (by omega)
          have el : vli (mj_upd V.1 (2048 + k) v) f = vli V.1 f := by unfold vli; rw [e _ (by omega)]
          refine ⟨by rw [e _ (by omega)]; exact p1, by rw [e _ (by omega)]; exact p2, fun l hl => ?_⟩
          rw [el] at hl
          have := p3 l hl
          unfold vlin vcan vnum vptr vslt vsz at this ⊢
          have e0 := e (vco f l) (by unfold vco; omega)
          have e1 := e (vco f l + 1) (by unfold vco; omega)
          have e2 := e (vco f l + 2) (by unfold vco; omega)
          have e3 := e (vco f l + 3) (by unfold vco; omega)
          rw [e0, e1, e2, e3, e (2228 + f) (by omega), e (2238 + f) (by omega)]
          exact this
    · have hv : vset V (nI k) v = (0, V) := by unfold vset; rw [ek, if_neg (fun e => c2 e.2.1)]
      rw [if_neg c2, hv]
      exact ⟨s, rfl, h, RF.refl, hI⟩
  · have hv : vset V x v = (0, V) := by unfold vset; rw [if_neg (fun e => c1 e.1)]
    have : gX11_canBe s x v = some (0, s) := by
      unfold gX11_canBe
      rw [if_pos (by omega)]
    rw [this, cl_some, if_pos rfl, hv]
    exact ⟨s, rfl, h, RF.refl, hI⟩
end
end
section
/-! ===== function and line ===== -/
def vfunc (V : vV) (f z p : Int32) : Int32 × vV := if (0 ≤ f.toInt ∧ f.toInt ≤ 9) ∧ (0 ≤ z.toInt ∧ z.toInt ≤ 8) ∧ (0 ≤ p.toInt ∧ p.toInt ≤ ((1 <<< (z &&& 31)) - 1 : Int32).toInt) ∧ vab V 6 0 = false then (1, vs (vs (vs V (2228 + f.toInt.toNat) z) (2238 + f.toInt.toNat) p) (2248 + f.toInt.toNat) 0) else (0, V)
theorem vlin_eq {w w' : Nat → Int32} {f l : Nat} (h1 : w' (2228 + f) = w (2228 + f)) (h2 : w' (2238 + f) = w (2238 + f)) (h3 : ∀ j, j < 4 → w' (vco f l + j) = w (vco f l + j)) (h : vlin w f l) : vlin w' f l := by
  unfold vlin vcan vnum vptr vslt vsz at h ⊢
  have e0 := h3 0 (by omega)
  have e1 := h3 1 (by omega)
  have e2 := h3 2 (by omega)
  have e3 := h3 3 (by omega)
  rw [Nat.add_zero] at e0
  rw [e0, e1, e2, e3, h1, h2]
  exact h
theorem Ise_eq {lim : Nat} {w w' : Nat → Int32} (h : ∀ i, 2048 ≤ i → i ≤ 2053 → w' i = w i) (hs : Ise lim w) : Ise lim w' := by
  unfold Ise
  rw [h 2048 (by omega) (by omega), h 2049 (by omega) (by omega), h 2050 (by omega) (by omega), h 2051 (by omega) (by omega), h 2052 (by omega) (by omega), h 2053 (by omega) (by omega)]
  exact hs
/-- a slot, a number, a pointer: as the reference asks -/
abbrev v2s (w : Nat → Int32) (f : Nat) (x : Int32) : Prop := 0 ≤ x.toInt ∧ x.toInt ≤ (w (2228 + f) - 1).toInt
abbrev v2n (w : Nat → Int32) (f : Nat) (x : Int32) : Prop := v2s w f x ∧ ¬ bt (w (2238 + f)) x.toInt.toNat
abbrev v2p (w : Nat → Int32) (f : Nat) (x : Int32) : Prop := v2s w f x ∧ bt (w (2238 + f)) x.toInt.toNat
abbrev v2f (x : Int32) : Prop := 0 ≤ x.toInt ∧ x.toInt ≤ 9
def vc2 (w : Nat → Int32) (f : Nat) (kind a b c : Int32) : Bool :=
  if kind = 0 then decide (v2n w f a) && decide (-999 ≤ b.toInt ∧ b.toInt ≤ 999)
  else if kind = 1 ∨ kind = 2 then decide (v2n w f a) && (decide (v2n w f b) && decide (v2n w f c))
  else if kind = 3 then decide (v2p w f a) && decide (v2n w f b)
  else if kind = 4 then decide (v2n w f a) && decide (v2p w f b)
  else if kind = 5 then decide (v2p w f a) && decide (v2n w f b)
  else if kind = 6 then decide (v2f a) && (decide (v2s w f b) && decide (v2n w f c))
  else if kind = 7 then decide (v2n w f a) && decide (0 ≤ b.toInt ∧ b.toInt ≤ 15)
  else if kind = 8 then decide (v2n w f a)
  else if kind = 9 then decide (1 ≤ a.toInt ∧ a.toInt ≤ 40) && (decide (b = -1 ∨ v2f b) && decide (v2n w f c))
  else decide (kind = 10)
theorem i10 {x : Int32} (h : 0 ≤ x.toInt ∧ x.toInt ≤ 9) : x = 0 ∨ x = 1 ∨ x = 2 ∨ x = 3 ∨ x = 4 ∨ x = 5 ∨ x = 6 ∨ x = 7 ∨ x = 8 ∨ x = 9 := by
  obtain ⟨n, a1, a2, a3, a4⟩ := i_nat (x := x) h.1
  have : n = 0 ∨ n = 1 ∨ n = 2 ∨ n = 3 ∨ n = 4 ∨ n = 5 ∨ n = 6 ∨ n = 7 ∨ n = 8 ∨ n = 9 := by omega
  rw [a2]
  rcases this with rfl | rfl | rfl | rfl | rfl | rfl | rfl | rfl | rfl | rfl
  · exact Or.inl rfl
  · exact Or.inr (Or.inl rfl)
  · exact Or.inr (Or.inr (Or.inl rfl))
  · exact Or.inr (Or.inr (Or.inr (Or.inl rfl)))
  · exact Or.inr (Or.inr (Or.inr (Or.inr (Or.inl rfl))))
  · exact Or.inr (Or.inr (Or.inr (Or.inr (Or.inr (Or.inl rfl)))))
  · exact Or.inr (Or.inr (Or.inr (Or.inr (Or.inr (Or.inr (Or.inl rfl))))))
  · exact Or.inr (Or.inr (Or.inr (Or.inr (Or.inr (Or.inr (Or.inr (Or.inl rfl)))))))
  · exact Or.inr (Or.inr (Or.inr (Or.inr (Or.inr (Or.inr (Or.inr (Or.inr (Or.inl rfl))))))))
  · exact Or.inr (Or.inr (Or.inr (Or.inr (Or.inr (Or.inr (Or.inr (Or.inr (Or.inr rfl))))))))
theorem if1 {s : wt_S} {p : Prop} [Decidable p] : (if p then some ((1 : Int32), s) else some (0, s)) = some (rb (decide p = true), s) := by
  by_cases c : p
  · rw [if_pos c, rb_pos (by simp [c])]
  · rw [if_neg c, rb_neg (by simp [c])]
theorem if2 {s : wt_S} {p : Prop} [Decidable p] {q : Bool} : (if p then some (rb (q = true), s) else some (0, s)) = some (rb ((decide p && q) = true), s) := by
  by_cases c : p
  · rw [if_pos c]
    exact congrArg (fun x => some (x, s)) (rb_iff (by simp [c]))
  · rw [if_neg c, rb_neg (by simp [c])]
section
variable {s : wt_S} {V : vV} {B f : Nat}
theorem q_isNumber {x : Int32} (hf : f < 10) : gX11_isNumber s (nI f) x = some (rb (v2n (s 111) f x), s) := by
  unfold gX11_isNumber
  rw [q_isSlot hf, cl_some, if_rb]
  by_cases c : v2s (s 111) f x
  · obtain ⟨k, k1, rfl, k3, k4⟩ := i_nat (x := x) c.1
    rw [if_pos c, li_add, ix_nI (by omega) (by omega), q_has, cl_some, if_rbn]
    by_cases c2 : bt (s 111 (2238 + f)) k
    · rw [if_pos c2, rb_neg (fun e => e.2 (by rw [k3]; exact c2))]
    · rw [if_neg c2, rb_pos ⟨c, by rw [k3]; exact c2⟩]
  · rw [if_neg c, rb_neg (fun e => c e.1)]
theorem q_isPointer {x : Int32} (hf : f < 10) : gX11_isPointer s (nI f) x = some (rb (v2p (s 111) f x), s) := by
  unfold gX11_isPointer
  rw [q_isSlot hf, cl_some, if_rb]
  by_cases c : v2s (s 111) f x
  · obtain ⟨k, k1, rfl, k3, k4⟩ := i_nat (x := x) c.1
    rw [if_pos c, li_add, ix_nI (by omega) (by omega), q_has, cl_some, if_rb]
    by_cases c2 : bt (s 111 (2238 + f)) k
    · rw [if_pos c2, rb_pos ⟨c, by rw [k3]; exact c2⟩]
    · rw [if_neg c2, rb_neg (fun e => c2 (by have := e.2; rw [k3] at this; exact this))]
  · rw [if_neg c, rb_neg (fun e => c e.1)]
theorem q_canLine {kind a b c : Int32} (hf : f < 10) : gX11_canLine s (nI f) kind a b c = some (rb (vc2 (s 111) f kind a b c = true), s) := by
  unfold gX11_canLine
  by_cases c0 : kind.toInt < 0 ∨ 9 < kind.toInt
  · rw [if_pos c0]
    have hk : ∀ x : Int32, 0 ≤ x.toInt → x.toInt ≤ 9 → kind ≠ x := fun x h1 h2 e => by subst e; omega
    have e : vc2 (s 111) f kind a b c = decide (kind = 10) := by
      unfold vc2
      rw [if_neg (hk 0 (by decide) (by decide)), if_neg (fun e => e.elim (hk 1 (by decide) (by decide)) (hk 2 (by decide) (by decide))), if_neg (hk 3 (by decide) (by decide)), if_neg (hk 4 (by decide) (by decide)), if_neg (hk 5 (by decide) (by decide)), if_neg (hk 6 (by decide) (by decide)), if_neg (hk 7 (by decide) (by decide)), if_neg (hk 8 (by decide) (by decide)), if_neg (hk 9 (by decide) (by decide))]
    rw [e]
    by_cases c1 : kind = 10
    · rw [if_neg (by simp [c1]), rb_pos (by simp [c1])]
    · rw [if_pos c1, rb_neg (by simp [c1])]
  · rw [if_neg c0]
    rcases i10 (x := kind) (by omega) with rfl | rfl | rfl | rfl | rfl | rfl | rfl | rfl | rfl | rfl
    · rw [if_pos (show (0 : Int32).toInt = 0 by decide), q_isNumber hf, cl_some, if_rb, q_isIn, cl_some, if_rb, if1, if2]
      rfl
    · rw [if_neg (show ¬ (1 : Int32).toInt = 0 by decide), if_pos (show (1 : Int32).toInt = 1 by decide), q_isNumber hf, cl_some, if_rb, q_isNumber hf, cl_some, if_rb, q_isNumber hf, cl_some, if_rb, if1, if2, if2]
      rfl
    · rw [if_neg (show ¬ (2 : Int32).toInt = 0 by decide), if_neg (show ¬ (2 : Int32).toInt = 1 by decide), if_pos (show (2 : Int32).toInt = 2 by decide), q_isNumber hf, cl_some, if_rb, q_isNumber hf, cl_some, if_rb, q_isNumber hf, cl_some, if_rb, if1, if2, if2]
      rfl
    · rw [if_neg (show ¬ (3 : Int32).toInt = 0 by decide), if_neg (show ¬ (3 : Int32).toInt = 1 by decide), if_neg (show ¬ (3 : Int32).toInt = 2 by decide), if_pos (show (3 : Int32).toInt = 3 by decide), q_isPointer hf, cl_some, if_rb, q_isNumber hf, cl_some, if_rb, if1, if2]
      rfl
    · rw [if_neg (show ¬ (4 : Int32).toInt = 0 by decide), if_neg (show ¬ (4 : Int32).toInt = 1 by decide), if_neg (show ¬ (4 : Int32).toInt = 2 by decide), if_neg (show ¬ (4 : Int32).toInt = 3 by decide), if_pos (show (4 : Int32).toInt = 4 by decide), q_isNumber hf, cl_some, if_rb, q_isPointer hf, cl_some, if_rb, if1, if2]
      rfl
    · rw [if_neg (show ¬ (5 : Int32).toInt = 0 by decide), if_neg (show ¬ (5 : Int32).toInt = 1 by decide), if_neg (show ¬ (5 : Int32).toInt = 2 by decide), if_neg (show ¬ (5 : Int32).toInt = 3 by decide), if_neg (show ¬ (5 : Int32).toInt = 4 by decide), if_pos (show (5 : Int32).toInt = 5 by decide), q_isPointer hf, cl_some, if_rb, q_isNumber hf, cl_some, if_rb, if1, if2]
      rfl
    · rw [if_neg (show ¬ (6 : Int32).toInt = 0 by decide), if_neg (show ¬ (6 : Int32).toInt = 1 by decide), if_neg (show ¬ (6 : Int32).toInt = 2 by decide), if_neg (show ¬ (6 : Int32).toInt = 3 by decide), if_neg (show ¬ (6 : Int32).toInt = 4 by decide), if_neg (show ¬ (6 : Int32).toInt = 5 by decide), if_pos (show (6 : Int32).toInt = 6 by decide), q_isFunction, cl_some, if_rb, q_isSlot hf, cl_some, if_rb, q_isNumber hf, cl_some, if_rb, if1, if2, if2]
      rfl
    · rw [if_neg (show ¬ (7 : Int32).toInt = 0 by decide), if_neg (show ¬ (7 : Int32).toInt = 1 by decide), if_neg (show ¬ (7 : Int32).toInt = 2 by decide), if_neg (show ¬ (7 : Int32).toInt = 3 by decide), if_neg (show ¬ (7 : Int32).toInt = 4 by decide), if_neg (show ¬ (7 : Int32).toInt = 5 by decide), if_neg (show ¬ (7 : Int32).toInt = 6 by decide), if_pos (show (7 : Int32).toInt = 7 by decide), q_isNumber hf, cl_some, if_rb, q_isIn, cl_some, if_rb, if1, if2]
      rfl
    · rw [if_neg (show ¬ (8 : Int32).toInt = 0 by decide), if_neg (show ¬ (8 : Int32).toInt = 1 by decide), if_neg (show ¬ (8 : Int32).toInt = 2 by decide), if_neg (show ¬ (8 : Int32).toInt = 3 by decide), if_neg (show ¬ (8 : Int32).toInt = 4 by decide), if_neg (show ¬ (8 : Int32).toInt = 5 by decide), if_neg (show ¬ (8 : Int32).toInt = 6 by decide), if_neg (show ¬ (8 : Int32).toInt = 7 by decide), if_pos (show (8 : Int32).toInt = 8 by decide), q_isNumber hf, cl_some, rz_rb]
      have e : vc2 (s 111) f 8 a b c = decide (v2n (s 111) f a) := rfl
      rw [e]
      exact congrArg (fun x => some (x, s)) (rb_iff decide_eq_true_iff.symm)
    · rw [if_neg (show ¬ (9 : Int32).toInt = 0 by decide), if_neg (show ¬ (9 : Int32).toInt = 1 by decide), if_neg (show ¬ (9 : Int32).toInt = 2 by decide), if_neg (show ¬ (9 : Int32).toInt = 3 by decide), if_neg (show ¬ (9 : Int32).toInt = 4 by decide), if_neg (show ¬ (9 : Int32).toInt = 5 by decide), if_neg (show ¬ (9 : Int32).toInt = 6 by decide), if_neg (show ¬ (9 : Int32).toInt = 7 by decide), if_neg (show ¬ (9 : Int32).toInt = 8 by decide), if_pos (show (9 : Int32).toInt = 9 by decide), q_isIn, cl_some, if_rb]
      have e285 : gX11_canLine_285 s (nI f) c = some (rb (decide (v2n (s 111) f c) = true), s) := by
        unfold gX11_canLine_285
        rw [q_isNumber hf, cl_some, if_rb, if1]
      rw [e285, q_isFunction, cl_some, if_rb, e285, if2]
      have e : vc2 (s 111) f 9 a b c = (decide (1 ≤ a.toInt ∧ a.toInt ≤ 40) && (decide (b = -1 ∨ v2f b) && decide (v2n (s 111) f c))) := rfl
      rw [e]
      have e2 : (if b = -1 then some (rb (decide (v2n (s 111) f c) = true), s) else some (rb ((decide (0 ≤ b.toInt ∧ b.toInt ≤ 9) && decide (v2n (s 111) f c)) = true), s)) = some (rb ((decide (b = -1 ∨ v2f b) && decide (v2n (s 111) f c)) = true), s) := by
        by_cases cb : b = -1
        · rw [if_pos cb]
          exact congrArg (fun x => some (x, s)) (rb_iff (by simp [cb]))
        · rw [if_neg cb]
          exact congrArg (fun x => some (x, s)) (rb_iff (by simp [cb]))
      rw [e2, if2]
      rfl
theorem v2s_slt {w : Nat → Int32} {x : Int32} (hp : Ipr w) (hf : f < 10) (h : v2s w f x) : ∃ k, x = nI k ∧ x.toInt.toNat = k ∧ k < vsz w f := by
  obtain ⟨k, k1, rfl, k3, k4⟩ := i_nat (x := x) h.1
  obtain ⟨z1, z2⟩ := hp.sz hf
  refine ⟨k, rfl, k3, ?_⟩
  have h2 := h.2
  rw [z1] at h2
  by_cases e : vsz w f = 0
  · rw [e] at h2
    have : (nI 0 - 1).toInt = -1 := by decide
    omega
  · rw [li_sub (by omega), k4] at h2
    rw [nI_int (by omega)] at h2
    omega
theorem v2n_num {w : Nat → Int32} {x : Int32} (hp : Ipr w) (hf : f < 10) (h : v2n w f x) : vnum w f x := by
  obtain ⟨k, k1, k2, k3⟩ := v2s_slt hp hf h.1
  exact ⟨k, k1, k3, by rw [← k2]; exact h.2⟩
theorem v2p_ptr {w : Nat → Int32} {x : Int32} (hp : Ipr w) (hf : f < 10) (h : v2p w f x) : vptr w f x := by
  obtain ⟨k, k1, k2, k3⟩ := v2s_slt hp hf h.1
  exact ⟨k, k1, k3, by rw [← k2]; exact h.2⟩
theorem v2f_fun {x : Int32} (h : v2f x) : vfun x := by
  obtain ⟨k, k1, rfl, k3, k4⟩ := i_nat (x := x) h.1
  have h2 := h.2
  exact ⟨k, rfl, by omega⟩
theorem vc2_can {w : Nat → Int32} {kind a b c : Int32} (hp : Ipr w) (hf : f < 10) (h : vc2 w f kind a b c = true) : vcan w f kind a b c := by
  have hn : ∀ x, v2n w f x → vnum w f x := fun x => v2n_num hp hf
  have hpt : ∀ x, v2p w f x → vptr w f x := fun x => v2p_ptr hp hf
  by_cases c0 : 0 ≤ kind.toInt ∧ kind.toInt ≤ 9
  · unfold vcan
    rcases i10 c0 with rfl | rfl | rfl | rfl | rfl | rfl | rfl | rfl | rfl | rfl
    · have h : (decide (v2n w f a) && decide (-999 ≤ b.toInt ∧ b.toInt ≤ 999)) = true := h
      rw [Bool.and_eq_true, decide_eq_true_iff, decide_eq_true_iff] at h
      exact ⟨by decide, fun _ => hn a h.1, fun e => absurd e (by decide), fun e => absurd e (by decide), fun e => absurd e (by decide), fun e => absurd e (by decide), fun e => absurd e (by decide), fun e => absurd e (by decide), fun e => absurd e (by decide), fun e => absurd e (by decide)⟩
    · have h : (decide (v2n w f a) && (decide (v2n w f b) && decide (v2n w f c))) = true := h
      rw [Bool.and_eq_true, Bool.and_eq_true, decide_eq_true_iff, decide_eq_true_iff, decide_eq_true_iff] at h
      exact ⟨by decide, fun e => absurd e (by decide), fun _ => ⟨hn a h.1, hn b h.2.1, hn c h.2.2⟩, fun e => absurd e (by decide), fun e => absurd e (by decide), fun e => absurd e (by decide), fun e => absurd e (by decide), fun e => absurd e (by decide), fun e => absurd e (by decide), fun e => absurd e (by decide)⟩
    · have h : (decide (v2n w f a) && (decide (v2n w f b) && decide (v2n w f c))) = true := h
      rw [Bool.and_eq_true, Bool.and_eq_true, decide_eq_true_iff, decide_eq_true_iff, decide_eq_true_iff] at h
      exact ⟨by decide, fun e => absurd e (by decide), fun _ => ⟨hn a h.1, hn b h.2.1, hn c h.2.2⟩, fun e => absurd e (by decide), fun e => absurd e (by decide), fun e => absurd e (by decide), fun e => absurd e (by decide), fun e => absurd e (by decide), fun e => absurd e (by decide), fun e => absurd e (by decide)⟩
    · have h : (decide (v2p w f a) && decide (v2n w f b)) = true := h
      rw [Bool.and_eq_true, decide_eq_true_iff, decide_eq_true_iff] at h
      exact ⟨by decide, fun e => absurd e (by decide), fun e => absurd e (by decide), fun _ => ⟨hpt a h.1, hn b h.2⟩, fun e => absurd e (by decide), fun e => absurd e (by decide), fun e => absurd e (by decide), fun e => absurd e (by decide), fun e => absurd e (by decide), fun e => absurd e (by decide)⟩
    · have h : (decide (v2n w f a) && decide (v2p w f b)) = true := h
      rw [Bool.and_eq_true, decide_eq_true_iff, decide_eq_true_iff] at h
      exact ⟨by decide, fun e => absurd e (by decide), fun e => absurd e (by decide), fun e => absurd e (by decide), fun _ => ⟨hn a h.1, hpt b h.2⟩, fun e => absurd e (by decide), fun e => absurd e (by decide), fun e => absurd e (by decide), fun e => absurd e (by decide), fun e => absurd e (by decide)⟩
    · have h : (decide (v2p w f a) && decide (v2n w f b)) = true := h
      rw [Bool.and_eq_true, decide_eq_true_iff, decide_eq_true_iff] at h
      exact ⟨by decide, fun e => absurd e (by decide), fun e => absurd e (by decide), fun e => absurd e (by decide), fun e => absurd e (by decide), fun _ => ⟨hpt a h.1, hn b h.2⟩, fun e => absurd e (by decide), fun e => absurd e (by decide), fun e => absurd e (by decide), fun e => absurd e (by decide)⟩
    · have h : (decide (v2f a) && (decide (v2s w f b) && decide (v2n w f c))) = true := h
      rw [Bool.and_eq_true, Bool.and_eq_true, decide_eq_true_iff, decide_eq_true_iff, decide_eq_true_iff] at h
      obtain ⟨k, k1, k2, k3⟩ := v2s_slt hp hf h.2.1
      exact ⟨by decide, fun e => absurd e (by decide), fun e => absurd e (by decide), fun e => absurd e (by decide), fun e => absurd e (by decide), fun e => absurd e (by decide), fun _ => ⟨v2f_fun h.1, ⟨k, k1, k3⟩, hn c h.2.2⟩, fun e => absurd e (by decide), fun e => absurd e (by decide), fun e => absurd e (by decide)⟩
    · have h : (decide (v2n w f a) && decide (0 ≤ b.toInt ∧ b.toInt ≤ 15)) = true := h
      rw [Bool.and_eq_true, decide_eq_true_iff, decide_eq_true_iff] at h
      obtain ⟨k, k1, k2, k3, k4⟩ := i_nat (x := b) h.2.1
      have h2 := h.2.2
      exact ⟨by decide, fun e => absurd e (by decide), fun e => absurd e (by decide), fun e => absurd e (by decide), fun e => absurd e (by decide), fun e => absurd e (by decide), fun e => absurd e (by decide), fun _ => ⟨hn a h.1, k, k2, by omega⟩, fun e => absurd e (by decide), fun e => absurd e (by decide)⟩
    · have h : decide (v2n w f a) = true := h
      rw [decide_eq_true_iff] at h
      exact ⟨by decide, fun e => absurd e (by decide), fun e => absurd e (by decide), fun e => absurd e (by decide), fun e => absurd e (by decide), fun e => absurd e (by decide), fun e => absurd e (by decide), fun e => absurd e (by decide), fun _ => hn a h, fun e => absurd e (by decide)⟩
    · have h : (decide (1 ≤ a.toInt ∧ a.toInt ≤ 40) && (decide (b = -1 ∨ v2f b) && decide (v2n w f c))) = true := h
      rw [Bool.and_eq_true, Bool.and_eq_true, decide_eq_true_iff, decide_eq_true_iff, decide_eq_true_iff] at h
      obtain ⟨⟨h1, h2⟩, h3, h4⟩ := h
      obtain ⟨k, k1, k2, k3, k4⟩ := i_nat (x := a) (by omega)
      exact ⟨by decide, fun e => absurd e (by decide), fun e => absurd e (by decide), fun e => absurd e (by decide), fun e => absurd e (by decide), fun e => absurd e (by decide), fun e => absurd e (by decide), fun e => absurd e (by decide), fun e => absurd e (by decide), fun _ => ⟨⟨k, k2, by omega, by omega⟩, h3.imp id v2f_fun, hn c h4⟩⟩
  · have hk : ∀ x : Int32, 0 ≤ x.toInt → x.toInt ≤ 9 → kind ≠ x := fun x h1 h2 e => by subst e; omega
    have e : vc2 w f kind a b c = decide (kind = 10) := by
      unfold vc2
      rw [if_neg (hk 0 (by decide) (by decide)), if_neg (fun e => e.elim (hk 1 (by decide) (by decide)) (hk 2 (by decide) (by decide))), if_neg (hk 3 (by decide) (by decide)), if_neg (hk 4 (by decide) (by decide)), if_neg (hk 5 (by decide) (by decide)), if_neg (hk 6 (by decide) (by decide)), if_neg (hk 7 (by decide) (by decide)), if_neg (hk 8 (by decide) (by decide)), if_neg (hk 9 (by decide) (by decide))]
    rw [e, decide_eq_true_iff] at h
    subst h
    exact ⟨by decide, fun e => absurd e (by decide), fun e => absurd e (by decide), fun e => absurd e (by decide), fun e => absurd e (by decide), fun e => absurd e (by decide), fun e => absurd e (by decide), fun e => absurd e (by decide), fun e => absurd e (by decide), fun e => absurd e (by decide)⟩
theorem VI.re2 {V' : vV} (hI : VI 2048 B V) (hn : vab V 6 0 = false) (e2 : V'.2 = V.2) (h1 : Ise 2048 V'.1) (h2 : Ipr V'.1) (h3 : ∀ i, 2054 ≤ i → (i < 2228 ∨ 2898 ≤ i) → V'.1 i = V.1 i) : VI 2048 B V' := by
  have := hI.re hn h1 h2 h3
  rw [← e2] at this
  exact this
theorem q_function {x z p : Int32} (h : RS s V) (hI : VI 2048 B V) : ∃ s', gX11_function s x z p = some ((vfunc V x z p).1, s') ∧ RS s' (vfunc V x z p).2 ∧ RF s s' ∧ VI 2048 B (vfunc V x z p).2 := by
  unfold gX11_function
  rw [q_isFunction, cl_some, if_rb]
  by_cases c1 : 0 ≤ x.toInt ∧ x.toInt ≤ 9
  · rw [if_pos c1, q_isIn, cl_some, if_rb]
    by_cases c2 : 0 ≤ z.toInt ∧ z.toInt ≤ 8
    · rw [if_pos (show (0 : Int32).toInt ≤ z.toInt ∧ z.toInt ≤ (8 : Int32).toInt from c2), q_isIn, cl_some, if_rb]
      by_cases c3 : 0 ≤ p.toInt ∧ p.toInt ≤ ((1 <<< (z &&& 31)) - 1 : Int32).toInt
      · rw [if_pos (show (0 : Int32).toInt ≤ p.toInt ∧ p.toInt ≤ ((1 <<< (z &&& 31)) - 1 : Int32).toInt from c3), q_anyBusy h, cl_some, if_rb]
        by_cases c4 : vab V 6 0 = true
        · have hv : vfunc V x z p = (0, V) := by unfold vfunc; rw [if_neg (fun e => by have := e.2.2.2; rw [c4] at this; cases this)]
          rw [if_pos c4, hv]
          exact ⟨s, rfl, h, RF.refl, hI⟩
        · have c4' : vab V 6 0 = false := by simpa using c4
          obtain ⟨f, f1, rfl, f3, f4⟩ := i_nat (x := x) c1.1
          have f10 : f < 10 := by omega
          obtain ⟨zn, z1, rfl, z3, z4⟩ := i_nat (x := z) c2.1
          have hv : vfunc V (nI f) (nI zn) p = (1, vs (vs (vs V (2228 + f) (nI zn)) (2238 + f) p) (2248 + f) 0) := by unfold vfunc; rw [f3, if_pos ⟨c1, c2, c3, c4'⟩]
          obtain ⟨n1, n2⟩ := hI.non c4'
          rw [if_neg c4, hv, li_add, ix_nI (by omega) (by omega), wr_eq, li_add, ix_nI (by omega) (by omega), wr_eq, li_add, ix_nI (by omega) (by omega), wr_eq]
          have hn0 : ∀ t, t < 6 → V.2.2.1 t = 0 := fun t ht => (n2 t ht).1
          have a1 := h.u0 (i := 2228 + f) (v := nI zn) hn0 (Or.inr (Or.inl (by omega)))
          have a2 := a1.u0 (i := 2238 + f) (v := p) hn0 (Or.inr (Or.inl (by omega)))
          have a3 := a2.u0 (i := 2248 + f) (v := 0) hn0 (Or.inr (Or.inl (by omega)))
          refine ⟨_, rfl, a3, RF.trans (RF.uf (Or.inl rfl)) (RF.trans (RF.uf (Or.inl rfl)) (RF.uf (Or.inl rfl))), ?_⟩
          have e : ∀ i, i ≠ 2228 + f → i ≠ 2238 + f → i ≠ 2248 + f → (vs (vs (vs V (2228 + f) (nI zn)) (2238 + f) p) (2248 + f) 0).1 i = V.1 i := fun i q1 q2 q3 => (vs_ne q3).trans ((vs_ne q2).trans (vs_ne q1))
          refine hI.re2 c4' rfl (Ise_eq (fun i q1 q2 => e i (by omega) (by omega) (by omega)) hI.1) ?_ (fun i q1 q2 => e i (by omega) (by omega) (by omega))
          intro g hg
          by_cases eg : g = f
          · subst eg
            have e1 : (vs (vs (vs V (2228 + g) (nI zn)) (2238 + g) p) (2248 + g) 0).1 (2248 + g) = nI 0 := vs_at
            have e2 : (vs (vs (vs V (2228 + g) (nI zn)) (2238 + g) p) (2248 + g) 0).1 (2228 + g) = nI zn := (vs_ne (by omega)).trans ((vs_ne (by omega)).trans vs_at)
            refine ⟨⟨zn, by omega, e2⟩, ⟨0, by omega, e1⟩, fun k hk => ?_⟩
            rw [vli_of e1 (by omega)] at hk
            omega
          · obtain ⟨p1, p2, p3⟩ := hI.2.1 g hg
            refine ⟨by rw [e _ (by omega) (by omega) (by omega)]; exact p1, by rw [e _ (by omega) (by omega) (by omega)]; exact p2, fun k hk => ?_⟩
            have el : vli (vs (vs (vs V (2228 + f) (nI zn)) (2238 + f) p) (2248 + f) 0).1 g = vli V.1 g := by unfold vli; rw [e _ (by omega) (by omega) (by omega)]
            rw [el] at hk
            exact vlin_eq (e _ (by omega) (by omega) (by omega)) (e _ (by omega) (by omega) (by omega)) (fun j hj => e _ (by unfold vco; omega) (by unfold vco; omega) (by unfold vco; omega)) (p3 k hk)
      · have hv : vfunc V x z p = (0, V) := by unfold vfunc; rw [if_neg (fun e => c3 e.2.2.1)]
        rw [if_neg (show ¬ ((0 : Int32).toInt ≤ p.toInt ∧ p.toInt ≤ ((1 <<< (z &&& 31)) - 1 : Int32).toInt) from c3), hv]
        exact ⟨s, rfl, h, RF.refl, hI⟩
    · have hv : vfunc V x z p = (0, V) := by unfold vfunc; rw [if_neg (fun e => c2 e.2.1)]
      rw [if_neg (show ¬ ((0 : Int32).toInt ≤ z.toInt ∧ z.toInt ≤ (8 : Int32).toInt) from c2), hv]
      exact ⟨s, rfl, h, RF.refl, hI⟩
  · have hv : vfunc V x z p = (0, V) := by unfold vfunc; rw [if_neg (fun e => c1 e.1)]
    rw [if_neg c1, hv]
    exact ⟨s, rfl, h, RF.refl, hI⟩
/-- a line more -/
def vl5 (V : vV) (f l : Nat) (kind a b c : Int32) : vV := vs (vs (vs (vs (vs V (vco f l) kind) (vco f l + 1) a) (vco f l + 2) b) (vco f l + 3) c) (2248 + f) (nI (l + 1))
def vline (V : vV) (x kind a b c : Int32) : Int32 × vV := if tld V.1 x ∧ vab V 6 0 = false ∧ V.1 (2248 + x.toInt.toNat) ≠ 16 ∧ vc2 V.1 x.toInt.toNat kind a b c = true then (nI (vli V.1 x.toInt.toNat), vl5 V x.toInt.toNat (vli V.1 x.toInt.toNat) kind a b c) else (-1, V)
theorem vc2_eq {w w' : Nat → Int32} {kind a b c : Int32} (h1 : w' (2228 + f) = w (2228 + f)) (h2 : w' (2238 + f) = w (2238 + f)) : vc2 w' f kind a b c = vc2 w f kind a b c := by
  unfold vc2
  simp only [v2n, v2p, v2s, h1, h2]
theorem vcan_eq {w w' : Nat → Int32} {kind a b c : Int32} (h1 : w' (2228 + f) = w (2228 + f)) (h2 : w' (2238 + f) = w (2238 + f)) (h : vcan w f kind a b c) : vcan w' f kind a b c := by
  unfold vcan vnum vptr vslt vsz at h ⊢
  rw [h1, h2]
  exact h
theorem vl5_ne {l i : Nat} {kind a b c : Int32} (h : i < vco f l ∨ vco f l + 4 ≤ i) (h2 : i ≠ 2248 + f) : (vl5 V f l kind a b c).1 i = V.1 i := by
  unfold vl5
  rw [vs_ne h2, vs_ne (by omega), vs_ne (by omega), vs_ne (by omega), vs_ne (by omega)]
theorem vl5_at {l : Nat} {kind a b c : Int32} (hf : f < 10) : (vl5 V f l kind a b c).1 (vco f l) = kind ∧ (vl5 V f l kind a b c).1 (vco f l + 1) = a ∧ (vl5 V f l kind a b c).1 (vco f l + 2) = b ∧ (vl5 V f l kind a b c).1 (vco f l + 3) = c ∧ (vl5 V f l kind a b c).1 (2248 + f) = nI (l + 1) := by
  have hv : 2258 ≤ vco f l := by unfold vco; omega
  unfold vl5
  refine ⟨?_, ?_, ?_, ?_, vs_at⟩
  · rw [vs_ne (by omega), vs_ne (by omega), vs_ne (by omega), vs_ne (by omega), vs_at]
  · rw [vs_ne (by omega), vs_ne (by omega), vs_ne (by omega), vs_at]
  · rw [vs_ne (by omega), vs_ne (by omega), vs_at]
  · rw [vs_ne (by omega), vs_at]
theorem q_line {x kind a b c : Int32} (h : RS s V) (hI : VI 2048 B V) : ∃ s', gX11_line s x kind a b c = some ((vline V x kind a b c).1, s') ∧ RS s' (vline V x kind a b c).2 ∧ RF s s' ∧ VI 2048 B (vline V x kind a b c).2 := by
  unfold gX11_line
  rw [q_isTold, cl_some, if_rb]
  have htl : tld (s 111) x ↔ tld V.1 x := h.prog.tl
  by_cases c1 : tld V.1 x
  · rw [if_pos (htl.mpr c1), q_anyBusy h, cl_some, if_rbn]
    by_cases c4 : vab V 6 0 = true
    · have hv : vline V x kind a b c = (-1, V) := by unfold vline; rw [if_neg (fun e => by have := e.2.1; rw [c4] at this; cases this)]
      rw [if_pos c4, hv]
      exact ⟨s, rfl, h, RF.refl, hI⟩
    · have c4' : vab V 6 0 = false := by simpa using c4
      obtain ⟨f, f10, rfl, f3, f4⟩ := tld_nat c1
      rw [if_neg c4, li_add, ix_nI (by omega) (by omega), h.pr (c := 2248 + f) (by omega)]
      by_cases c5 : V.1 (2248 + f) = 16
      · have hv : vline V (nI f) kind a b c = (-1, V) := by unfold vline; rw [if_neg (fun e => e.2.2.1 (by rw [f3]; exact c5))]
        rw [if_pos c5, hv]
        exact ⟨s, rfl, h, RF.refl, hI⟩
      · rw [if_neg c5, q_canLine f10, cl_some, if_rbn, vc2_eq (h.pr (c := 2228 + f) (by omega)) (h.pr (c := 2238 + f) (by omega))]
        obtain ⟨l1, l2⟩ := hI.2.1.li f10
        have hl16 : vli V.1 f < 16 := by
          by_cases e : vli V.1 f = 16
          · rw [e] at l1; exact absurd l1 c5
          · omega
        by_cases c6 : vc2 V.1 f kind a b c = true
        · have hv : vline V (nI f) kind a b c = (nI (vli V.1 f), vl5 V f (vli V.1 f) kind a b c) := by unfold vline; rw [if_pos ⟨c1, c4', by rw [f3]; exact c5, by rw [f3]; exact c6⟩, f3]
          obtain ⟨n1, n2⟩ := hI.non c4'
          have hn0 : ∀ t, t < 6 → V.2.2.1 t = 0 := fun t ht => (n2 t ht).1
          generalize hL : vli V.1 f = l at *
          have hvco : 2258 ≤ vco f l ∧ vco f l + 4 ≤ 2898 := by unfold vco; omega
          have a1 := h.u0 (i := vco f l) (v := kind) hn0 (Or.inr (Or.inl (by omega)))
          have a2 := a1.u0 (i := vco f l + 1) (v := a) hn0 (Or.inr (Or.inl (by omega)))
          have a3 := a2.u0 (i := vco f l + 2) (v := b) hn0 (Or.inr (Or.inl (by omega)))
          have a4 := a3.u0 (i := vco f l + 3) (v := c) hn0 (Or.inr (Or.inl (by omega)))
          have e8 : (vs (vs (vs (vs V (vco f l) kind) (vco f l + 1) a) (vco f l + 2) b) (vco f l + 3) c).1 (2248 + f) = nI l := by rw [vs_ne (by omega), vs_ne (by omega), vs_ne (by omega), vs_ne (by omega)]; exact l1
          have a5 := a4.u0 (i := 2248 + f) (v := nI (l + 1)) hn0 (Or.inr (Or.inl (by omega)))
          have a5 : RS _ (vl5 V f l kind a b c) := a5
          have hco : (2258 + 4 * (16 * f + l)) = vco f l := rfl
          rw [if_pos c6, hv, ix_nI (by omega) (by omega), h.pr (c := 2248 + f) (by omega), l1, q_codeAt, cl_some, hco, ix_nI (by omega) (by omega), wr_eq, li_add2, ix_nI (by omega) (by omega), wr_eq, li_add2, ix_nI (by omega) (by omega), wr_eq, li_add2, ix_nI (by omega) (by omega), wr_eq, ix_nI (by omega) (by omega), ix_nI (by omega) (by omega), wr_eq, ix_nI (by omega) (by omega), a4.pr (c := 2248 + f) (by omega), e8, nI_1, wt_u_self, li_sub (by omega)]
          refine ⟨_, rfl, a5, RF.trans (RF.uf (Or.inl rfl)) (RF.trans (RF.uf (Or.inl rfl)) (RF.trans (RF.uf (Or.inl rfl)) (RF.trans (RF.uf (Or.inl rfl)) (RF.uf (Or.inl rfl))))), ?_⟩
          refine hI.re2 (V' := vl5 V f l kind a b c) c4' rfl (Ise_eq (fun i q1 q2 => vl5_ne (by omega) (by omega)) hI.1) ?_ (fun i q1 q2 => vl5_ne (by omega) (by omega))
          obtain ⟨t0, t1, t2, t3, t4⟩ := vl5_at (V := V) (f := f) (l := l) (kind := kind) (a := a) (b := b) (c := c) f10
          intro g hg
          obtain ⟨p1, p2, p3⟩ := hI.2.1 g hg
          have es : (vl5 V f l kind a b c).1 (2228 + g) = V.1 (2228 + g) := vl5_ne (by omega) (by omega)
          have ep : (vl5 V f l kind a b c).1 (2238 + g) = V.1 (2238 + g) := vl5_ne (by omega) (by omega)
          by_cases eg : g = f
          · subst eg
            refine ⟨by rw [es]; exact p1, ⟨l + 1, by omega, t4⟩, fun k hk => ?_⟩
            rw [vli_of t4 (by omega)] at hk
            by_cases ek : k = l
            · subst ek
              unfold vlin
              rw [t0, t1, t2, t3]
              exact vcan_eq es ep (vc2_can hI.2.1 f10 c6)
            · exact vlin_eq es ep (fun j hj => vl5_ne (by unfold vco; omega) (by unfold vco; omega)) (p3 k (by omega))
          · have el : (vl5 V f l kind a b c).1 (2248 + g) = V.1 (2248 + g) := vl5_ne (by omega) (by omega)
            refine ⟨by rw [es]; exact p1, by rw [el]; exact p2, fun k hk => ?_⟩
            have hk : k < vli V.1 g := by unfold vli at hk ⊢; rw [el] at hk; exact hk
            have hk16 := (hI.2.1.li hg).2
            exact vlin_eq es ep (fun j hj => vl5_ne (by unfold vco; omega) (by unfold vco; omega)) (p3 k hk)
        · have hv : vline V (nI f) kind a b c = (-1, V) := by unfold vline; rw [if_neg (fun e => c6 (by have := e.2.2.2; rw [f3] at this; exact this))]
          rw [if_neg c6, hv]
          exact ⟨s, rfl, h, RF.refl, hI⟩
  · have hv : vline V x kind a b c = (-1, V) := by unfold vline; rw [if_neg (fun e => c1 e.1)]
    rw [if_neg (fun e => c1 (htl.mp e)), hv]
    exact ⟨s, rfl, h, RF.refl, hI⟩
end
end
