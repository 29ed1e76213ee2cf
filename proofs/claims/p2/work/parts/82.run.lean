/-! ===== start, step, round, quiet ===== -/
def vby (V : vV) (t : Nat) : Bool := decide (V.1 (3926 + t) = 1 ∨ V.1 (3926 + t) = 2)
theorem vby_iff {V : vV} {t : Nat} : vby V t = true ↔ vbz V.1 t := by unfold vby vbz; rw [decide_eq_true_iff]
def vstart (V : vV) (x f a mode : Int32) : Int32 × vV := if (0 ≤ x.toInt ∧ x.toInt ≤ 5) ∧ vby V x.toInt.toNat = false ∧ tld V.1 f ∧ (mode = 0 ∨ mode = 1) then (rb ((vbg 2048 V x.toInt.toNat f.toInt.toNat a mode).1 = true), (vbg 2048 V x.toInt.toNat f.toInt.toNat a mode).2) else (0, V)
def vrun (Z : (Nat → Int32) → Int32 → Int32 → Int32 → Bool) (t : Nat) : Nat → vV → Nat × vV
  | 0, V => (0, V)
  | n + 1, V => if vby V t then ((vrun Z t n (vst 2048 Z V t)).1 + 1, (vrun Z t n (vst 2048 Z V t)).2) else (0, V)
def vstep (Z : (Nat → Int32) → Int32 → Int32 → Int32 → Bool) (V : vV) (x n : Int32) : Int32 × vV := if (0 ≤ x.toInt ∧ x.toInt ≤ 5) ∧ (1 ≤ n.toInt ∧ n.toInt ≤ 200) then (nI (vrun Z x.toInt.toNat n.toInt.toNat V).1, (vrun Z x.toInt.toNat n.toInt.toNat V).2) else (-1, V)
/-- each task by numbers, from one on -/
def vrn6 (Z : (Nat → Int32) → Int32 → Int32 → Int32 → Bool) : Nat → Nat → Nat → vV → Nat × vV
  | 0, _, m, V => (m, V)
  | r + 1, t, m, V => vrn6 Z r (t + 1) (m + (vrun Z t 1 V).1) (vrun Z t 1 V).2
def vrnd (Z : (Nat → Int32) → Int32 → Int32 → Int32 → Bool) : Nat → Nat → vV → Nat × vV
  | 0, m, V => (m, V)
  | r + 1, m, V => vrnd Z r (vrn6 Z 6 0 m V).1 (vrn6 Z 6 0 m V).2
def vround (Z : (Nat → Int32) → Int32 → Int32 → Int32 → Bool) (V : vV) (n : Int32) : Int32 × vV := if 1 ≤ n.toInt ∧ n.toInt ≤ 100 then (nI (vrnd Z n.toInt.toNat 0 V).1, (vrnd Z n.toInt.toNat 0 V).2) else (-1, V)
def vquiet (V : vV) (x : Int32) : Int32 × vV := if (0 ≤ x.toInt ∧ x.toInt ≤ 5) ∧ vby V x.toInt.toNat = true then (rb ((vqu 2048 V x.toInt.toNat).1 = true), (vqu 2048 V x.toInt.toNat).2) else (0, V)
theorem i_task {x : Int32} (h : 0 ≤ x.toInt ∧ x.toInt ≤ 5) : ∃ t, t < 6 ∧ x = nI t ∧ x.toInt.toNat = t := by
  obtain ⟨t, h1, h2⟩ := nI_ex (v := x) (by omega)
  rw [h2, nI_int h1] at h
  exact ⟨t, by omega, h2, by rw [h2, nI_int h1]; rfl⟩
theorem i_nat {x : Int32} (h : 0 ≤ x.toInt) : ∃ t, t < 2147483648 ∧ x = nI t ∧ x.toInt.toNat = t ∧ x.toInt = t := by
  obtain ⟨t, h1, h2⟩ := nI_ex (v := x) h
  exact ⟨t, h1, h2, by rw [h2, nI_int h1]; rfl, by rw [h2, nI_int h1]⟩
section
variable {s : wt_S} {V : vV} {t B : Nat} {Z : (Nat → Int32) → Int32 → Int32 → Int32 → Bool} {D : wt_S → Int32 → Int32 → Option (Int32 × wt_S)}
theorem q_busy (h : RS s V) (ht : t < 6) : gX11_isBusy s (nI t) = some (rb (vby V t = true), s) := by
  rw [q_isBusy (by omega), h.tk (c := 3926) (by omega) ht]
  exact congrArg (fun x => some (x, s)) (rb_iff (by rw [vby_iff]; rfl))
theorem VI.idle (hI : VI 2048 B V) (ht : t < 6) (hb : vby V t = false) : Iid V t := by
  rcases hI.2.2.2.2.2 t ht with ⟨b, -⟩ | b
  · rw [vby_iff.mpr b] at hb
    cases hb
  · exact b
theorem tld_nat {w : Nat → Int32} {f : Int32} (h : tld w f) : ∃ f', f' < 10 ∧ f = nI f' ∧ f.toInt.toNat = f' ∧ 1 ≤ vsz w f' := by
  obtain ⟨h1, h2⟩ := h
  obtain ⟨f', a1, a2, a3, a4⟩ := i_nat (x := f) h1.1
  refine ⟨f', by omega, a2, a3, ?_⟩
  rw [a3] at h2
  unfold vsz
  omega
theorem q_start {x f a mode : Int32} (h : RS s V) (hI : VI 2048 B V) (hB : B < 2147483200) : ∃ s', gX11_start s x f a mode = some ((vstart V x f a mode).1, s') ∧ RS s' (vstart V x f a mode).2 ∧ RF s s' ∧ VI 2048 (B + 3) (vstart V x f a mode).2 := by
  unfold gX11_start
  rw [q_isTask, cl_some, if_rb]
  by_cases c1 : 0 ≤ x.toInt ∧ x.toInt ≤ 5
  · obtain ⟨t, ht, rfl, etn⟩ := i_task c1
    rw [if_pos c1, q_busy h ht, cl_some, if_rbn]
    by_cases c2 : vby V t = true
    · have : vstart V (nI t) f a mode = (0, V) := by unfold vstart; rw [if_neg (fun e => by have := e.2.1; rw [etn, c2] at this; cases this)]
      rw [if_pos c2, this]
      exact ⟨s, rfl, h, RF.refl, hI.mono (by omega)⟩
    · have c2' : vby V t = false := by simpa using c2
      rw [if_neg c2, q_isTold, cl_some, if_rb]
      have htl : tld (s 111) f ↔ tld V.1 f := h.prog.tl
      by_cases c3 : tld V.1 f
      · rw [if_pos (htl.mpr c3), q_isIn, cl_some, if_rbn]
        obtain ⟨f', f1, rfl, f3, f4⟩ := tld_nat c3
        by_cases c4 : mode = 0 ∨ mode = 1
        · have hv : vstart V (nI t) (nI f') a mode = (rb ((vbg 2048 V t f' a mode).1 = true), (vbg 2048 V t f' a mode).2) := by unfold vstart; rw [if_pos ⟨c1, by rw [etn]; exact c2', c3, c4⟩, etn, f3]
          obtain ⟨s', e1, e2, e3⟩ := q_begins (a := a) h hI hB ht (hI.idle ht c2') f1 f4 c4
          rw [if_pos (by rcases c4 with e | e <;> subst e <;> decide), e1, cl_some, rz_rb, hv]
          exact ⟨s', rfl, e2, e3, vi_bg hI (by omega) ht (hI.idle ht c2') f1 f4 c4⟩
        · have hv : vstart V (nI t) (nI f') a mode = (0, V) := by unfold vstart; rw [if_neg (fun e => c4 e.2.2.2)]
          rw [if_neg (fun e => c4 ?_), hv]
          · exact ⟨s, rfl, h, RF.refl, hI.mono (by omega)⟩
          · have e1 : 0 ≤ mode.toInt := e.1
            have e2 : mode.toInt ≤ 1 := e.2
            obtain ⟨m, m1, m2, m3, m4⟩ := i_nat (x := mode) e1
            rw [m2]
            have : m = 0 ∨ m = 1 := by omega
            rcases this with rfl | rfl
            · exact Or.inl rfl
            · exact Or.inr rfl
      · have hv : vstart V (nI t) f a mode = (0, V) := by unfold vstart; rw [if_neg (fun e => c3 e.2.2.1)]
        rw [if_neg (fun e => c3 (htl.mp e)), hv]
        exact ⟨s, rfl, h, RF.refl, hI.mono (by omega)⟩
  · have hv : vstart V x f a mode = (0, V) := by unfold vstart; rw [if_neg (fun e => c1 e.1)]
    rw [if_neg c1, hv]
    exact ⟨s, rfl, h, RF.refl, hI.mono (by omega)⟩
theorem vrun_le : ∀ {n : Nat} {V : vV}, (vrun Z t n V).1 ≤ n := by
  intro n
  induction n with
  | zero => intro V; exact Nat.le_refl _
  | succ n ih =>
    intro V
    unfold vrun
    split
    · exact Nat.succ_le_succ ih
    · exact Nat.zero_le _
theorem q_runs (hD : HD gX11_runsEndless Z) (ht : t < 6) : ∀ (r m fu B : Nat) (s : wt_S) (V : vV), r < fu → m + r < 100000 → RS s V → VI 2048 B V → B + 4 * r < 2147483200 → ∃ s', gX11_runs_2 fu s (nI t) (nI (m + r)) (nI m) = some (nI (m + (vrun Z t r V).1), s') ∧ RS s' (vrun Z t r V).2 ∧ RF s s' ∧ VI 2048 (B + 4 * r) (vrun Z t r V).2 := by
  intro r
  induction r with
  | zero =>
    intro m fu B s V hfu hm h hI hB
    obtain ⟨fu, rfl⟩ : ∃ m, fu = m + 1 := ⟨fu - 1, by omega⟩
    rw [gX11_runs_2, nI_int (by omega), nI_int (by omega), if_pos (by omega)]
    exact ⟨s, rfl, h, RF.refl, hI⟩
  | succ r ih =>
    intro m fu B s V hfu hm h hI hB
    obtain ⟨fu, rfl⟩ : ∃ m, fu = m + 1 := ⟨fu - 1, by omega⟩
    rw [gX11_runs_2, nI_int (by omega), nI_int (by omega), if_neg (by omega), q_busy h ht, cl_some, if_rb]
    unfold vrun
    by_cases c : vby V t = true
    · rw [if_pos c, if_pos c]
      have hb := vby_iff.mp c
      obtain ⟨s1, e1, e2, e3⟩ := q_steps hD h hI ht hb (by omega)
      obtain ⟨s', f1, f2, f3, f4⟩ := ih (m + 1) fu (B + 4) s1 (vst 2048 Z V t) (by omega) (by omega) e2 (vi_st hI ht hb (by omega)) (by omega)
      rw [e1, cl_some, nI_1, show m + (r + 1) = m + 1 + r by omega, f1]
      refine ⟨s', ?_, f2, RF.trans e3 f3, f4.mono (by omega)⟩
      rw [show m + 1 + (vrun Z t r (vst 2048 Z V t)).1 = m + ((vrun Z t r (vst 2048 Z V t)).1 + 1) by omega]
    · rw [if_neg c, if_neg c]
      exact ⟨s, rfl, h, RF.refl, hI.mono (by omega)⟩
theorem q_step {x n : Int32} (hD : HD gX11_runsEndless Z) (h : RS s V) (hI : VI 2048 B V) (hB : B < 2147480000) : ∃ s', gX11_step s x n = some ((vstep Z V x n).1, s') ∧ RS s' (vstep Z V x n).2 ∧ RF s s' ∧ VI 2048 (B + 800) (vstep Z V x n).2 := by
  unfold gX11_step
  rw [q_isTask, cl_some, if_rb]
  by_cases c1 : 0 ≤ x.toInt ∧ x.toInt ≤ 5
  · obtain ⟨t, ht, rfl, etn⟩ := i_task c1
    rw [if_pos c1, q_isIn, cl_some, if_rb]
    by_cases c2 : 1 ≤ n.toInt ∧ n.toInt ≤ 200
    · obtain ⟨m, m1, rfl, m3, m4⟩ := i_nat (x := n) (by omega)
      rw [if_pos (show (1 : Int32).toInt ≤ (nI m).toInt ∧ (nI m).toInt ≤ (200 : Int32).toInt from c2)]
      obtain ⟨s', e1, e2, e3, e4⟩ := q_runs hD ht m 0 wt_N B s V (by unfold wt_N; omega) (by omega) h hI (by omega)
      unfold gX11_runs vstep
      rw [Nat.zero_add] at e1
      rw [show gX11_runs_2 wt_N s (nI t) (nI m) 0 = _ from e1, cl_some, if_pos ⟨c1, c2⟩, etn, m3]
      rw [Nat.zero_add]
      exact ⟨s', rfl, e2, e3, e4.mono (by omega)⟩
    · have hv : vstep Z V (nI t) n = (-1, V) := by unfold vstep; rw [if_neg (fun e => c2 e.2)]
      rw [if_neg (show ¬ ((1 : Int32).toInt ≤ n.toInt ∧ n.toInt ≤ (200 : Int32).toInt) from c2), hv]
      exact ⟨s, rfl, h, RF.refl, hI.mono (by omega)⟩
  · have hv : vstep Z V x n = (-1, V) := by unfold vstep; rw [if_neg (fun e => c1 e.1)]
    rw [if_neg c1, hv]
    exact ⟨s, rfl, h, RF.refl, hI.mono (by omega)⟩
theorem q_round_24 {K : wt_S → Int32 → Int32 → Int32 → Option (Int32 × wt_S)} {l1 l3 : Int32} (hD : HD gX11_runsEndless Z) : ∀ (r t m fu B : Nat) (s : wt_S) (V : vV), r < fu → t + r = 6 → RS s V → VI 2048 B V → B + 4 * r < 2147483200 → ∃ s', gX11_round_24 K fu s l1 (nI m) l3 (nI t) = K s' l1 (nI (vrn6 Z r t m V).1) (l3 + 1) ∧ RS s' (vrn6 Z r t m V).2 ∧ RF s s' ∧ VI 2048 (B + 4 * r) (vrn6 Z r t m V).2 ∧ (vrn6 Z r t m V).1 ≤ m + r := by
  intro r
  induction r with
  | zero =>
    intro t m fu B s V hfu ht h hI hB
    obtain ⟨fu, rfl⟩ : ∃ m, fu = m + 1 := ⟨fu - 1, by omega⟩
    rw [gX11_round_24, nI_int (by omega), if_pos (by show (6 : Int) ≤ _; omega)]
    exact ⟨s, rfl, h, RF.refl, hI, Nat.le_refl _⟩
  | succ r ih =>
    intro t m fu B s V hfu ht h hI hB
    obtain ⟨fu, rfl⟩ : ∃ m, fu = m + 1 := ⟨fu - 1, by omega⟩
    rw [gX11_round_24, nI_int (by omega), if_neg (by show ¬ (6 : Int) ≤ _; omega)]
    obtain ⟨s1, e1, e2, e3, e4⟩ := q_runs (t := t) hD (by omega) 1 0 wt_N B s V (by unfold wt_N; omega) (by omega) h hI (by omega)
    have hle := vrun_le (Z := Z) (t := t) (n := 1) (V := V)
    obtain ⟨s', f1, f2, f3, f4, f5⟩ := ih (t + 1) (m + (vrun Z t 1 V).1) fu (B + 4) s1 (vrun Z t 1 V).2 (by omega) (by omega) e2 e4 (by omega)
    unfold gX11_runs
    rw [show gX11_runs_2 wt_N s (nI t) 1 0 = _ from e1, cl_some, Nat.zero_add, nI_add, nI_1, f1]
    refine ⟨s', rfl, f2, RF.trans e3 f3, f4.mono (by omega), ?_⟩
    show (vrn6 Z r (t + 1) (m + (vrun Z t 1 V).1) (vrun Z t 1 V).2).1 ≤ m + (r + 1)
    omega
theorem q_round_16 (hD : HD gX11_runsEndless Z) : ∀ (r k m fu B : Nat) (s : wt_S) (V : vV), r < fu → k + r ≤ 100 → RS s V → VI 2048 B V → B + 24 * r < 2147483200 → ∃ s', gX11_round_16 fu s (nI (k + r)) (nI m) (nI k) = some (nI (vrnd Z r m V).1, s') ∧ RS s' (vrnd Z r m V).2 ∧ RF s s' ∧ VI 2048 (B + 24 * r) (vrnd Z r m V).2 := by
  intro r
  induction r with
  | zero =>
    intro k m fu B s V hfu hk h hI hB
    obtain ⟨fu, rfl⟩ : ∃ m, fu = m + 1 := ⟨fu - 1, by omega⟩
    rw [gX11_round_16, nI_int (by omega), nI_int (by omega), if_pos (by omega)]
    exact ⟨s, rfl, h, RF.refl, hI⟩
  | succ r ih =>
    intro k m fu B s V hfu hk h hI hB
    obtain ⟨fu, rfl⟩ : ∃ m, fu = m + 1 := ⟨fu - 1, by omega⟩
    rw [gX11_round_16, nI_int (by omega), nI_int (by omega), if_neg (by omega)]
    obtain ⟨s1, e1, e2, e3, e4, e5⟩ := q_round_24 (K := gX11_round_16 fu) (l1 := nI (k + (r + 1))) (l3 := nI k) hD 6 0 m wt_N B s V (by unfold wt_N; omega) (by omega) h hI (by omega)
    obtain ⟨s', f1, f2, f3, f4⟩ := ih (k + 1) (vrn6 Z 6 0 m V).1 fu (B + 24) s1 (vrn6 Z 6 0 m V).2 (by omega) (by omega) e2 (e4.mono (by omega)) (by omega)
    rw [show gX11_round_24 (gX11_round_16 fu) wt_N s (nI (k + (r + 1))) (nI m) (nI k) 0 = _ from e1, nI_1, show k + (r + 1) = k + 1 + r by omega, f1]
    exact ⟨s', rfl, f2, RF.trans e3 f3, f4.mono (by omega)⟩
theorem q_round {n : Int32} (hD : HD gX11_runsEndless Z) (h : RS s V) (hI : VI 2048 B V) (hB : B < 2147480000) : ∃ s', gX11_round s n = some ((vround Z V n).1, s') ∧ RS s' (vround Z V n).2 ∧ RF s s' ∧ VI 2048 (B + 2400) (vround Z V n).2 := by
  unfold gX11_round
  rw [q_isIn, cl_some, if_rbn]
  by_cases c2 : 1 ≤ n.toInt ∧ n.toInt ≤ 100
  · obtain ⟨m, m1, rfl, m3, m4⟩ := i_nat (x := n) (by omega)
    rw [if_pos (show (1 : Int32).toInt ≤ (nI m).toInt ∧ (nI m).toInt ≤ (100 : Int32).toInt from c2)]
    obtain ⟨s', e1, e2, e3, e4⟩ := q_round_16 hD m 0 0 wt_N B s V (by unfold wt_N; omega) (by omega) h hI (by omega)
    unfold vround
    rw [Nat.zero_add] at e1
    rw [show gX11_round_16 wt_N s (nI m) 0 0 = _ from e1, if_pos c2, m3]
    exact ⟨s', rfl, e2, e3, e4.mono (by omega)⟩
  · have hv : vround Z V n = (-1, V) := by unfold vround; rw [if_neg c2]
    rw [if_neg (show ¬ ((1 : Int32).toInt ≤ n.toInt ∧ n.toInt ≤ (100 : Int32).toInt) from c2), hv]
    exact ⟨s, rfl, h, RF.refl, hI.mono (by omega)⟩
theorem q_quiet {x : Int32} (h : RS s V) (hI : VI 2048 B V) (hB : B < 2147483200) : ∃ s', gX11_quiet s x = some ((vquiet V x).1, s') ∧ RS s' (vquiet V x).2 ∧ RF s s' ∧ VI 2048 (B + 1) (vquiet V x).2 := by
  unfold gX11_quiet
  rw [q_isTask, cl_some, if_rb]
  by_cases c1 : 0 ≤ x.toInt ∧ x.toInt ≤ 5
  · obtain ⟨t, ht, rfl, etn⟩ := i_task c1
    rw [if_pos c1, q_busy h ht, cl_some, if_rb]
    by_cases c2 : vby V t = true
    · have hb := vby_iff.mp c2
      have hv : vquiet V (nI t) = (rb ((vqu 2048 V t).1 = true), (vqu 2048 V t).2) := by unfold vquiet; rw [etn, if_pos ⟨c1, c2⟩]
      obtain ⟨np, z, z2, z3, k, l, hP, h0, -, ⟨r1, r2, r3⟩, -, ⟨k1, k2⟩, -, -, -, -⟩ := hI.opn ht hb (by omega)
      obtain ⟨s', f1, f2, f3⟩ := q_quiets (k := k) h hP r1 (by omega) k1 (by omega)
      rw [if_pos c2, f1, cl_some, if_rb, hv]
      refine ⟨s', ?_, f2, f3, vi_qu hI ht hb (by omega)⟩
      by_cases c3 : (vqu 2048 V t).1 = true
      · rw [if_pos c3, rb_pos c3]
      · rw [if_neg c3, rb_neg c3]
    · have hv : vquiet V (nI t) = (0, V) := by unfold vquiet; rw [etn, if_neg (fun e => c2 e.2)]
      rw [if_neg c2, hv]
      exact ⟨s, rfl, h, RF.refl, hI.mono (by omega)⟩
  · have hv : vquiet V x = (0, V) := by unfold vquiet; rw [if_neg (fun e => c1 e.1)]
    rw [if_neg c1, hv]
    exact ⟨s, rfl, h, RF.refl, hI.mono (by omega)⟩
end
