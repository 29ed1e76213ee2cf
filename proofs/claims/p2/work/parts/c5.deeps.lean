/-! ===== the class: how deep the functions are ===== -/
theorem vdp_up {w : Nat → Int32} {f d : Nat} : ∀ {k m : Nat}, vdp w m f = some d → vdp w (m + k) f = some d := by
  intro k
  induction k with
  | zero => intro m h; exact h
  | succ k ih => intro m h; exact vdp_mono (ih h)
theorem vdp_ten {w : Nat → Int32} {f m d : Nat} (hf : f < 10) (h : vdp w m f = some d) : vdp w 10 f = some d := by
  by_cases c : m ≤ 10
  · have := vdp_up (k := 10 - m) h
    rw [show m + (10 - m) = 10 by omega] at this
    exact this
  · cases e : vdp w 10 f with
    | none =>
      have := vEnd_none ((vdp_end hf).mp e) m
      rw [this] at h
      cases h
    | some d' =>
      have := vdp_up (k := m - 10) e
      rw [show 10 + (m - 10) = m by omega] at this
      exact this.symm.trans h
theorem vdl_none {w : Nat → Int32} {D : Nat → Option Nat} {f k : Nat} (h : vdl w D f k = none) : ∀ {m : Nat}, vdl w D f (k + m) = none := by
  intro m
  induction m with
  | zero => exact h
  | succ m ih =>
    show vdl w D f (k + m + 1) = none
    rw [vdl_succ, ih]
    rfl
/-- who is known stays known -/
theorem vdl_imp {w : Nat → Int32} {D E : Nat → Option Nat} {f : Nat} (hE : ∀ g d, g < 10 → 1 ≤ vsz w g → D g = some d → E g = some d) : ∀ {k m : Nat}, vdl w D f k = some m → vdl w E f k = some m := by
  intro k
  induction k with
  | zero => intro m h; exact h
  | succ k ih =>
    intro m h
    rw [vdl_succ] at h ⊢
    cases e : vdl w D f k with
    | none => rw [e] at h; cases h
    | some a =>
      rw [e, Option.bind_some] at h
      rw [ih e, Option.bind_some]
      by_cases c : tld w (vcal w f k)
      · rw [if_pos c] at h ⊢
        obtain ⟨g, g1, g2, g3, g4⟩ := tld_nat c
        rw [g3] at h ⊢
        cases e2 : D g with
        | none => rw [e2] at h; cases h
        | some d =>
          rw [e2] at h
          rw [hE g d g1 g4 e2]
          exact h
      · rw [if_neg c] at h ⊢
        exact h
/-- all of the program but the depths -/
def RPp (q : Nat) (s : wt_S) (w : Nat → Int32) : Prop := (∀ f, f < 10 → s (q + 1) f = w (2228 + f) ∧ s (q + 2) f = w (2238 + f) ∧ s (q + 3) f = w (2248 + f)) ∧ ∀ j, j < 640 → s (q + 4) j = w (2258 + j)
theorem RP.p {q : Nat} {s : wt_S} {w : Nat → Int32} (h : RP q s w) : RPp q s w := ⟨fun f hf => ⟨(h.1 f hf).1, (h.1 f hf).2.1, (h.1 f hf).2.2.1⟩, h.2⟩
section
variable {q : Nat} {s s' : wt_S} {w : Nat → Int32} {f l k : Nat} {D : Nat → Option Nat}
theorem RPp.eq (h : RPp q s w) (he : ∀ c, c ≠ q + 5 → s' c = s c) : RPp q s' w := ⟨fun f hf => by rw [he _ (by omega), he _ (by omega), he _ (by omega)]; exact h.1 f hf, fun j hj => by rw [he _ (by omega)]; exact h.2 j hj⟩
theorem pp_size (h : RPp q s w) (hf : f < 10) : gX6_sizeOf q s (nI f) = some (w (2228 + f), s) := by
  unfold gX6_sizeOf
  rw [if_neg (c_lo (by omega)), if_neg (by rw [nI_int (by omega), ci9]; omega), ix_nI hf (by omega), (h.1 f hf).1]
theorem pp_words (h : RPp q s w) (hp : Ipr w) (hf : f < 10) : gX6_frameWords q s (nI f) = some (nI (vwd w f), s) := by
  unfold gX6_frameWords
  rw [pp_size h hf, cl_some, Int32.add_comm, (hp.wd hf).1]
theorem pp_part (h : RPp q s w) (hp : Ipr w) (hf : f < 10) (hl : l < vli w f) {j : Nat} (hj : j < 4) : gX6_part q s (nI f) (nI l) (nI j) = some (w (vco f l + j), s) := by
  have hli := hp.li hf
  unfold gX6_part
  rw [if_neg (c_lo (by omega)), if_neg (by rw [nI_int (by omega), ci9]; omega), if_neg (c_lo (by omega)), ix_nI hf (by omega), (h.1 f hf).2.2, hli.1, if_pos (by rw [nI_int (by omega), nI_int (by omega)]; omega)]
  rw [show (nI f * 16 + nI l) * 4 + nI j = nI ((f * 16 + l) * 4 + j) by rw [li_mul2, nI_add, li_mul2, nI_add]]
  rw [if_neg (c_lo (by omega)), if_neg (by rw [nI_int (by omega)]; show ¬ (640 : Int) ≤ _; omega), ix_nI (by omega) (by omega), h.2 _ (by omega)]
  unfold vco
  rw [show 2258 + ((f * 16 + l) * 4 + j) = 2258 + 4 * (16 * f + l) + j by omega]
theorem pp_lines (h : RPp q s w) (hf : f < 10) : gX6_linesOf q s (nI f) = some (w (2248 + f), s) := by
  unfold gX6_linesOf
  rw [c_isFunction, cl_some, if_rb, if_pos (by rw [nI_int (by omega)]; omega), ix_nI hf (by omega), (h.1 f hf).2.2]
theorem pp_called (h : RPp q s w) (hp : Ipr w) (hf : f < 10) (hl : l < vli w f) : gX6_calledBy q s (nI f) (nI l) = some (vcal w f l, s) := by
  have p0 := pp_part (j := 0) h hp hf hl (by omega)
  have p1 := pp_part (j := 1) h hp hf hl (by omega)
  have p2 := pp_part (j := 2) h hp hf hl (by omega)
  unfold gX6_calledBy vcal
  rw [show gX6_part q s (nI f) (nI l) 0 = some (w (vco f l), s) from p0, cl_some]
  by_cases c6 : w (vco f l) = 6
  · rw [if_neg (fun e => e c6), if_pos c6, show gX6_part q s (nI f) (nI l) 1 = some (w (vco f l + 1), s) from p1, cl_some]
  · rw [if_pos c6, if_neg c6]
    by_cases c9 : w (vco f l) = 9
    · rw [if_neg (fun e => e c9), if_pos c9, show gX6_part q s (nI f) (nI l) 2 = some (w (vco f l + 2), s) from p2, cl_some]
    · rw [if_pos c9, if_neg c9]
/-- the depths found so far -/
def XD (q : Nat) (s : wt_S) (w : Nat → Int32) (D : Nat → Option Nat) : Prop := (∀ f, f < 10 → s (q + 5) f = if 1 ≤ vsz w f then vdI (D f) else 0) ∧ ∀ f d, f < 10 → D f = some d → d ≤ 100
theorem pp_deep (hX : XD q s w D) {x : Int32} : gX6_deepOf q s x = some (if tld w x then vdI (D x.toInt.toNat) else 0, s) := by
  unfold gX6_deepOf
  rw [c_isFunction, cl_some, if_rb]
  by_cases c : 0 ≤ x.toInt ∧ x.toInt ≤ 9
  · obtain ⟨f, h1, rfl, h3, h4⟩ := i_nat (x := x) c.1
    have hf : f < 10 := by omega
    have htl : tld w (nI f) ↔ 1 ≤ vsz w f := by
      unfold vsz
      constructor
      · intro q
        have := q.2
        rw [h3] at this
        omega
      · intro q
        exact ⟨c, by rw [h3]; omega⟩
    rw [if_pos c, ix_nI hf (by omega), hX.1 f hf]
    by_cases c2 : 1 ≤ vsz w f
    · rw [if_pos c2, if_pos (htl.mpr c2), h3]
    · rw [if_neg c2, if_neg (fun q => c2 (htl.mp q))]
  · rw [if_neg c, if_neg (fun q => c q.1)]
theorem vdI_n {d : Nat} (h : d ≤ 100) : vdI (some d) ≠ -2 := by
  show nI d ≠ -2
  intro e
  have := congrArg Int32.toInt e
  rw [nI_int (by omega)] at this
  have e2 : (-2 : Int32).toInt = -2 := by decide
  omega
theorem c_lines (h : RPp q s w) (hp : Ipr w) (hf : f < 10) (hX : XD q s w D) : ∀ (m k g fu : Nat), k + m = vli w f → m < fu → vdl w D f k = some g → g ≤ 100 → ∃ o : Option Nat, gX6_deepByLines_4 q fu s (nI f) (nI g) (nI k) = some (vdI (o.map (fun d => vwd w f + d)), s) ∧ vdl w D f (vli w f) = o ∧ ∀ d, o = some d → d ≤ 100 := by
  have hli := hp.li hf
  intro m
  induction m with
  | zero =>
    intro k g fu hk hfu hg hg1
    obtain ⟨fu, rfl⟩ : ∃ k, fu = k + 1 := ⟨fu - 1, by omega⟩
    obtain rfl : k = vli w f := by omega
    refine ⟨some g, ?_, hg, fun d e => by cases e; exact hg1⟩
    rw [gX6_deepByLines_4, pp_lines h hf, cl_some, hli.1, if_pos (Int.le_refl _), pp_words h hp hf, cl_some, nI_add]
    rfl
  | succ m ih =>
    intro k g fu hk hfu hg hg1
    obtain ⟨fu, rfl⟩ : ∃ k, fu = k + 1 := ⟨fu - 1, by omega⟩
    rw [gX6_deepByLines_4, pp_lines h hf, cl_some, hli.1, if_neg (by rw [nI_int (by omega), nI_int (by omega)]; omega), pp_called h hp hf (by omega), cl_some, pp_deep hX, cl_some]
    have hs : vdl w D f (k + 1) = if tld w (vcal w f k) then (D (vcal w f k).toInt.toNat).map (fun d => max g d) else some g := by rw [vdl_succ, hg, Option.bind_some]
    by_cases c : tld w (vcal w f k)
    · obtain ⟨x, g1, g2, g3, g4⟩ := tld_nat c
      rw [if_pos c, g3] at hs ⊢
      cases e : D x with
      | none =>
        rw [e] at hs
        refine ⟨none, ?_, ?_, fun d e => by cases e⟩
        · rw [if_neg (fun q => q rfl)]
          rfl
        · have := vdl_none (m := vli w f - (k + 1)) hs
          rw [show k + 1 + (vli w f - (k + 1)) = vli w f by omega] at this
          exact this
      | some d =>
        have hd := hX.2 x d g1 e
        rw [e] at hs
        rw [if_pos (vdI_n hd), show vdI (some d) = nI d from rfl, c_max (by omega) (by omega), cl_some, show nI k + 1 = nI (k + 1) from nI_add k 1]
        exact ih (k + 1) (max d g) fu (by omega) (by omega) (by rw [hs, Nat.max_comm]; rfl) (by omega)
    · rw [if_neg c] at hs ⊢
      rw [if_pos (by decide), show (0 : Int32) = nI 0 from rfl, c_max (by omega) (by omega), cl_some, show nI k + 1 = nI (k + 1) from nI_add k 1, Nat.zero_max]
      exact ih (k + 1) g fu (by omega) (by omega) hs hg1
/-- what is found is right; what can be found in so many rounds is found -/
def DS (w : Nat → Int32) (D : Nat → Option Nat) : Prop := ∀ f d, f < 10 → D f = some d → vdp w 10 f = some d
def DP (w : Nat → Int32) (D : Nat → Option Nat) (r f : Nat) : Prop := 1 ≤ vsz w f → ∀ d, vdp w r f = some d → D f = some d
theorem c_fd45 {K : wt_S → Int32 → Option (Unit × wt_S)} {l1 : Int32} {r : Nat} (hp : Ipr w) : ∀ (m k fu : Nat) (s : wt_S) (D : Nat → Option Nat), k + m = 10 → m < fu → RPp q s w → XD q s w D → DS w D → (∀ f, f < 10 → DP w D r f) → (∀ f, f < k → DP w D (r + 1) f) →
    ∃ s' D', gX6_findDeeps_45 q K fu s l1 (nI k) = K s' (l1 + 1) ∧ (∀ c, c ≠ q + 5 → s' c = s c) ∧ XD q s' w D' ∧ DS w D' ∧ ∀ f, f < 10 → DP w D' (r + 1) f := by
  intro m
  induction m with
  | zero =>
    intro k fu s D hk hfu h hX hS h1 h2
    obtain ⟨fu, rfl⟩ : ∃ k, fu = k + 1 := ⟨fu - 1, by omega⟩
    refine ⟨s, D, ?_, fun _ _ => rfl, hX, hS, fun f hf => h2 f (by omega)⟩
    rw [gX6_findDeeps_45, if_pos (by rw [nI_int (by omega)]; show (10 : Int) ≤ _; omega)]
  | succ m ih =>
    intro k fu s D hk hfu h hX hS h1 h2
    obtain ⟨fu, rfl⟩ : ∃ k, fu = k + 1 := ⟨fu - 1, by omega⟩
    have hk10 : k < 10 := by omega
    rw [gX6_findDeeps_45, if_neg (by rw [nI_int (by omega)]; show ¬ (10 : Int) ≤ _; omega), ix_nI hk10 (by omega), hX.1 k hk10, show nI k + 1 = nI (k + 1) from nI_add k 1]
    have skip : (1 ≤ vsz w k → ∃ d, D k = some d) → ∃ s' D', gX6_findDeeps_45 q K fu s l1 (nI (k + 1)) = K s' (l1 + 1) ∧ (∀ c, c ≠ q + 5 → s' c = s c) ∧ XD q s' w D' ∧ DS w D' ∧ ∀ f, f < 10 → DP w D' (r + 1) f := fun hq => by
      refine ih (k + 1) fu s D (by omega) (by omega) h hX hS h1 (fun f hf => ?_)
      by_cases c : f = k
      · subst c
        intro hs d hd
        obtain ⟨d', e⟩ := hq hs
        have a1 := vdp_ten hk10 hd
        have a2 := hS f d' hk10 e
        rw [a1] at a2
        rw [e, ← a2]
      · exact h2 f (by omega)
    by_cases c1 : 1 ≤ vsz w k
    · rw [if_pos c1]
      cases e : D k with
      | some d =>
        rw [if_pos (vdI_n (hX.2 k d hk10 e))]
        exact skip (fun _ => ⟨d, e⟩)
      | none =>
        rw [if_neg (fun q => q rfl)]
        obtain ⟨o, a1, a2, a3⟩ := c_lines h hp hk10 hX (vli w k) 0 0 wt_N (by omega) (by unfold wt_N; have := (hp.li hk10).2; omega) rfl (by omega)
        unfold gX6_deepByLines
        rw [show gX6_deepByLines_4 q wt_N s (nI k) 0 0 = _ from a1, cl_some, ix_nI hk10 (by omega), wr_eq]
        have hwd := (hp.wd hk10).2
        have key : ∀ d, o.map (fun d => vwd w k + d) = some d → vdp w 10 k = some d := fun d hd => by
          cases o with
          | none => cases hd
          | some m0 =>
            have hv := vdl_imp (E := vdp w 10) (fun g d g1 g2 g3 => hS g d g1 g3) a2
            have h11 : vdp w (10 + 1) k = some d := by rw [vdp_succ, hv]; exact hd
            exact vdp_ten hk10 h11
        have hle : ∀ d, o.map (fun d => vwd w k + d) = some d → d ≤ 100 := fun d hd => (vdp_le hp hk10 (key d hd)).2
        obtain ⟨D2, e5, e6⟩ : ∃ D2 : Nat → Option Nat, D2 k = o.map (fun d => vwd w k + d) ∧ ∀ f, f ≠ k → D2 f = D f := ⟨fun f => if f = k then o.map (fun d => vwd w k + d) else D f, if_pos rfl, fun f c => if_neg c⟩
        have hold : ∀ g d, D g = some d → D2 g = some d := fun g d hd => by
          by_cases c : g = k
          · subst c; rw [e] at hd; cases hd
          · rw [e6 g c]; exact hd
        have hX2 : XD q (wt_u s (q + 5) k (vdI (o.map (fun d => vwd w k + d)))) w D2 := ⟨fun f hf => by
          by_cases c : f = k
          · subst c
            rw [wt_u_self, if_pos c1, e5]
          · rw [wt_u_nk c, hX.1 f hf, e6 f c], fun f d hf hd => by
          by_cases c : f = k
          · subst c
            rw [e5] at hd
            exact hle d hd
          · rw [e6 f c] at hd
            exact hX.2 f d hf hd⟩
        have hS2 : DS w D2 := fun f d hf hd => by
          by_cases c : f = k
          · subst c
            rw [e5] at hd
            exact key d hd
          · rw [e6 f c] at hd
            exact hS f d hf hd
        have h22 : ∀ f, f < k + 1 → DP w D2 (r + 1) f := fun f hf => by
          by_cases c : f = k
          · subst c
            intro hs d hd
            rw [e5]
            rw [vdp_succ] at hd
            cases e3 : vdl w (vdp w r) f (vli w f) with
            | none => rw [e3] at hd; cases hd
            | some m0 =>
              rw [e3] at hd
              have := vdl_imp (E := D) (fun g d g1 g2 g3 => h1 g g1 g2 d g3) e3
              rw [a2] at this
              rw [this]
              exact hd
          · intro hs d hd
            exact hold f d (h2 f (by omega) hs d hd)
        obtain ⟨s', D', b1, b2, b3⟩ := ih (k + 1) fu _ D2 (by omega) (by omega) (h.eq (fun c hc => wt_u_ne hc)) hX2 hS2 (fun f hf hs d hd => hold f d (h1 f hf hs d hd)) h22
        exact ⟨s', D', b1, fun c hc => by rw [b2 c hc, wt_u_ne hc], b3⟩
    · rw [if_neg c1, if_pos (by decide)]
      exact skip (fun hq => absurd hq c1)
theorem c_fd37 (hp : Ipr w) : ∀ (m r fu : Nat) (s : wt_S) (D : Nat → Option Nat), r + m = 10 → m < fu → RPp q s w → XD q s w D → DS w D → (∀ f, f < 10 → DP w D r f) → ∃ s', gX6_findDeeps_37 q fu s (nI r) = some ((), s') ∧ (∀ c, c ≠ q + 5 → s' c = s c) ∧ RP q s' w := by
  intro m
  induction m with
  | zero =>
    intro r fu s D hr hfu h hX hS h1
    obtain ⟨fu, rfl⟩ : ∃ k, fu = k + 1 := ⟨fu - 1, by omega⟩
    have hr10 : r = 10 := by omega
    subst hr10
    refine ⟨s, ?_, fun _ _ => rfl, fun f hf => ⟨(h.1 f hf).1, (h.1 f hf).2.1, (h.1 f hf).2.2, ?_⟩, h.2⟩
    · rw [gX6_findDeeps_37, if_pos (by rw [nI_int (by omega)]; show (10 : Int) ≤ _; omega)]
    · rw [hX.1 f hf]
      by_cases c : 1 ≤ vsz w f
      · rw [if_pos c, if_pos c]
        cases e : vdp w 10 f with
        | some d => rw [h1 f hf c d e]
        | none =>
          cases e2 : D f with
          | none => rfl
          | some d =>
            have := hS f d hf e2
            rw [e] at this
            cases this
      · rw [if_neg c, if_neg c]
  | succ m ih =>
    intro r fu s D hr hfu h hX hS h1
    obtain ⟨fu, rfl⟩ : ∃ k, fu = k + 1 := ⟨fu - 1, by omega⟩
    rw [gX6_findDeeps_37, if_neg (by rw [nI_int (by omega)]; show ¬ (10 : Int) ≤ _; omega)]
    obtain ⟨s1, D1, a1, a2, a3, a4, a5⟩ := c_fd45 (K := gX6_findDeeps_37 q fu) (l1 := nI r) (r := r) hp 10 0 wt_N s D (by omega) (by unfold wt_N; omega) h hX hS h1 (fun f hf => by omega)
    rw [show gX6_findDeeps_45 q (gX6_findDeeps_37 q fu) wt_N s (nI r) 0 = _ from a1, show nI r + 1 = nI (r + 1) from nI_add r 1]
    obtain ⟨s', b1, b2, b3⟩ := ih (r + 1) fu s1 D1 (by omega) (by omega) (h.eq a2) a3 a4 a5
    exact ⟨s', b1, fun c hc => (b2 c hc).trans (a2 c hc), b3⟩
theorem c_deeps (h : RPp q s w) (hp : Ipr w) : ∃ s', gX6_findDeeps q s = some ((), s') ∧ (∀ c, c ≠ q + 5 → s' c = s c) ∧ RP q s' w := by
  have loop : ∀ (m k fu : Nat) (s : wt_S), k + m = 10 → m < fu → RPp q s w → (∀ f, f < k → s (q + 5) f = if 1 ≤ vsz w f then -2 else 0) → ∃ s', gX6_findDeeps_2 q fu s (nI k) = some ((), s') ∧ (∀ c, c ≠ q + 5 → s' c = s c) ∧ RP q s' w := by
    intro m
    induction m with
    | zero =>
      intro k fu s hk hfu h h1
      obtain ⟨fu, rfl⟩ : ∃ k, fu = k + 1 := ⟨fu - 1, by omega⟩
      rw [gX6_findDeeps_2, if_pos (by rw [nI_int (by omega)]; show (10 : Int) ≤ _; omega)]
      exact c_fd37 hp 10 0 wt_N s (fun _ => none) (by omega) (by unfold wt_N; omega) h ⟨fun f hf => by rw [h1 f (by omega)]; rfl, fun f d _ e => by cases e⟩ (fun f d _ e => by cases e) (fun f hf hs d hd => by rw [vdp] at hd; cases hd)
    | succ m ih =>
      intro k fu s hk hfu h h1
      obtain ⟨fu, rfl⟩ : ∃ k, fu = k + 1 := ⟨fu - 1, by omega⟩
      have hk10 : k < 10 := by omega
      have hz := hp.sz hk10
      rw [gX6_findDeeps_2, if_neg (by rw [nI_int (by omega)]; show ¬ (10 : Int) ≤ _; omega), ix_nI hk10 (by omega), (h.1 k hk10).1, hz.1]
      have go : ∀ v : Int32, v = (if 1 ≤ vsz w k then -2 else 0) → ∃ s', gX6_findDeeps_28 q (gX6_findDeeps_2 q fu) s (nI k) (nI k) v = some ((), s') ∧ (∀ c, c ≠ q + 5 → s' c = s c) ∧ RP q s' w := fun v hv => by
        unfold gX6_findDeeps_28
        rw [ix_nI hk10 (by omega), wr_eq, show nI k + 1 = nI (k + 1) from nI_add k 1]
        obtain ⟨s', b1, b2, b3⟩ := ih (k + 1) fu (wt_u s (q + 5) k v) (by omega) (by omega) (h.eq (fun c hc => wt_u_ne hc)) (fun f hf => by
          by_cases c : f = k
          · subst c
            rw [wt_u_self]; exact hv
          · rw [wt_u_nk c]
            exact h1 f (by omega))
        exact ⟨s', b1, fun c hc => by rw [b2 c hc, wt_u_ne hc], b3⟩
      by_cases c : 1 ≤ vsz w k
      · rw [if_neg (by rw [nI_int (by omega), ci0]; omega)]
        exact go (-2) (by rw [if_pos c])
      · rw [if_pos (by rw [nI_int (by omega), ci0]; omega)]
        exact go 0 (by rw [if_neg c])
  exact loop 10 0 wt_N s (by omega) (by unfold wt_N; omega) h (fun f hf => by omega)
end
