/-! ===== the class: a line is told ===== -/
section
variable {q : Nat} {s s' : wt_S} {w : Nat → Int32} {f : Nat}
theorem if_rg {x lo hi : Int32} : (if x.toInt < lo.toInt then some ((0 : Int32), s) else if hi.toInt < x.toInt then some (0, s) else some (1, s)) = some (rb (decide (lo.toInt ≤ x.toInt ∧ x.toInt ≤ hi.toInt) = true), s) := by
  by_cases c1 : x.toInt < lo.toInt
  · rw [if_pos c1, rb_neg (by simp; omega)]
  · rw [if_neg c1]
    by_cases c2 : hi.toInt < x.toInt
    · rw [if_pos c2, rb_neg (by simp; omega)]
    · rw [if_neg c2, rb_pos (by simp; omega)]
theorem if_rh {x : Int32} : (if x.toInt < (0 : Int32).toInt then some ((0 : Int32), s) else if (16 : Int32).toInt ≤ x.toInt then some (0, s) else some (1, s)) = some (rb (decide (0 ≤ x.toInt ∧ x.toInt ≤ 15) = true), s) := by
  have c0 : (0 : Int32).toInt = 0 := by decide
  have c16 : (16 : Int32).toInt = 16 := by decide
  rw [c0, c16]
  by_cases c1 : x.toInt < 0
  · rw [if_pos c1, rb_neg (by simp; omega)]
  · rw [if_neg c1]
    by_cases c2 : 16 ≤ x.toInt
    · rw [if_pos c2, rb_neg (by simp; omega)]
    · rw [if_neg c2, rb_pos (by simp; omega)]
theorem if_ri {x : Int32} {p : Bool} {X : Option (Int32 × wt_S)} (hX : X = some (rb (p = true), s)) : (if x.toInt < (1 : Int32).toInt then some ((0 : Int32), s) else if (40 : Int32).toInt < x.toInt then some (0, s) else X) = some (rb ((decide (1 ≤ x.toInt ∧ x.toInt ≤ 40) && p) = true), s) := by
  have c0 : (1 : Int32).toInt = 1 := by decide
  have c16 : (40 : Int32).toInt = 40 := by decide
  rw [c0, c16, hX]
  by_cases c1 : x.toInt < 1
  · rw [if_pos c1, rb_neg (by simp; omega)]
  · rw [if_neg c1]
    by_cases c2 : 40 < x.toInt
    · rw [if_pos c2, rb_neg (by simp; omega)]
    · rw [if_neg c2]
      have e : decide (1 ≤ x.toInt ∧ x.toInt ≤ 40) = true := by simp; omega
      rw [e, Bool.true_and]
theorem c_hasSlot (h : RP q s w) (hp : Ipr w) (hf : f < 10) {x : Int32} : gX6_hasSlot q s (nI f) x = some (rb (v2s w f x), s) := by
  have hz := hp.sz hf
  have e1 : (w (2228 + f) - 1).toInt = (vsz w f : Int) - 1 := by
    rw [hz.1]
    exact sub1_int (by omega)
  unfold gX6_hasSlot
  by_cases c1 : x.toInt < (0 : Int32).toInt
  · rw [if_pos c1, rb_neg (fun e => by have := e.1; rw [ci0] at c1; omega)]
  · rw [if_neg c1, c_sizeOf h hf, cl_some]
    rw [ci0] at c1
    have e0 : (w (2228 + f)).toInt = vsz w f := by rw [hz.1, nI_int (by omega)]
    by_cases c2 : (w (2228 + f)).toInt ≤ x.toInt
    · rw [if_pos c2, rb_neg (fun e => by have := e.2; omega)]
    · rw [if_neg c2, rb_pos ⟨by omega, by omega⟩]
theorem c_hasNumber (h : RP q s w) (hp : Ipr w) (hf : f < 10) {x : Int32} : gX6_hasNumber q s (nI f) x = some (rb (v2n w f x), s) := by
  unfold gX6_hasNumber
  rw [c_hasSlot h hp hf, cl_some, if_rb]
  by_cases c : v2s w f x
  · obtain ⟨k, k1, rfl, k3, k4⟩ := i_nat (x := x) c.1
    rw [if_pos c, c_isPointer h hf, cl_some, if_rbn]
    by_cases c2 : bt (w (2238 + f)) k
    · rw [if_pos c2, rb_neg (fun e => e.2 (by rw [k3]; exact c2))]
    · rw [if_neg c2, rb_pos ⟨c, by rw [k3]; exact c2⟩]
  · rw [if_neg c, rb_neg (fun e => c e.1)]
theorem c_hasPointer (h : RP q s w) (hp : Ipr w) (hf : f < 10) {x : Int32} : gX6_hasPointer q s (nI f) x = some (rb (v2p w f x), s) := by
  unfold gX6_hasPointer
  rw [c_hasSlot h hp hf, cl_some, if_rb]
  by_cases c : v2s w f x
  · obtain ⟨k, k1, rfl, k3, k4⟩ := i_nat (x := x) c.1
    rw [if_pos c, c_isPointer h hf, cl_some, if_rb]
    by_cases c2 : bt (w (2238 + f)) k
    · rw [if_pos c2, rb_pos ⟨c, by rw [k3]; exact c2⟩]
    · rw [if_neg c2, rb_neg (fun e => c2 (by have := e.2; rw [k3] at this; exact this))]
  · rw [if_neg c, rb_neg (fun e => c e.1)]
theorem c_allows (h : RP q s w) (hp : Ipr w) (hf : f < 10) {kind a b c : Int32} : gX6_allows q s (nI f) kind a b c = some (rb (vc2 w f kind a b c = true), s) := by
  unfold gX6_allows
  by_cases c0 : kind.toInt < 0 ∨ 9 < kind.toInt
  · rw [if_pos c0]
    have hk : ∀ x : Int32, 0 ≤ x.toInt → x.toInt ≤ 9 → kind ≠ x := fun x h1 h2 e => by subst e; omega
    have e : vc2 w f kind a b c = decide (kind = 10) := by
      unfold vc2
      rw [if_neg (hk 0 (by decide) (by decide)), if_neg (fun e => e.elim (hk 1 (by decide) (by decide)) (hk 2 (by decide) (by decide))), if_neg (hk 3 (by decide) (by decide)), if_neg (hk 4 (by decide) (by decide)), if_neg (hk 5 (by decide) (by decide)), if_neg (hk 6 (by decide) (by decide)), if_neg (hk 7 (by decide) (by decide)), if_neg (hk 8 (by decide) (by decide)), if_neg (hk 9 (by decide) (by decide))]
    rw [e]
    by_cases c1 : kind = 10
    · rw [if_neg (by simp [c1]), rb_pos (by simp [c1])]
    · rw [if_pos c1, rb_neg (by simp [c1])]
  · rw [if_neg c0]
    have e289 : gX6_allows_289 q s (nI f) c = some (rb (decide (v2n w f c) = true), s) := by
      unfold gX6_allows_289
      rw [c_hasNumber h hp hf, cl_some, if_rb, if1]
    rcases i10 (x := kind) (by omega) with rfl | rfl | rfl | rfl | rfl | rfl | rfl | rfl | rfl | rfl
    · rw [if_pos (show (0 : Int32).toInt = 0 by decide), c_hasNumber h hp hf, cl_some, if_rb, if_rg, if2]
      rfl
    · rw [if_neg (show ¬ (1 : Int32).toInt = 0 by decide), if_pos (show (1 : Int32).toInt = 1 by decide), c_hasNumber h hp hf, cl_some, if_rb, c_hasNumber h hp hf, cl_some, if_rb, c_hasNumber h hp hf, cl_some, if_rb, if1, if2, if2]
      rfl
    · rw [if_neg (show ¬ (2 : Int32).toInt = 0 by decide), if_neg (show ¬ (2 : Int32).toInt = 1 by decide), if_pos (show (2 : Int32).toInt = 2 by decide), c_hasNumber h hp hf, cl_some, if_rb, c_hasNumber h hp hf, cl_some, if_rb, c_hasNumber h hp hf, cl_some, if_rb, if1, if2, if2]
      rfl
    · rw [if_neg (show ¬ (3 : Int32).toInt = 0 by decide), if_neg (show ¬ (3 : Int32).toInt = 1 by decide), if_neg (show ¬ (3 : Int32).toInt = 2 by decide), if_pos (show (3 : Int32).toInt = 3 by decide), c_hasPointer h hp hf, cl_some, if_rb, c_hasNumber h hp hf, cl_some, if_rb, if1, if2]
      rfl
    · rw [if_neg (show ¬ (4 : Int32).toInt = 0 by decide), if_neg (show ¬ (4 : Int32).toInt = 1 by decide), if_neg (show ¬ (4 : Int32).toInt = 2 by decide), if_neg (show ¬ (4 : Int32).toInt = 3 by decide), if_pos (show (4 : Int32).toInt = 4 by decide), c_hasNumber h hp hf, cl_some, if_rb, c_hasPointer h hp hf, cl_some, if_rb, if1, if2]
      rfl
    · rw [if_neg (show ¬ (5 : Int32).toInt = 0 by decide), if_neg (show ¬ (5 : Int32).toInt = 1 by decide), if_neg (show ¬ (5 : Int32).toInt = 2 by decide), if_neg (show ¬ (5 : Int32).toInt = 3 by decide), if_neg (show ¬ (5 : Int32).toInt = 4 by decide), if_pos (show (5 : Int32).toInt = 5 by decide), c_hasPointer h hp hf, cl_some, if_rb, c_hasNumber h hp hf, cl_some, if_rb, if1, if2]
      rfl
    · rw [if_neg (show ¬ (6 : Int32).toInt = 0 by decide), if_neg (show ¬ (6 : Int32).toInt = 1 by decide), if_neg (show ¬ (6 : Int32).toInt = 2 by decide), if_neg (show ¬ (6 : Int32).toInt = 3 by decide), if_neg (show ¬ (6 : Int32).toInt = 4 by decide), if_neg (show ¬ (6 : Int32).toInt = 5 by decide), if_pos (show (6 : Int32).toInt = 6 by decide), c_isFunction, cl_some, if_rb, c_hasSlot h hp hf, cl_some, if_rb, c_hasNumber h hp hf, cl_some, if_rb, if1, if2, if2]
      rfl
    · rw [if_neg (show ¬ (7 : Int32).toInt = 0 by decide), if_neg (show ¬ (7 : Int32).toInt = 1 by decide), if_neg (show ¬ (7 : Int32).toInt = 2 by decide), if_neg (show ¬ (7 : Int32).toInt = 3 by decide), if_neg (show ¬ (7 : Int32).toInt = 4 by decide), if_neg (show ¬ (7 : Int32).toInt = 5 by decide), if_neg (show ¬ (7 : Int32).toInt = 6 by decide), if_pos (show (7 : Int32).toInt = 7 by decide), c_hasNumber h hp hf, cl_some, if_rb, if_rh, if2]
      rfl
    · rw [if_neg (show ¬ (8 : Int32).toInt = 0 by decide), if_neg (show ¬ (8 : Int32).toInt = 1 by decide), if_neg (show ¬ (8 : Int32).toInt = 2 by decide), if_neg (show ¬ (8 : Int32).toInt = 3 by decide), if_neg (show ¬ (8 : Int32).toInt = 4 by decide), if_neg (show ¬ (8 : Int32).toInt = 5 by decide), if_neg (show ¬ (8 : Int32).toInt = 6 by decide), if_neg (show ¬ (8 : Int32).toInt = 7 by decide), if_pos (show (8 : Int32).toInt = 8 by decide), c_hasNumber h hp hf, cl_some, rz_rb]
      have e : vc2 w f 8 a b c = decide (v2n w f a) := rfl
      rw [e]
      exact congrArg (fun x => some (x, s)) (rb_iff decide_eq_true_iff.symm)
    · rw [if_neg (show ¬ (9 : Int32).toInt = 0 by decide), if_neg (show ¬ (9 : Int32).toInt = 1 by decide), if_neg (show ¬ (9 : Int32).toInt = 2 by decide), if_neg (show ¬ (9 : Int32).toInt = 3 by decide), if_neg (show ¬ (9 : Int32).toInt = 4 by decide), if_neg (show ¬ (9 : Int32).toInt = 5 by decide), if_neg (show ¬ (9 : Int32).toInt = 6 by decide), if_neg (show ¬ (9 : Int32).toInt = 7 by decide), if_neg (show ¬ (9 : Int32).toInt = 8 by decide), if_pos (show (9 : Int32).toInt = 9 by decide), e289, c_isFunction, cl_some, if_rb, e289, if2]
      refine (if_ri (p := decide (b = -1 ∨ v2f b) && decide (v2n w f c)) ?_).trans rfl
      by_cases cb : b = -1
      · rw [if_pos cb]
        exact congrArg (fun x => some (x, s)) (rb_iff (by simp [cb]))
      · rw [if_neg cb]
        exact congrArg (fun x => some (x, s)) (rb_iff (by simp [cb]))
end
/-- a line that calls nobody changes no depth -/
theorem vl5_dp {V : vV} {f l : Nat} {kind a b c : Int32} (hp : Ipr V.1) (hf : f < 10) (hl : vli V.1 f = l) (hl16 : l < 16) (k6 : kind ≠ 6) (k9 : kind ≠ 9) : ∀ m g, g < 10 → vdp (vl5 V f l kind a b c).1 m g = vdp V.1 m g := by
  obtain ⟨t0, t1, t2, t3, t4⟩ := vl5_at (V := V) (f := f) (l := l) (kind := kind) (a := a) (b := b) (c := c) hf
  have hcal : ∀ g k, g < 10 → k < 16 → ¬ (g = f ∧ k = l) → vcal (vl5 V f l kind a b c).1 g k = vcal V.1 g k := fun g k hg hk hne => by
    unfold vcal
    rw [vl5_ne (by unfold vco; omega) (by unfold vco; omega), vl5_ne (by unfold vco; omega) (by unfold vco; omega), vl5_ne (by unfold vco; omega) (by unfold vco; omega)]
  have htl : ∀ x, tld (vl5 V f l kind a b c).1 x ↔ tld V.1 x := fun x => by
    constructor
    · intro q
      refine ⟨q.1, ?_⟩
      have := q.2
      rw [vl5_ne (by unfold vco; have := q.1; omega) (by have := q.1; omega)] at this
      exact this
    · intro q
      refine ⟨q.1, ?_⟩
      rw [vl5_ne (by unfold vco; have := q.1; omega) (by have := q.1; omega)]
      exact q.2
  intro m
  induction m with
  | zero => intro g hg; rw [vdp, vdp]
  | succ m ih =>
    intro g hg
    have hw : vwd (vl5 V f l kind a b c).1 g = vwd V.1 g := by unfold vwd vsz; rw [vl5_ne (by unfold vco; omega) (by omega)]
    have hlg := (hp.li hg).2
    have hdl : ∀ k, k ≤ vli V.1 g → vdl (vl5 V f l kind a b c).1 (vdp (vl5 V f l kind a b c).1 m) g k = vdl V.1 (vdp V.1 m) g k := by
      intro k
      induction k with
      | zero => intro _; rw [vdl, vdl]
      | succ k ihk =>
        intro hk
        rw [vdl_succ, vdl_succ, ihk (by omega), hcal g k hg (by omega) (fun e => by rw [e.1, hl] at hk; omega)]
        congr 1
        funext d
        by_cases ct : tld V.1 (vcal V.1 g k)
        · rw [if_pos ct, if_pos ((htl _).mpr ct), ih _ (by have := ct.1; omega)]
        · rw [if_neg ct, if_neg (fun q => ct ((htl _).mp q))]
    rw [vdp_succ, vdp_succ, hw]
    congr 1
    by_cases e : g = f
    · subst e
      rw [vli_of t4 (by omega), vdl_succ]
      have := hdl l (by omega)
      rw [this, hl]
      have hno : ¬ tld (vl5 V g l kind a b c).1 (vcal (vl5 V g l kind a b c).1 g l) := fun q => by
        have hc : vcal (vl5 V g l kind a b c).1 g l = -1 := by
          unfold vcal
          rw [t0, if_neg k6, if_neg k9]
        rw [hc] at q
        exact absurd q.1.1 (by decide)
      cases vdl V.1 (vdp V.1 m) g l with
      | none => rfl
      | some d =>
        rw [Option.bind_some, if_neg hno]
    · have : vli (vl5 V f l kind a b c).1 g = vli V.1 g := by unfold vli; rw [vl5_ne (by unfold vco; omega) (by omega)]
      rw [this]
      exact hdl _ (Nat.le_refl _)
section
variable {B : Nat} {s s' : wt_S} {V V' : vV} {f : Nat}
theorem c_lineop {x kind a b c : Int32} (h : NW B s V) (hI' : VI 2048 B (vline V x kind a b c).2) : ∃ s', gX10_line s x kind a b c = some ((vline V x kind a b c).1, s') ∧ NW B s' (vline V x kind a b c).2 ∧ ∀ c, (c < 6 ∨ 10 < c) → s' c = s c := by
  have h' := h
  obtain ⟨⟨zs, fr, hR⟩, hI, hW, hK, hT⟩ := h'
  unfold gX10_line
  rw [c_busy hR, cl_some, if_rbn]
  by_cases c3 : vab V 6 0 = true
  · have hv : vline V x kind a b c = (-1, V) := by unfold vline; rw [if_neg (fun e => by have := e.2.1; rw [c3] at this; cases this)]
    rw [if_pos c3, hv]
    exact ⟨s, rfl, h, fun _ _ => rfl⟩
  have c3' : vab V 6 0 = false := by simpa using c3
  rw [if_neg c3, c_told hR.2.2.2.2.2, cl_some, if_rb]
  by_cases c1 : tld V.1 x
  · obtain ⟨f, f10, rfl, f3, f4⟩ := tld_nat c1
    rw [if_pos c1, c_allows hR.2.2.2.2.2 hI.2.1 f10, cl_some, if_rbn]
    obtain ⟨l1, l2⟩ := hI.2.1.li f10
    by_cases c6 : vc2 V.1 f kind a b c = true
    · rw [if_pos c6]
      unfold gX6_append
      have hR0 := hR.2.2.2.2.2.p
      rw [pp_lines hR0 f10, cl_some, c_isFunction, cl_some, if_rb, if_pos (by rw [nI_int (by omega)]; omega), l1]
      by_cases c5 : vli V.1 f = 16
      · have hv : vline V (nI f) kind a b c = (-1, V) := by unfold vline; rw [if_neg (fun e => e.2.2.1 (by rw [f3, l1, c5]; rfl))]
        rw [hv, if_neg (by rw [c5]; decide), cl_some]
        exact ⟨s, rfl, h, fun _ _ => rfl⟩
      · have hl16 : vli V.1 f < 16 := by omega
        have hv : vline V (nI f) kind a b c = (nI (vli V.1 f), vl5 V f (vli V.1 f) kind a b c) := by
          unfold vline
          rw [if_pos ⟨c1, c3', by rw [f3, l1]; exact fun e => c5 ((nI_inj (by omega) (by omega)).mp (e.trans (show (16 : Int32) = nI 16 from rfl))), by rw [f3]; exact c6⟩, f3]
        rw [hv] at hI' ⊢
        obtain ⟨t0, t1, t2, t3, t4⟩ := vl5_at (V := V) (f := f) (l := vli V.1 f) (kind := kind) (a := a) (b := b) (c := c) f10
        generalize hL : vli V.1 f = l at *
        have e4 : ∀ j, (nI f * 16 + nI l) * 4 + nI j = nI ((f * 16 + l) * 4 + j) := fun j => by rw [li_mul2, nI_add, li_mul2, nI_add]
        have i0 : (nI f * 16 + nI l) * 4 + 0 = nI ((f * 16 + l) * 4 + 0) := e4 0
        have i1 : (nI f * 16 + nI l) * 4 + 1 = nI ((f * 16 + l) * 4 + 1) := e4 1
        have i2 : (nI f * 16 + nI l) * 4 + 2 = nI ((f * 16 + l) * 4 + 2) := e4 2
        have i3 : (nI f * 16 + nI l) * 4 + 3 = nI ((f * 16 + l) * 4 + 3) := e4 3
        rw [if_pos (by rw [nI_int (by omega)]; show (l : Int) < 16; omega), i0, ix_nI (by omega) (by omega), wr_eq, i1, ix_nI (by omega) (by omega), wr_eq, i2, ix_nI (by omega) (by omega), wr_eq, i3, ix_nI (by omega) (by omega), wr_eq, ix_nI f10 (by omega), wr_eq, show nI l + 1 = nI (l + 1) from nI_add l 1]
        generalize hS : wt_u (wt_u (wt_u (wt_u (wt_u s (5 + 4) ((f * 16 + l) * 4 + 0) kind) (5 + 4) ((f * 16 + l) * 4 + 1) a) (5 + 4) ((f * 16 + l) * 4 + 2) b) (5 + 4) ((f * 16 + l) * 4 + 3) c) (5 + 3) f (nI (l + 1)) = s3
        have f3' : ∀ d, d ≠ 8 → d ≠ 9 → s3 d = s d := fun d d1 d2 => by rw [← hS, wt_u_ne d1, wt_u_ne d2, wt_u_ne d2, wt_u_ne d2, wt_u_ne d2]
        have hne : ∀ i, (i < vco f l ∨ vco f l + 4 ≤ i) → i ≠ 2248 + f → (vl5 V f l kind a b c).1 i = V.1 i := fun i q1 q2 => vl5_ne q1 q2
        have hco : vco f l = 2258 + (f * 16 + l) * 4 := by unfold vco; omega
        have hP3 : RPp 5 s3 (vl5 V f l kind a b c).1 := by
          refine ⟨fun g hg => ⟨?_, ?_, ?_⟩, fun j hj => ?_⟩
          · rw [f3' _ (by omega) (by omega), hne _ (by omega) (by omega)]; exact (hR0.1 g hg).1
          · rw [f3' _ (by omega) (by omega), hne _ (by omega) (by omega)]; exact (hR0.1 g hg).2.1
          · rw [← hS]
            by_cases e : g = f
            · subst e
              rw [wt_u_self, t4]
            · rw [wt_u_nk e, wt_u_ne (by omega), wt_u_ne (by omega), wt_u_ne (by omega), wt_u_ne (by omega), hne _ (by omega) (by omega)]; exact (hR0.1 g hg).2.2
          · rw [← hS, wt_u_ne (by omega)]
            by_cases j3 : j = (f * 16 + l) * 4 + 3
            · rw [j3, wt_u_self, show 2258 + ((f * 16 + l) * 4 + 3) = vco f l + 3 by omega, t3]
            rw [wt_u_nk j3]
            by_cases j2 : j = (f * 16 + l) * 4 + 2
            · rw [j2, wt_u_self, show 2258 + ((f * 16 + l) * 4 + 2) = vco f l + 2 by omega, t2]
            rw [wt_u_nk j2]
            by_cases j1 : j = (f * 16 + l) * 4 + 1
            · rw [j1, wt_u_self, show 2258 + ((f * 16 + l) * 4 + 1) = vco f l + 1 by omega, t1]
            rw [wt_u_nk j1]
            by_cases j0 : j = (f * 16 + l) * 4 + 0
            · rw [j0, wt_u_self, show 2258 + ((f * 16 + l) * 4 + 0) = vco f l by omega, t0]
            rw [wt_u_nk j0, hne _ (by omega) (by omega)]
            exact hR0.2 j hj
        have fin : ∀ s4, (∀ d, d ≠ 10 → s4 d = s3 d) → RP 5 s4 (vl5 V f l kind a b c).1 → NW B s4 (vl5 V f l kind a b c) ∧ ∀ c, (c < 6 ∨ 10 < c) → s4 c = s c := fun s4 g1 g2 => by
          have f4 : ∀ c, (c < 6 ∨ 10 < c) → s4 c = s c := fun c hc => by rw [g1 c (by omega), f3' c (by omega) (by omega)]
          refine ⟨h.re c3' hI' rfl (fun i hi => hne i (by omega) (by omega)) (fun c hc => f4 c (by omega)) ⟨fun j hj => ?_, fun j hj => ?_⟩ g2, f4⟩
          · rw [f4 _ (by omega), hne _ (by omega) (by omega)]; exact hR.2.2.1.1 j hj
          · rw [f4 _ (by omega), hne _ (by omega) (by omega)]; exact hR.2.2.1.2 j hj
        have dee : ∃ s', (wt_cl (gX6_append_98 5 s3 (nI l)) fun v8 s7 => some (v8, s7)) = some (nI l, s') ∧ NW B s' (vl5 V f l kind a b c) ∧ ∀ c, (c < 6 ∨ 10 < c) → s' c = s c := by
          obtain ⟨s4, d1, d2, d3⟩ := c_deeps hP3 hI'.2.1
          unfold gX6_append_98
          rw [d1, cl_some, cl_some]
          exact ⟨s4, rfl, fin s4 d2 d3⟩
        by_cases k6 : kind = 6
        · rw [if_pos k6]
          exact dee
        · rw [if_neg k6]
          by_cases k9 : kind = 9
          · rw [if_neg (fun e => e k9)]
            exact dee
          · rw [if_pos k9, cl_some]
            refine ⟨s3, rfl, fin s3 (fun _ _ => rfl) ⟨fun g hg => ⟨(hP3.1 g hg).1, (hP3.1 g hg).2.1, (hP3.1 g hg).2.2, ?_⟩, hP3.2⟩⟩
            have hold := (hR.2.2.2.2.2.1 g hg).2.2.2
            have es : vsz (vl5 V f l kind a b c).1 g = vsz V.1 g := by unfold vsz; rw [hne _ (by omega) (by omega)]
            rw [f3' _ (by omega) (by omega), hold, es]
            have hd : ∀ m g, g < 10 → vdp (vl5 V f l kind a b c).1 m g = vdp V.1 m g := vl5_dp hI.2.1 f10 hL hl16 k6 k9
            rw [hd 10 g hg]
    · have hv : vline V (nI f) kind a b c = (-1, V) := by unfold vline; rw [if_neg (fun e => c6 (by have := e.2.2.2; rw [f3] at this; exact this))]
      rw [if_neg c6, hv]
      exact ⟨s, rfl, h, fun _ _ => rfl⟩
  · have hv : vline V x kind a b c = (-1, V) := by unfold vline; rw [if_neg (fun e => c1 e.1)]
    rw [if_neg c1, hv]
    exact ⟨s, rfl, h, fun _ _ => rfl⟩
end
