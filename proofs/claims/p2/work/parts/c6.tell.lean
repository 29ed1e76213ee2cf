/-! ===== the class: what is told ===== -/
section
variable {b lim q B : Nat} {s s' : wt_S} {V V' : vV} {zs zs' : List (vP × Nat)} {fr fr' : List Nat} {t f : Nat} {w : Nat → Int32}
/-- nobody is busy: what is told changes -/
theorem RC.re (h : RC b lim s V zs fr) (hn : ∀ t, t < 6 → V.2.2.1 t = 0) (hps : V.2.1 = []) (e2 : V'.2 = V.2) (hv : ∀ i, 3926 ≤ i → V'.1 i = V.1 i) (hc : ∀ c, (b + 2 ≤ c ∧ c ≤ b + 8) ∨ (b + 17 ≤ c ∧ c ≤ b + 28) → s' c = s c) (hg : CG b s' V'.1) (hr : RP 5 s' V'.1) : RC b lim s' V' zs fr := by
  have hz : zs = [] := by
    have := h.1
    rw [hps] at this
    exact List.map_eq_nil_iff.mp this
  subst hz
  obtain ⟨W, R⟩ := V'
  have e2 : R = V.2 := e2
  subst e2
  refine ⟨h.1, h.2.1.eq (fun c hc' => hc c (by omega)), hg, fun k hk => ?_, fun k hk i hi => ?_, hr⟩
  · obtain ⟨⟨a0, a1, a2⟩, ⟨l1, -⟩, ⟨p1, -⟩, ⟨-, r2⟩, g, -⟩ := h.2.2.2.1 k hk
    have eT := hc (b + 17 + 2 * k) (by omega)
    have eS := hc (b + 17 + 2 * k + 1) (by omega)
    have hv : ∀ i, 3926 ≤ i → W i = V.1 i := hv
    refine ⟨⟨by rw [eT]; exact a0, fun e he => ?_, fun e he => ?_⟩, ⟨fun e => by rw [eT]; exact l1 e, fun e => ?_⟩, ⟨fun e => ?_, fun z hz => by cases hz⟩, ⟨fun z hz => (by cases hz), fun e => by rw [eT]; exact r2 e⟩, fun e => ?_, fun z hz => by cases hz⟩
    · rw [eT]; exact (a1 e he).trans (hv _ (by have := tf_p e he; omega)).symm
    · rw [eS]; exact (a2 e he).trans (hv _ (by have := ts_p e he; omega)).symm
    · have e : 0 < V.2.2.1 k := e
      rw [hn k hk] at e
      omega
    · rw [eT]
      have e : W (4066 + k) = 0 := e
      rw [hv _ (by omega)] at e
      exact p1 e
    · have e : W (3926 + k) ≠ 0 := e
      rw [hv _ (by omega)] at e
      rw [eT]
      exact (g e).trans (hv _ (by omega)).symm
  · have hi : i < V.2.2.1 k := hi
    rw [hn k hk] at hi
    omega
theorem NW.re (h : NW B s V) (hn : vab V 6 0 = false) (hI' : VI 2048 B V') (e2 : V'.2 = V.2) (hv : ∀ i, 3926 ≤ i → V'.1 i = V.1 i) (hc : ∀ c, ¬ (c = 6 ∨ c = 7 ∨ c = 8 ∨ c = 9 ∨ c = 10 ∨ c = 12) → s' c = s c) (hg : CG 11 s' V'.1) (hr : RP 5 s' V'.1) : NW B s' V' := by
  obtain ⟨⟨zs, fr, hR⟩, hI, hW, hK, hT⟩ := h
  obtain ⟨n1, n2⟩ := hI.non hn
  refine ⟨⟨zs, fr, hR.re (fun t ht => (n2 t ht).1) n1 e2 hv (fun c hc' => hc c (by omega)) hg hr⟩, hI', fun t ht => WL.no ?_, fun j hj => by rw [hc 1 (by omega), hc 2 (by omega), hc 3 (by omega)]; exact hK j hj, fun k hk => by rw [hc _ (by omega)]; exact hT k hk⟩
  rw [hv _ (by omega)]
  intro e
  have := vab_f hn t (by omega) (by omega)
  rw [vby_iff.mpr (Or.inr e)] at this
  cases this
theorem c_that (h : RC b lim s V zs fr) {v : Int32} : ∀ (m k fu n : Nat), k + m = 6 → m < fu → n ≤ k → ∃ j, n ≤ j ∧ j ≤ 6 ∧ gX9_tasksThatAre_14 b fu s v (nI n) 6 (nI k) = some (nI j, s) ∧ (j = n ↔ ∀ i, k ≤ i → i < 6 → V.1 (3926 + i) ≠ v) := by
  intro m
  induction m with
  | zero =>
    intro k fu n hk hfu hn
    obtain ⟨fu, rfl⟩ : ∃ k, fu = k + 1 := ⟨fu - 1, by omega⟩
    refine ⟨n, Nat.le_refl _, by omega, ?_, ⟨fun _ i h1 h2 => by omega, fun _ => rfl⟩⟩
    rw [gX9_tasksThatAre_14, if_pos (by rw [nI_int (by omega)]; show (6 : Int) ≤ _; omega)]
  | succ m ih =>
    intro k fu n hk hfu hn
    obtain ⟨fu, rfl⟩ : ∃ k, fu = k + 1 := ⟨fu - 1, by omega⟩
    have e : s (b + 17 + 2 * k) 1 = V.1 (3926 + k) := h.at (by omega) (e := (1, 3926)) (by decide)
    rw [gX9_tasksThatAre_14, if_neg (by rw [nI_int (by omega)]; show ¬ (6 : Int) ≤ _; omega), ix_nI (by omega) (by omega), e]
    unfold gX9_tasksThatAre_42
    by_cases c : V.1 (3926 + k) = v
    · obtain ⟨j, j1, j2, j3, j4⟩ := ih (k + 1) fu (n + 1) (by omega) (by omega) (by omega)
      rw [if_neg (fun q => q c), show nI n + 1 = nI (n + 1) from nI_add n 1, show nI k + 1 = nI (k + 1) from nI_add k 1]
      exact ⟨j, by omega, j2, j3, ⟨fun q => by omega, fun q => absurd c (q k (Nat.le_refl _) (by omega))⟩⟩
    · obtain ⟨j, j1, j2, j3, j4⟩ := ih (k + 1) fu n (by omega) (by omega) (by omega)
      rw [if_pos c, show nI n + 0 = nI n from nI_add n 0, show nI k + 1 = nI (k + 1) from nI_add k 1]
      refine ⟨j, j1, j2, j3, j4.trans ⟨fun q i i1 i2 => ?_, fun q i i1 i2 => q i (by omega) i2⟩⟩
      by_cases ei : i = k
      · subst ei; exact c
      · exact q i (by omega) i2
theorem vab_i : ∀ {r t : Nat}, vab V r t = true ↔ ∃ j, t ≤ j ∧ j < t + r ∧ vby V j = true := by
  intro r
  induction r with
  | zero => intro t; exact ⟨fun h => (by cases h), fun ⟨j, h1, h2, _⟩ => (by omega)⟩
  | succ r ih =>
    intro t
    unfold vab
    rw [Bool.or_eq_true, ih]
    constructor
    · rintro (h | ⟨j, h1, h2, h3⟩)
      · exact ⟨t, Nat.le_refl _, by omega, h⟩
      · exact ⟨j, by omega, by omega, h3⟩
    · rintro ⟨j, h1, h2, h3⟩
      by_cases e : j = t
      · subst e; exact Or.inl h3
      · exact Or.inr ⟨j, by omega, by omega, h3⟩
theorem c_busy (h : RC b lim s V zs fr) : gX9_busy b s = some (rb (vab V 6 0 = true), s) := by
  obtain ⟨j1, a1, a2, a3, a4⟩ := c_that (v := 1) h 6 0 wt_N 0 (by omega) (by unfold wt_N; omega) (by omega)
  obtain ⟨j2, b1, b2, b3, b4⟩ := c_that (v := 2) h 6 0 wt_N 0 (by omega) (by unfold wt_N; omega) (by omega)
  unfold gX9_busy gX9_tasksThatAre
  rw [show gX9_tasksThatAre_14 b wt_N s 1 0 6 0 = _ from a3, cl_some, show gX9_tasksThatAre_14 b wt_N s 2 0 6 0 = _ from b3, cl_some, nI_add]
  by_cases c : vab V 6 0 = true
  · rw [rb_pos c, if_neg]
    rw [nI_int (by omega), ci0]
    intro q
    have e1 : j1 = 0 := by omega
    have e2 : j2 = 0 := by omega
    obtain ⟨j, h1, h2, h3⟩ := vab_i.mp c
    rcases vby_iff.mp h3 with e | e
    · exact a4.mp e1 j h1 (by omega) e
    · exact b4.mp e2 j h1 (by omega) e
  · rw [rb_neg c, if_pos]
    rw [nI_int (by omega), ci0]
    have hno : ∀ i, i < 6 → vby V i = false := fun i hi => by
      cases e : vby V i with
      | false => rfl
      | true => exact absurd (vab_i.mpr ⟨i, by omega, by omega, e⟩) c
    have e1 : j1 = 0 := a4.mpr (fun i _ hi e => by
      have := hno i hi
      rw [vby_iff.mpr (Or.inl e)] at this
      cases this)
    have e2 : j2 = 0 := b4.mpr (fun i _ hi e => by
      have := hno i hi
      rw [vby_iff.mpr (Or.inr e)] at this
      cases this)
    omega
theorem c_setop {x v : Int32} (h : NW B s V) (hI' : VI 2048 B (vset V x v).2) : ∃ s', gX10_set s x v = some ((vset V x v).1, s') ∧ NW B s' (vset V x v).2 ∧ NF s s' := by
  have h' := h
  obtain ⟨⟨zs, fr, hR⟩, hI, hW, hK, hT⟩ := h'
  have c6 : (6 : Int32).toInt = 6 := by decide
  unfold gX10_set
  rw [c_busy hR, cl_some, if_rbn]
  by_cases c3 : vab V 6 0 = true
  · have hv : vset V x v = (0, V) := by unfold vset; rw [if_neg (fun e => by have := e.2.2; rw [c3] at this; cases this)]
    rw [if_pos c3, hv]
    exact ⟨s, rfl, h, NF.refl⟩
  · have c3' : vab V 6 0 = false := by simpa using c3
    rw [if_neg c3]
    by_cases c1 : 0 ≤ x.toInt ∧ x.toInt ≤ 5
    · obtain ⟨k, hk, rfl, ek⟩ := i_task c1
      obtain ⟨k1, k2, -⟩ := hK k hk
      rw [if_neg (c_lo (by omega)), if_neg (by rw [c6]; omega), ix_nI hk (by omega), k1, ix_nI hk (by omega), k2]
      by_cases c2 : vlo k ≤ v.toInt ∧ v.toInt ≤ vhi k
      · have hv : vset V (nI k) v = (1, vs V (2048 + k) v) := by unfold vset; rw [ek, if_pos ⟨c1, c2, c3'⟩]
        rw [hv] at hI' ⊢
        rw [if_neg (by omega), if_pos c2.2, ix_nI hk (by omega), wr_eq]
        refine ⟨_, rfl, h.re c3' hI' rfl (fun i hi => vs_ne (by omega)) (fun c hc => wt_u_ne (by omega)) ⟨fun j hj => ?_, fun j hj => ?_⟩ (hR.2.2.2.2.2.ep hI.2.1 (fun i hi => vs_ne (by omega)) (fun c c1 c2 => wt_u_ne (by omega))), fun c hc => wt_u_ne (by omega)⟩
        · by_cases e : j = k
          · subst e
            rw [vs_at, show (11 : Nat) + 1 = 12 from rfl, wt_u_self]
          · rw [vs_ne (by omega), show (11 : Nat) + 1 = 12 from rfl, wt_u_nk e]
            exact hR.2.2.1.1 j hj
        · rw [vs_ne (by omega), wt_u_ne (by omega)]
          exact hR.2.2.1.2 j hj
      · have hv : vset V (nI k) v = (0, V) := by unfold vset; rw [ek, if_neg (fun e => c2 e.2.1)]
        rw [hv]
        refine ⟨s, ?_, h, NF.refl⟩
        by_cases c4 : v.toInt < vlo k
        · rw [if_pos c4]
        · rw [if_neg c4, if_neg (by omega)]
    · have hv : vset V x v = (0, V) := by unfold vset; rw [if_neg (fun e => c1 e.1)]
      rw [hv]
      refine ⟨s, ?_, h, NF.refl⟩
      by_cases c4 : x.toInt < (0 : Int32).toInt
      · rw [if_pos c4]
      · rw [ci0] at c4
        rw [if_neg (by rw [ci0]; exact c4), if_pos (by rw [c6]; omega)]
theorem c_functionop {x z p : Int32} (h : NW B s V) (hI' : VI 2048 B (vfunc V x z p).2) : ∃ s', gX10_function s x z p = some ((vfunc V x z p).1, s') ∧ NW B s' (vfunc V x z p).2 ∧ ∀ c, (c < 6 ∨ 10 < c) → s' c = s c := by
  have h' := h
  obtain ⟨⟨zs, fr, hR⟩, hI, hW, hK, hT⟩ := h'
  have c8 : (8 : Int32).toInt = 8 := by decide
  unfold gX10_function
  rw [c_busy hR, cl_some, if_rbn]
  by_cases c3 : vab V 6 0 = true
  · have hv : vfunc V x z p = (0, V) := by unfold vfunc; rw [if_neg (fun e => by have := e.2.2.2; rw [c3] at this; cases this)]
    rw [if_pos c3, hv]
    exact ⟨s, rfl, h, fun _ _ => rfl⟩
  · have c3' : vab V 6 0 = false := by simpa using c3
    rw [if_neg c3, c_isFunction, cl_some, if_rb]
    by_cases c1 : 0 ≤ x.toInt ∧ x.toInt ≤ 9
    · rw [if_pos c1]
      by_cases c2 : 0 ≤ z.toInt ∧ z.toInt ≤ 8
      · rw [if_neg (by rw [ci0]; omega), if_pos (by rw [c8]; exact c2.2)]
        obtain ⟨zn, z1, rfl, z3, z4⟩ := i_nat (x := z) c2.1
        have hsh : (1 : Int32) <<< (nI zn &&& 31) = nI (2 ^ zn) := sh_all ⟨zn, by omega⟩
        have hz8 : zn ≤ 8 := by omega
        have hpw : 1 ≤ 2 ^ zn ∧ 2 ^ zn ≤ 256 := ⟨Nat.one_le_two_pow, Nat.pow_le_pow_right (by omega) hz8⟩
        have hsub : ((1 : Int32) <<< (nI zn &&& 31) - 1).toInt = ((1 : Int32) <<< (nI zn &&& 31)).toInt - 1 := by
          rw [hsh, li_sub (by omega), nI_int (by omega), nI_int (by omega)]
          omega
        by_cases c4 : 0 ≤ p.toInt ∧ p.toInt ≤ ((1 : Int32) <<< (nI zn &&& 31) - 1).toInt
        · have hv : vfunc V x (nI zn) p = (1, vs (vs (vs V (2228 + x.toInt.toNat) (nI zn)) (2238 + x.toInt.toNat) p) (2248 + x.toInt.toNat) 0) := by unfold vfunc; rw [if_pos ⟨c1, c2, c4, c3'⟩]
          obtain ⟨f, h1, rfl, h3, h4⟩ := i_nat (x := x) c1.1
          have hf : f < 10 := by omega
          rw [hv] at hI' ⊢
          rw [h3] at hI' ⊢
          rw [if_neg (by rw [ci0]; omega), if_pos (by omega)]
          unfold gX6_tell
          rw [c_isFunction, cl_some, if_rbn, if_pos (by rw [nI_int (by omega)]; omega), ix_nI hf (by omega), wr_eq, ix_nI hf (by omega), wr_eq, ix_nI hf (by omega), wr_eq]
          have hne : ∀ i, i ≠ 2228 + f → i ≠ 2238 + f → i ≠ 2248 + f → (vs (vs (vs V (2228 + f) (nI zn)) (2238 + f) p) (2248 + f) 0).1 i = V.1 i := fun i i1 i2 i3 => (vs_ne i3).trans ((vs_ne i2).trans (vs_ne i1))
          generalize hS : wt_u (wt_u (wt_u s (5 + 1) f (nI zn)) (5 + 2) f p) (5 + 3) f 0 = s3
          have f3 : ∀ c, c ≠ 6 → c ≠ 7 → c ≠ 8 → s3 c = s c := fun c c1 c2 c3 => by rw [← hS, wt_u_ne c3, wt_u_ne c2, wt_u_ne c1]
          have hP3 : RPp 5 s3 (vs (vs (vs V (2228 + f) (nI zn)) (2238 + f) p) (2248 + f) 0).1 := by
            have hR0 := hR.2.2.2.2.2.p
            refine ⟨fun g hg => ⟨?_, ?_, ?_⟩, fun j hj => ?_⟩
            · rw [← hS, wt_u_ne (by omega), wt_u_ne (by omega)]
              by_cases e : g = f
              · subst e
                rw [wt_u_self, vs_ne (by omega), vs_ne (by omega), vs_at]
              · rw [wt_u_nk e, hne _ (by omega) (by omega) (by omega)]; exact (hR0.1 g hg).1
            · rw [← hS, wt_u_ne (by omega)]
              by_cases e : g = f
              · subst e
                rw [wt_u_self, vs_ne (by omega), vs_at]
              · rw [wt_u_nk e, wt_u_ne (by omega), hne _ (by omega) (by omega) (by omega)]; exact (hR0.1 g hg).2.1
            · rw [← hS]
              by_cases e : g = f
              · subst e
                rw [wt_u_self, vs_at]
              · rw [wt_u_nk e, wt_u_ne (by omega), wt_u_ne (by omega), hne _ (by omega) (by omega) (by omega)]; exact (hR0.1 g hg).2.2
            · rw [f3 _ (by omega) (by omega) (by omega), hne _ (by omega) (by omega) (by omega)]; exact hR0.2 j hj
          obtain ⟨s4, d1, d2, d3⟩ := c_deeps hP3 hI'.2.1
          rw [d1, cl_some, cl_some]
          have f4 : ∀ c, (c < 6 ∨ 10 < c) → s4 c = s c := fun c hc => by rw [d2 c (by omega), f3 c (by omega) (by omega) (by omega)]
          refine ⟨s4, rfl, h.re c3' hI' rfl (fun i hi => hne i (by omega) (by omega) (by omega)) (fun c hc => f4 c (by omega)) ⟨fun j hj => ?_, fun j hj => ?_⟩ d3, f4⟩
          · rw [f4 _ (by omega), hne _ (by omega) (by omega) (by omega)]; exact hR.2.2.1.1 j hj
          · rw [f4 _ (by omega), hne _ (by omega) (by omega) (by omega)]; exact hR.2.2.1.2 j hj
        · have hv : vfunc V x (nI zn) p = (0, V) := by unfold vfunc; rw [if_neg (fun e => c4 e.2.2.1)]
          rw [hv]
          refine ⟨s, ?_, h, fun _ _ => rfl⟩
          by_cases c5 : p.toInt < (0 : Int32).toInt
          · rw [if_pos c5]
          · rw [if_neg c5, if_neg (by rw [ci0] at c5; omega)]
      · have hv : vfunc V x z p = (0, V) := by unfold vfunc; rw [if_neg (fun e => c2 e.2.1)]
        rw [hv]
        refine ⟨s, ?_, h, fun _ _ => rfl⟩
        by_cases c5 : z.toInt < (0 : Int32).toInt
        · rw [if_pos c5]
        · rw [if_neg c5, if_neg (by rw [ci0] at c5; rw [c8]; omega)]
    · have hv : vfunc V x z p = (0, V) := by unfold vfunc; rw [if_neg (fun e => c1 e.1)]
      rw [if_neg c1, hv]
      exact ⟨s, rfl, h, fun _ _ => rfl⟩
end
