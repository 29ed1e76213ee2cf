section
/-! ===== the class: no place is wrong (the rest) ===== -/
section
variable {s s0 s1 s' : wt_S} {V : vV} {t i j n p B e : Nat} {zs : List (vP × Nat)} {fr : List Nat}
theorem MN.all {P : Nat → Nat → Prop} (h : MN V s t P) (e : s' 72 = s 72) : MN V s' t P := fun j a k b c => by rw [e]; exact h j a k b c
theorem MN.iff {P Q : Nat → Nat → Prop} (h : MN V s t P) (hq : ∀ j k, j < V.2.2.1 t → (Q j k ↔ P j k)) : MN V s t Q := fun j a k b c => ⟨fun q => (h j a k b c).1 ((hq j k a).mp q), fun q => (h j a k b c).2 (fun p => q ((hq j k a).mpr p))⟩
/-- the numbers of all frames are marked -/
theorem c_m10 {T : Nat} (hI : VI 2048 B V) (ht : t < 6) : ∀ (m fu : Nat) (s : wt_S), m < fu → m ≤ V.2.2.1 t → RC 11 2048 s V zs fr → (0 < m → GW V zs s t (m - 1)) → MN V s t (fun j _ => m ≤ j) → ∃ s', gX0_markNumbers_10 T fu s (nI m) = some ((), s') ∧ FW s s' ∧ MN V s' t (fun _ _ => True) := by
  have hj := hI.J
  have hN := hI.n ht
  have q1 : (1 : Int32).toInt = 1 := by decide
  intro m
  induction m with
  | zero =>
    intro fu s hfu hm hR hg hM
    obtain ⟨fu, rfl⟩ : ∃ m, fu = m + 1 := ⟨fu - 1, by omega⟩
    refine ⟨s, ?_, FW.refl, hM.iff (fun j k _ => ⟨fun _ => Nat.zero_le j, fun _ => trivial⟩)⟩
    rw [gX0_markNumbers_10, if_pos (by decide)]
  | succ m ih =>
    intro fu s hfu hm hR hg hM
    obtain ⟨fu, rfl⟩ : ∃ m, fu = m + 1 := ⟨fu - 1, by omega⟩
    have hg := hg (Nat.succ_pos m)
    rw [Nat.add_sub_cancel] at hg
    have hmn : m < V.2.2.1 t := by omega
    have f1 := (hj.fit ht hmn).1
    have hz := (hj.1.sz f1).2
    have hM0 : MN V s t (fun j k' => m < j ∨ (j = m ∧ k' < 0)) := hM.iff (fun j k _ => ⟨fun q => (show m + 1 ≤ j from q.elim (fun q => q) (fun q => absurd q.2 (Nat.not_lt_zero _))), fun q => Or.inl q⟩)
    obtain ⟨s1, d1, d2, d3, d4⟩ := c_m16 (T := T) (K := gX0_markNumbers_10 T fu) hI ht hmn (vsz V.1 (V.2.2.2 t m).1) 0 wt_N s (by omega) (by unfold wt_N; omega) hR hg hM0
    have hR1 := hR.fw d1
    have base : gX0_markNumbers_10 T (fu + 1) s (nI (m + 1)) = (if (nI (m + 1)).toInt ≤ (1 : Int32).toInt then gX0_markNumbers_10 T fu s1 (nI (m + 1) + (-1)) else (wt_cl (gX0_goToCaller s1) fun _ s3 => gX0_markNumbers_10 T fu s3 (nI (m + 1) + (-1)))) := by
      rw [gX0_markNumbers_10, if_neg (by rw [nI_int (by omega), ci0]; omega)]
      exact d4
    rw [base, nI_pred2, nI_int (by omega), q1]
    by_cases c : m = 0
    · rw [if_pos (by omega)]
      obtain ⟨s', g1, g2, g3⟩ := ih fu s1 (by omega) (by omega) hR1 (fun q => by omega) d3
      exact ⟨s', g1, d1.trans g2, g3⟩
    · rw [if_neg (by omega)]
      obtain ⟨k, rfl⟩ : ∃ k, m = k + 1 := ⟨m - 1, by omega⟩
      obtain ⟨s2, e1, e2, e3⟩ := c_goToCaller hR1 hI ht hmn (hg.of d2)
      have hF2 : FW s1 s2 := fun c _ b _ => e2 c b
      obtain ⟨s', g1, g2, g3⟩ := ih fu s2 (by omega) (by omega) (hR1.fw hF2) (fun _ => e3) (d3.all (e2 72 (by omega)))
      rw [e1, cl_some]
      exact ⟨s', g1, (d1.trans hF2).trans g2, g3⟩
theorem c_markNumbers (h : RC 11 2048 s V zs fr) (hI : VI 2048 B V) (ht : t < 6) (hM : MN V s t (fun _ _ => False)) : ∃ s', gX0_markNumbers (11 + 17 + 2 * t) s = some ((), s') ∧ FW s s' ∧ MN V s' t (fun _ _ => True) := by
  have hN := hI.n ht
  have go : ∀ s1 : wt_S, (∀ c, c ≠ 71 → s1 c = s c) → (0 < V.2.2.1 t → GW V zs s1 t (V.2.2.1 t - 1)) → gX0_goToLast (11 + 17 + 2 * t) s = some ((), s1) → ∃ s', gX0_markNumbers (11 + 17 + 2 * t) s = some ((), s') ∧ FW s s' ∧ MN V s' t (fun _ _ => True) := fun s1 a2 a3 a1 => by
    have hF : FW s s1 := fun c _ b _ => a2 c b
    have hR1 := h.fw hF
    obtain ⟨s', g1, g2, g3⟩ := c_m10 (T := 11 + 17 + 2 * t) hI ht (V.2.2.1 t) wt_N s1 (by unfold wt_N; omega) (Nat.le_refl _) hR1 a3 ((hM.all (a2 72 (by omega))).iff (fun j k a => ⟨fun q => absurd (show V.2.2.1 t ≤ j from q) (by omega), fun q => False.elim q⟩))
    refine ⟨s', ?_, hF.trans g2, g3⟩
    unfold gX0_markNumbers
    rw [a1, cl_some, c_t4 hR1 hI ht, g1]
  by_cases c : 0 < V.2.2.1 t
  · obtain ⟨s1, a1, a2, a3⟩ := c_goToLast h hI ht c
    exact go s1 a2 (fun _ => a3) a1
  · obtain ⟨s1, a1, a2⟩ := c_glast0 (s := s) (T := 11 + 17 + 2 * t)
    exact go s1 a2 (fun q => absurd q c) a1
/-- no pointer of a frame is wrong -/
theorem c_wp (h : RC 11 2048 s V zs fr) (hI : VI 2048 B V) (ht : t < 6) (hi : i < V.2.2.1 t) (hg : GW V zs s t i) (hM : MN V s t (fun _ _ => True)) : gX0_wrongPointers s = some (0, s) := by
  have hj := hI.J
  obtain ⟨f1, f2, f3⟩ := hj.fit ht hi
  have hz := hj.1.sz f1
  obtain ⟨np, -, -, hIf⟩ := hj.geo ht (show 0 < V.2.2.1 t by omega)
  obtain ⟨g3, g4, -⟩ := id hg
  have hw : ∀ k, k < vsz V.1 (V.2.2.2 t i).1 → s (11 + 15) (vpl V t i + 2 + k) = vsw V.1 (vpl V t) (V.2.2.2 t i) k := fun k hk => (h.2.2.2.2.1 t ht i hi).2.2.2 k hk
  have hm := mz11
  unfold vwd at f3
  have loop : ∀ (m k fu : Nat), k + m = vsz V.1 (V.2.2.2 t i).1 → m < fu → gX0_wrongPointers_4 fu s 0 (nI k) = some (0, s) := by
    intro m
    induction m with
    | zero =>
      intro k fu hk hfu
      obtain ⟨fu, rfl⟩ : ∃ m, fu = m + 1 := ⟨fu - 1, by omega⟩
      rw [gX0_wrongPointers_4, g4, c_sizeOf h.2.2.2.2.2 f1, cl_some, hz.1, if_pos (by rw [nI_int (by omega), nI_int (by omega)]; omega)]
    | succ m ih =>
      intro k fu hk hfu
      obtain ⟨fu, rfl⟩ : ∃ m, fu = m + 1 := ⟨fu - 1, by omega⟩
      have hk1 : k < vsz V.1 (V.2.2.2 t i).1 := by omega
      rw [gX0_wrongPointers_4, g4, c_sizeOf h.2.2.2.2.2 f1, cl_some, hz.1, if_neg (by rw [nI_int (by omega), nI_int (by omega)]; omega), g3, show nI (vpl V t i) + 2 = nI (vpl V t i + 2) from nI_add _ 2, nI_add, c_word (by omega), cl_some, hw k hk1, g4, c_isPointer h.2.2.2.2.2 f1, cl_some, if_rb, show nI k + 1 = nI (k + 1) from nI_add k 1]
      by_cases cb : bt (V.1 (2238 + (V.2.2.2 t i).1)) k
      · rw [if_pos cb]
        have hsw : vsw V.1 (vpl V t) (V.2.2.2 t i) k = (match (V.2.2.2 t i).2.2.2.2.2 k with | none => -1 | some q => nI (vpl V t q.1 + 2 + q.2)) := by
          unfold vsw
          rw [if_pos cb]
          cases (V.2.2.2 t i).2.2.2.2.2 k <;> rfl
        cases hq : (V.2.2.2 t i).2.2.2.2.2 k with
        | none =>
          rw [hq] at hsw
          have hsw : vsw V.1 (vpl V t) (V.2.2.2 t i) k = -1 := hsw
          rw [if_pos hsw]
          exact ih (k + 1) fu (by omega) (by omega)
        | some q =>
          rw [hq] at hsw
          have hsw : vsw V.1 (vpl V t) (V.2.2.2 t i) k = nI (vpl V t q.1 + 2 + q.2) := hsw
          obtain ⟨p1, p2, p3⟩ := hIf.2.2.2.2.2 i hi k hk1 cb q hq
          have hqi : q.1 < V.2.2.1 t := by omega
          have hfq := (hj.fit ht hqi).2.2
          unfold vwd at hfq
          have h1 := (hM q.1 hqi q.2 p2 p3).1 trivial
          rw [hsw, if_neg (nI_nm (by omega)), c_marksAt (by omega), cl_some, h1, if_neg (fun x => x rfl)]
          unfold gX0_wrongPointers_79
          rw [Int32.add_zero, show nI k + 1 = nI (k + 1) from nI_add k 1]
          exact ih (k + 1) fu (by omega) (by omega)
      · rw [if_neg cb]
        exact ih (k + 1) fu (by omega) (by omega)
  unfold gX0_wrongPointers
  exact loop (vsz V.1 (V.2.2.2 t i).1) 0 wt_N (by omega) (by unfold wt_N; omega)
theorem c_wq55 {K : wt_S → Int32 → Int32 → Int32 → Option (Int32 × wt_S)} {l1 l3 l4 : Int32} (hI : VI 2048 B V) (ht : t < 6) : ∀ (m fu : Nat) (s : wt_S), m < fu → m ≤ V.2.2.1 t → RC 11 2048 s V zs fr → (0 < m → GW V zs s t (m - 1)) → MN V s t (fun _ _ => True) → ∃ s', FW s s' ∧ gX0_wrongPlaces_55 K fu s l1 l3 l4 (nI m) = K s' l1 l3 (l4 + 1) := by
  have hj := hI.J
  have hN := hI.n ht
  have q1 : (1 : Int32).toInt = 1 := by decide
  intro m
  induction m with
  | zero =>
    intro fu s hfu hm hR hg hM
    obtain ⟨fu, rfl⟩ : ∃ m, fu = m + 1 := ⟨fu - 1, by omega⟩
    refine ⟨s, FW.refl, ?_⟩
    rw [gX0_wrongPlaces_55, if_pos (by decide)]
  | succ m ih =>
    intro fu s hfu hm hR hg hM
    obtain ⟨fu, rfl⟩ : ∃ m, fu = m + 1 := ⟨fu - 1, by omega⟩
    have hg := hg (Nat.succ_pos m)
    rw [Nat.add_sub_cancel] at hg
    have hmn : m < V.2.2.1 t := by omega
    have hfit := (hj.fit ht hmn).2.2
    unfold vwd at hfit
    have hmz := mz11
    have hb := (hR.2.2.2.2.1 t ht m hmn).2.1
    obtain ⟨g3, -⟩ := id hg
    rw [gX0_wrongPlaces_55, if_neg (by rw [nI_int (by omega), ci0]; omega), c_wp hR hI ht hmn hg hM, cl_some, g3, c_word (by omega), cl_some, Int32.add_zero]
    unfold gX0_wrongPlaces_93 gX0_wrongPlaces_110 gX0_wrongPlaces_118
    rw [nI_int (by omega), q1, nI_pred2]
    by_cases c : m = 0
    · subst c
      rw [if_pos rfl] at hb
      rw [if_pos (by omega), if_pos (by omega), hb, if_neg (fun x => x rfl), Int32.add_zero]
      exact ih fu s (by omega) (by omega) hR (fun q => absurd q (Nat.lt_irrefl 0)) hM
    · rw [if_neg (by omega)]
      obtain ⟨k, rfl⟩ : ∃ k, m = k + 1 := ⟨m - 1, by omega⟩
      rw [if_neg (by omega), Nat.add_sub_cancel] at hb
      obtain ⟨s2, e1, e2, e3⟩ := c_goToCaller hR hI ht hmn hg
      have hF2 : FW s s2 := fun c _ b _ => e2 c b
      obtain ⟨s', g1, g2⟩ := ih fu s2 (by omega) (by omega) (hR.fw hF2) (fun _ => e3) (hM.all (e2 72 (by omega)))
      rw [e1, cl_some, if_neg (by omega), hb, e3.1, if_neg (fun x => x rfl), Int32.add_zero]
      exact ⟨s', hF2.trans g1, g2⟩
theorem c_wq16 (hI : VI 2048 B V) {l1 : Int32} : ∀ (m t fu : Nat) (s : wt_S), t + m = 6 → m < fu → RC 11 2048 s V zs fr → ∃ s', gX0_wrongPlaces_16 fu s l1 6 (nI t) = some (l1, s') ∧ FW s s' := by
  intro m
  induction m with
  | zero =>
    intro t fu s ht hfu hR
    obtain ⟨fu, rfl⟩ : ∃ m, fu = m + 1 := ⟨fu - 1, by omega⟩
    refine ⟨s, ?_, FW.refl⟩
    rw [gX0_wrongPlaces_16, if_pos (by rw [nI_int (by omega)]; show (6 : Int) ≤ _; omega)]
  | succ m ih =>
    intro t fu s ht hfu hR
    obtain ⟨fu, rfl⟩ : ∃ m, fu = m + 1 := ⟨fu - 1, by omega⟩
    have ht6 : t < 6 := by omega
    have hN := hI.n ht6
    obtain ⟨s1, a1, a2, a3⟩ := c_fill72 (s := s)
    have hF1 : FW s s1 := fun c _ _ b => a2 c b
    have hR1 := hR.fw hF1
    have hM1 : MN V s1 t (fun _ _ => False) := fun j a k b c => ⟨fun q => False.elim q, fun _ => a3 _ (by
      have hfit := (hI.J.fit ht6 a).2.2
      unfold vwd at hfit
      omega)⟩
    obtain ⟨s2, b1, b2, b3⟩ := c_markNumbers hR1 hI ht6 hM1
    have hR2 := hR1.fw b2
    have go : ∀ s3 : wt_S, (∀ c, c ≠ 71 → s3 c = s2 c) → (0 < V.2.2.1 t → GW V zs s3 t (V.2.2.1 t - 1)) → gX0_goToLast (11 + 17 + 2 * t) s2 = some ((), s3) → ∃ s', gX0_wrongPlaces_16 (fu + 1) s l1 6 (nI t) = some (l1, s') ∧ FW s s' := fun s3 c2 c3 c1 => by
      have hF3 : FW s2 s3 := fun c _ b _ => c2 c b
      have hR3 := hR2.fw hF3
      obtain ⟨s4, g1, g2⟩ := c_wq55 (K := gX0_wrongPlaces_16 fu) (l1 := l1) (l3 := 6) (l4 := nI t) hI ht6 (V.2.2.1 t) wt_N s3 (by unfold wt_N; omega) (Nat.le_refl _) hR3 c3 (b3.all (c2 72 (by omega)))
      obtain ⟨s', d1, d2⟩ := ih (t + 1) fu s4 (by omega) (by omega) (hR3.fw g1)
      refine ⟨s', ?_, ((hF1.trans b2).trans (hF3.trans g1)).trans d2⟩
      rw [gX0_wrongPlaces_16, if_neg (by rw [nI_int (by omega)]; show ¬ (6 : Int) ≤ _; omega), ix_nI ht6 (by omega), a1, cl_some, b1, cl_some, c1, cl_some, c_t4 hR3 hI ht6, g2, show nI t + 1 = nI (t + 1) from nI_add t 1, d1]
    by_cases c : 0 < V.2.2.1 t
    · obtain ⟨s3, c1, c2, c3⟩ := c_goToLast hR2 hI ht6 c
      exact go s3 c2 (fun _ => c3) c1
    · obtain ⟨s3, c1, c2⟩ := c_glast0 (s := s2) (T := 11 + 17 + 2 * t)
      exact go s3 c2 (fun q => absurd q c) c1
theorem c_wrongPlaces (h : RC 11 2048 s V zs fr) (hI : VI 2048 B V) : ∃ s', gX0_wrongPlaces s = some (0, s') ∧ FW s s' := by
  unfold gX0_wrongPlaces
  exact c_wq16 (l1 := 0) hI 6 0 wt_N s (by omega) (by unfold wt_N; omega) h
theorem c_neverE {what : Int32} (h : NW B s V) (h6 : s 11 8 = V.1 2066) : ∃ s', gX10_never s what = some (vnev V what, s') ∧ FW s s' := by
  have q0 : (0 : Int32).toInt = 0 := by decide
  have q2 : (2 : Int32).toInt = 2 := by decide
  obtain ⟨⟨zs, fr, hR⟩, hI, -⟩ := id h
  unfold gX10_never vnev
  rw [q0, q2]
  by_cases c1 : what.toInt < 0
  · have hne : what ≠ 0 := fun e => by rw [e] at c1; exact absurd c1 (by decide)
    rw [if_pos c1, if_pos hne, if_neg (by omega)]
    exact ⟨s, rfl, FW.refl⟩
  rw [if_neg c1]
  by_cases c2 : what.toInt ≤ 2
  · rw [if_pos c2]
    by_cases c3 : what ≠ 0
    · have h1 : 1 ≤ what.toInt := by
        have : what.toInt ≠ 0 := fun e => c3 (Int32.toInt_inj.mp (e.trans q0.symm))
        omega
      rw [if_pos c3, if_pos c3, if_pos (show 1 ≤ what.toInt ∧ what.toInt ≤ 2 from ⟨h1, c2⟩)]
      by_cases c4 : what ≠ 1
      · obtain ⟨s', a1, a2⟩ := c_wrongFrames hR hI
        rw [if_pos c4, a1, cl_some]
        exact ⟨s', rfl, a2⟩
      · obtain ⟨s', a1, a2⟩ := c_wrongPlaces hR hI
        rw [if_neg c4, a1, cl_some]
        exact ⟨s', rfl, a2⟩
    · rw [if_neg c3, if_neg c3, h6]
      exact ⟨s, rfl, FW.refl⟩
  · have hne : what ≠ 0 := fun e => c2 (by rw [e]; decide)
    rw [if_neg c2, if_pos hne, if_neg (by omega)]
    exact ⟨s, rfl, FW.refl⟩
end
end
section
/-! ===== the class: how often there was another result ===== -/
/-- what steps do to it: it grows as DONE comes -/
def K7 (t : Nat) (V V' : vV) : Prop := (V'.1 (3926 + t) ≠ 3 ∧ V'.1 2066 = V.1 2066) ∨ (V'.1 (3926 + t) = 3 ∧ V'.1 2066 = V.1 2066 + if vZ V'.1 (V'.1 (4052 + t)) (V'.1 (4059 + t)) (V'.1 (3940 + t)) = true then 1 else 0)
section
variable {B B' : Nat} {s s' : wt_S} {V V' V1 Vk : vV} {t f np : Nat} {x v r : Int32}
theorem vZ_pe {w w' : Nat → Int32} {f a v : Int32} (h : vpe w w') : vZ w' f a v = vZ w f a v := by
  have e : eend w' f a = eend w f a := by
    unfold eend
    rw [ecw_eq h]
  unfold vZ
  rw [e]
theorem k7_st (hI : VI 2048 B V) (ht : t < 6) (hb : vbz V.1 t) : K7 t V (vst 2048 vZ V t) := by
  obtain ⟨k1, k2⟩ := ke_st (Z := vZ) hI ht hb (by omega)
  have hp := pe_st (Z := vZ) hI ht hb (by omega)
  rcases k3_st (Z := vZ) hI ht hb (by omega) with h | ⟨h1, w0, h2, h3⟩
  · exact Or.inl h
  · refine Or.inr ⟨h1, ?_⟩
    rw [h3, k1, k2, vZ_pe (hp.symm.trans h2)]
theorem vrun_idle (h : vby V t = false) : ∀ n, vrun vZ t n V = (0, V) := by
  intro n
  cases n with
  | zero => rfl
  | succ n =>
    unfold vrun
    rw [if_neg (by rw [h]; decide)]
theorem vrun_0 : ∀ n, (vrun vZ t n V).1 = 0 → (vrun vZ t n V).2 = V := by
  intro n
  cases n with
  | zero => intro _; rfl
  | succ n =>
    unfold vrun
    by_cases c : vby V t = true
    · rw [if_pos c]
      intro h
      exact absurd h (Nat.succ_ne_zero _)
    · rw [if_neg c]
      intro _
      rfl
theorem vby_3 (h : V.1 (3926 + t) = 3) : vby V t = false := by
  cases q : vby V t with
  | false => rfl
  | true =>
    rcases vby_iff.mp q with x | x
    · rw [h] at x; exact absurd x (by decide)
    · rw [h] at x; exact absurd x (by decide)
theorem k7_run (ht : t < 6) : ∀ (n : Nat) (B : Nat) (V : vV), VI 2048 B V → V.1 (3926 + t) ≠ 3 → K7 t V (vrun vZ t n V).2 := by
  intro n
  induction n with
  | zero => intro B V hI h; exact Or.inl ⟨h, rfl⟩
  | succ n ih =>
    intro B V hI h
    unfold vrun
    by_cases c : vby V t = true
    · rw [if_pos c]
      have hb := vby_iff.mp c
      have hI1 := vi_st (Z := vZ) hI ht hb (by omega)
      rcases k7_st hI ht hb with ⟨a1, a2⟩ | ⟨a1, a2⟩
      · rcases ih (B + 4) (vst 2048 vZ V t) hI1 a1 with ⟨b1, b2⟩ | ⟨b1, b2⟩
        · exact Or.inl ⟨b1, b2.trans a2⟩
        · rw [a2] at b2
          exact Or.inr ⟨b1, b2⟩
      · rw [vrun_idle (vby_3 a1)]
        exact Or.inr ⟨a1, a2⟩
    · rw [if_neg c]
      exact Or.inl ⟨h, rfl⟩
/-- a result is held against that of an endless stack -/
theorem nw_cmp6 (h : NW B s V) (ht : t < 6) (htl : tld V.1 (V.1 (4052 + t))) (hst : V.1 (3926 + t) = 3) (hc : V.1 2066 = s 11 8 + if vZ V.1 (V.1 (4052 + t)) (V.1 (4059 + t)) (V.1 (3940 + t)) = true then 1 else 0) : ∃ s', (wt_cl (gX10_thinkEndless s (s (11 + 17 + 2 * t) 15) (s (11 + 17 + 2 * t) 16)) fun a2 s1 => if a2 = 57 then (wt_cl (gX10_compareResults (11 + 17 + 2 * t) 57 s1) fun _ s3 => some ((), s3)) else none) = some ((), s') ∧ NW B s' V ∧ NF s s' ∧ s' 11 8 = V.1 2066 := by
  have h' := h
  obtain ⟨⟨zs, fr, hR⟩, hI, hW, hK, hT⟩ := h'
  obtain ⟨f, f10, e1, -, e3⟩ := tld_nat htl
  have e15 : s (11 + 17 + 2 * t) 15 = nI f := ((hR.2.2.2.1 t ht).2.2.2.2.1 (by rw [hst]; decide)).trans e1
  have e16 : V.1 (4059 + t) = s (11 + 17 + 2 * t) 16 := (hR.at ht (e := (16, 4059)) (by decide)).symm
  rw [e1, e16] at hc
  rw [e15]
  generalize s (11 + 17 + 2 * t) 16 = a at hc ⊢
  obtain ⟨s1, zs1, fr1, a1, a2, a3, a4⟩ := nw_think (a := a) (Z := vZ) h f10 e3
  have hE := vET_end (Z := vZ) (W := V.1) (f := f) (a := a) hI.2.1 f10 e3
  have z1 : s1 57 1 = (vET vZ V.1 f a).1 3926 := a4.at (t := 0) (by omega) (e := (1, 3926)) (by decide)
  have z3 : s1 57 3 = (vET vZ V.1 f a).1 3940 := a4.at (t := 0) (by omega) (e := (3, 3940)) (by decide)
  have zT : s1 (11 + 17 + 2 * t) 3 = V.1 (3940 + t) := by rw [a3 _ (by omega)]; exact hR.at ht (e := (3, 3940)) (by decide)
  have z8 : s1 11 = s 11 := a3 11 (by omega)
  have hn : NF s s1 := fun c hc => a3 c (by omega)
  rw [a1, cl_some, if_pos rfl]
  unfold gX10_compareResults
  unfold vZ at hc
  cases er : eend V.1 (nI f) a with
  | none =>
    rw [er] at hE hc
    have hE : (vET vZ V.1 f a).1 3926 ≠ 3 := hE
    have hc : V.1 2066 = s 11 8 + if false = true then 1 else 0 := hc
    rw [if_neg (by decide), Int32.add_zero] at hc
    rw [if_pos (by rw [z1]; exact hE), cl_some]
    exact ⟨s1, rfl, a2, hn, by rw [z8, hc]⟩
  | some r =>
    rw [er] at hE hc
    obtain ⟨d1, d2, -, -⟩ := hE
    have hc : V.1 2066 = s 11 8 + if decide (r.1 ≠ V.1 (3940 + t)) = true then 1 else 0 := hc
    rw [if_neg (fun q => q (z1.trans d1))]
    by_cases c2 : s1 57 3 = s1 (11 + 17 + 2 * t) 3
    · have hv : r.1 = V.1 (3940 + t) := d2.symm.trans (z3.symm.trans (c2.trans zT))
      rw [if_neg (show ¬ decide (r.1 ≠ V.1 (3940 + t)) = true from fun q => absurd hv (of_decide_eq_true q)), Int32.add_zero] at hc
      rw [if_pos c2, cl_some]
      exact ⟨s1, rfl, a2, hn, by rw [z8, hc]⟩
    · have hv : r.1 ≠ V.1 (3940 + t) := fun q => c2 (z3.trans (d2.trans (q.trans zT.symm)))
      rw [if_pos (decide_eq_true hv)] at hc
      rw [if_neg c2, wr_eq, cl_some]
      exact ⟨_, rfl, nw_u8 a2, hn.trans (fun c hc => wt_u_ne (by omega)), by rw [wt_u_self, z8, hc]⟩
theorem c_37_6 (ht : t < 6) : ∀ (r m fu B : Nat) (s : wt_S) (V : vV), r < fu → m + r < 100000 → NW B s V → ∃ s', gX10_step_37 fu s (nI (m + r)) (11 + 17 + 2 * t) (nI m) (nI m) = gX10_step_67 s' (11 + 17 + 2 * t) (nI (m + (vrun vZ t r V).1)) ∧ NW (B + 4 * r) s' (vrun vZ t r V).2 ∧ CF 11 s s' := by
  intro r
  induction r with
  | zero =>
    intro m fu B s V hfu hm h
    obtain ⟨fu, rfl⟩ : ∃ k, fu = k + 1 := ⟨fu - 1, by omega⟩
    refine ⟨s, ?_, h, CF.refl⟩
    rw [gX10_step_37, if_pos (show (nI (m + 0)).toInt ≤ (nI m).toInt from Int.le_refl _)]
    rfl
  | succ r ih =>
    intro m fu B s V hfu hm h
    obtain ⟨fu, rfl⟩ : ∃ k, fu = k + 1 := ⟨fu - 1, by omega⟩
    obtain ⟨⟨zs, fr, hR⟩, -⟩ := id h
    rw [gX10_step_37, if_neg (by rw [nI_int (by omega), nI_int (by omega)]; omega), c_on hR ht, cl_some, if_rb]
    unfold vrun
    by_cases c : vby V t = true
    · rw [if_pos c, if_pos c]
      obtain ⟨s1, a1, a2, a3⟩ := nw_step (Z := vZ) h ht (vby_iff.mp c)
      obtain ⟨s', b1, b2, b3⟩ := ih (m + 1) fu (B + 4) s1 (vst 2048 vZ V t) (by omega) (by omega) a2
      rw [a1, cl_some, show nI m + 1 = nI (m + 1) from nI_add m 1, show m + (r + 1) = m + 1 + r by omega, b1]
      refine ⟨s', ?_, b2.mono (by omega), a3.trans b3⟩
      rw [show m + 1 + (vrun vZ t r (vst 2048 vZ V t)).1 = m + ((vrun vZ t r (vst 2048 vZ V t)).1 + 1) by omega]
    · rw [if_neg c, if_neg c]
      exact ⟨s, rfl, h.mono (by omega), CF.refl⟩
theorem c_step6 {x n : Int32} (h : NW B s V) (h6 : s 11 8 = V.1 2066) : ∃ s', gX10_step s x n = some ((vstep vZ V x n).1, s') ∧ s' 11 8 = (vstep vZ V x n).2.1 2066 := by
  unfold gX10_step
  rw [c_isTask, cl_some, if_rb]
  by_cases c1 : 0 ≤ x.toInt ∧ x.toInt ≤ 5
  · obtain ⟨t, ht, rfl, etn⟩ := i_task c1
    rw [if_pos c1]
    by_cases c2 : 1 ≤ n.toInt ∧ n.toInt ≤ 200
    · obtain ⟨m, m1, rfl, m3, m4⟩ := i_nat (x := n) (by omega)
      obtain ⟨s1, a1, a2, a3⟩ := c_37_6 ht m 0 wt_N B s V (by unfold wt_N; omega) (by omega) h
      rw [Nat.zero_add, Nat.zero_add] at a1
      have a1 : gX10_step_37 wt_N s (nI m) (11 + 17 + 2 * t) 0 0 = gX10_step_67 s1 (11 + 17 + 2 * t) (nI (vrun vZ t m V).1) := a1
      have z8 : s1 11 = s 11 := a3 11 (Or.inl (Nat.le_refl _))
      have hle := vrun_le (Z := vZ) (t := t) (n := m) (V := V)
      rw [if_neg (show ¬ (nI m).toInt < (1 : Int32).toInt by show ¬ (nI m).toInt < 1; omega), if_pos (show (nI m).toInt ≤ (200 : Int32).toInt from c2.2), ix_nI ht (by omega), a1]
      have hv : vstep vZ V (nI t) (nI m) = (nI (vrun vZ t m V).1, (vrun vZ t m V).2) := by unfold vstep; rw [if_pos ⟨c1, c2⟩, etn, m3]
      unfold gX10_step_67
      rw [hv]
      by_cases c3 : (vrun vZ t m V).1 = 0
      · rw [if_pos (by rw [c3]; decide)]
        refine ⟨s1, rfl, ?_⟩
        show s1 11 8 = (vrun vZ t m V).2.1 2066
        rw [vrun_0 m c3, z8, h6]
      · have hb : vby V t = true := by
          cases q : vby V t with
          | true => rfl
          | false => exact absurd (by rw [vrun_idle q]) c3
        have hn3 : V.1 (3926 + t) ≠ 3 := fun q => by rw [vby_3 q] at hb; cases hb
        have hk := k7_run ht m B V h.2.1 hn3
        rw [if_neg (by rw [nI_int (by omega), ci0]; omega)]
        obtain ⟨⟨zs1, fr1, hR1⟩, -⟩ := id a2
        have e1 : s1 (11 + 17 + 2 * t) 1 = (vrun vZ t m V).2.1 (3926 + t) := hR1.at ht (e := (1, 3926)) (by decide)
        rw [e1]
        by_cases c4 : (vrun vZ t m V).2.1 (3926 + t) = 3
        · rw [if_neg (fun q => q c4)]
          have hc : (vrun vZ t m V).2.1 2066 = s1 11 8 + if vZ (vrun vZ t m V).2.1 ((vrun vZ t m V).2.1 (4052 + t)) ((vrun vZ t m V).2.1 (4059 + t)) ((vrun vZ t m V).2.1 (3940 + t)) = true then 1 else 0 := by
            rcases hk with q | q
            · exact absurd c4 q.1
            · rw [z8, h6]; exact q.2
          obtain ⟨s2, b1, b2, b3, b4⟩ := nw_cmp6 a2 ht (run_made h.2.1 ht (by omega)) c4 hc
          have key : (wt_cl (gX10_thinkEndless s1 (s1 (11 + 17 + 2 * t) 15) (s1 (11 + 17 + 2 * t) 16)) fun a2 s1 => if a2 = 57 then (wt_cl (gX10_compareResults (11 + 17 + 2 * t) 57 s1) fun _ s3 => some (nI (vrun vZ t m V).1, s3)) else none) = some (nI (vrun vZ t m V).1, s2) := by
            cases e : gX10_thinkEndless s1 (s1 (11 + 17 + 2 * t) 15) (s1 (11 + 17 + 2 * t) 16) with
            | none => rw [e] at b1; cases b1
            | some p =>
              obtain ⟨a, s3⟩ := p
              rw [e, cl_some] at b1
              rw [cl_some]
              by_cases ca : a = 57
              · rw [if_pos ca] at b1 ⊢
                cases e2 : gX10_compareResults (11 + 17 + 2 * t) 57 s3 with
                | none => rw [e2] at b1; cases b1
                | some p =>
                  obtain ⟨u4, s4⟩ := p
                  rw [e2, cl_some] at b1
                  rw [cl_some]
                  cases b1
                  rfl
              · rw [if_neg ca] at b1
                cases b1
          exact ⟨s2, key, b4⟩
        · rw [if_pos c4]
          refine ⟨s1, rfl, ?_⟩
          show s1 11 8 = (vrun vZ t m V).2.1 2066
          rcases hk with q | q
          · rw [z8, h6]; exact q.2.symm
          · exact absurd q.1 c4
    · have hv : vstep vZ V (nI t) n = (-1, V) := by unfold vstep; rw [if_neg (fun e => c2 e.2)]
      rw [hv]
      refine ⟨s, ?_, h6⟩
      have q1 : (1 : Int32).toInt = 1 := by decide
      have q2 : (200 : Int32).toInt = 200 := by decide
      by_cases c3 : n.toInt < (1 : Int32).toInt
      · rw [if_pos c3]
      · rw [if_neg c3, if_neg (by rw [q2]; rw [q1] at c3; omega)]
  · have hv : vstep vZ V x n = (-1, V) := by unfold vstep; rw [if_neg (fun e => c1 e.1)]
    rw [if_neg c1, hv]
    exact ⟨s, rfl, h6⟩
theorem c_39_6 {K : wt_S → Int32 → Int32 → Int32 → Option (Int32 × wt_S)} {l1 l3 : Int32} : ∀ (r t m fu B : Nat) (s : wt_S) (V : vV), r < fu → t + r = 6 → NW B s V → s 11 8 = V.1 2066 → ∃ s', gX10_round_39 K fu s l1 (nI m) l3 6 (nI t) = K s' l1 (nI (vrn6 vZ r t m V).1) (l3 + 1) ∧ NW (B + 4 * r) s' (vrn6 vZ r t m V).2 ∧ s' 11 8 = (vrn6 vZ r t m V).2.1 2066 := by
  intro r
  induction r with
  | zero =>
    intro t m fu B s V hfu ht h h6
    obtain ⟨fu, rfl⟩ : ∃ k, fu = k + 1 := ⟨fu - 1, by omega⟩
    refine ⟨s, ?_, h, h6⟩
    rw [gX10_round_39, if_pos (by rw [nI_int (by omega)]; show (6 : Int) ≤ _; omega)]
    rfl
  | succ r ih =>
    intro t m fu B s V hfu ht h h6
    obtain ⟨fu, rfl⟩ : ∃ k, fu = k + 1 := ⟨fu - 1, by omega⟩
    have ht6 : t < 6 := by omega
    obtain ⟨⟨zs, fr, hR⟩, -⟩ := id h
    rw [gX10_round_39, if_neg (by rw [nI_int (by omega)]; show ¬ (6 : Int) ≤ _; omega), ix_nI ht6 (by omega), c_on hR ht6, cl_some, if_rb, show nI t + 1 = nI (t + 1) from nI_add t 1]
    unfold vrn6
    have hrun : vrun vZ t 1 V = if vby V t then (0 + 1, vst 2048 vZ V t) else (0, V) := rfl
    by_cases c : vby V t = true
    · rw [if_pos c] at hrun
      rw [if_pos c, hrun]
      obtain ⟨s1, a1, a2, a3⟩ := nw_step (Z := vZ) h ht6 (vby_iff.mp c)
      have z8 : s1 11 = s 11 := a3 11 (Or.inl (Nat.le_refl _))
      have hk := k7_st h.2.1 ht6 (vby_iff.mp c)
      obtain ⟨⟨zs1, fr1, hR1⟩, -⟩ := id a2
      have e1 : s1 (11 + 17 + 2 * t) 1 = (vst 2048 vZ V t).1 (3926 + t) := hR1.at ht6 (e := (1, 3926)) (by decide)
      rw [a1, cl_some, e1, show nI m + 1 = nI (m + 1) from nI_add m 1]
      by_cases c4 : (vst 2048 vZ V t).1 (3926 + t) = 3
      · rw [if_neg (fun q => q c4)]
        have htl := run_made (Z := vZ) (n := 1) h.2.1 ht6 (by rw [hrun]; exact Nat.lt_succ_self 0)
        rw [hrun] at htl
        have hc : (vst 2048 vZ V t).1 2066 = s1 11 8 + if vZ (vst 2048 vZ V t).1 ((vst 2048 vZ V t).1 (4052 + t)) ((vst 2048 vZ V t).1 (4059 + t)) ((vst 2048 vZ V t).1 (3940 + t)) = true then 1 else 0 := by
          rcases hk with q | q
          · exact absurd c4 q.1
          · rw [z8, h6]; exact q.2
        obtain ⟨s2, b1, b2, b3, b4⟩ := nw_cmp6 a2 ht6 htl c4 hc
        obtain ⟨s', d1, d2, d3⟩ := ih (t + 1) (m + 1) fu (B + 4) s2 (vst 2048 vZ V t) (by omega) (by omega) b2 b4
        refine ⟨s', ?_, d2.mono (by omega), d3⟩
        rw [← d1]
        cases e : gX10_thinkEndless s1 (s1 (11 + 17 + 2 * t) 15) (s1 (11 + 17 + 2 * t) 16) with
        | none => rw [e] at b1; cases b1
        | some p =>
          obtain ⟨a, s3⟩ := p
          rw [e, cl_some] at b1
          rw [cl_some]
          by_cases ca : a = 57
          · rw [if_pos ca] at b1 ⊢
            cases e2 : gX10_compareResults (11 + 17 + 2 * t) 57 s3 with
            | none => rw [e2] at b1; cases b1
            | some p =>
              obtain ⟨u4, s4⟩ := p
              rw [e2, cl_some] at b1
              rw [cl_some]
              cases b1
              rfl
          · rw [if_neg ca] at b1
            cases b1
      · rw [if_pos c4]
        have h6' : s1 11 8 = (vst 2048 vZ V t).1 2066 := by
          rcases hk with q | q
          · rw [z8, h6]; exact q.2.symm
          · exact absurd q.1 c4
        obtain ⟨s', d1, d2, d3⟩ := ih (t + 1) (m + 1) fu (B + 4) s1 (vst 2048 vZ V t) (by omega) (by omega) a2 h6'
        exact ⟨s', d1, d2.mono (by omega), d3⟩
    · rw [if_neg c] at hrun
      rw [if_neg c, hrun]
      obtain ⟨s', d1, d2, d3⟩ := ih (t + 1) m fu B s V (by omega) (by omega) h h6
      exact ⟨s', d1, d2.mono (by omega), d3⟩
theorem c_17_6 : ∀ (r k m fu B N : Nat) (s : wt_S) (V : vV), r < fu → k + r = N → N ≤ 1000 → NW B s V → s 11 8 = V.1 2066 → ∃ s', gX10_round_17 fu s (nI N) (nI m) (nI k) = some (nI (vrnd vZ r m V).1, s') ∧ s' 11 8 = (vrnd vZ r m V).2.1 2066 := by
  intro r
  induction r with
  | zero =>
    intro k m fu B N s V hfu hk hN h h6
    obtain ⟨fu, rfl⟩ : ∃ k, fu = k + 1 := ⟨fu - 1, by omega⟩
    obtain rfl : k = N := by omega
    refine ⟨s, ?_, h6⟩
    rw [gX10_round_17, if_pos (Int.le_refl _)]
    rfl
  | succ r ih =>
    intro k m fu B N s V hfu hk hN h h6
    obtain ⟨fu, rfl⟩ : ∃ k, fu = k + 1 := ⟨fu - 1, by omega⟩
    rw [gX10_round_17, if_neg (by rw [nI_int (by omega), nI_int (by omega)]; omega)]
    obtain ⟨s1, a1, a2, a3⟩ := c_39_6 (K := gX10_round_17 fu) (l1 := nI N) (l3 := nI k) 6 0 m wt_N B s V (by unfold wt_N; omega) (by omega) h h6
    have a1 : gX10_round_39 (gX10_round_17 fu) wt_N s (nI N) (nI m) (nI k) 6 0 = _ := a1
    rw [a1, show nI k + 1 = nI (k + 1) from nI_add k 1]
    obtain ⟨s', b1, b2⟩ := ih (k + 1) (vrn6 vZ 6 0 m V).1 fu (B + 24) N s1 (vrn6 vZ 6 0 m V).2 (by omega) (by omega) hN a2 a3
    exact ⟨s', b1, b2⟩
theorem c_round6 {n : Int32} (h : NW B s V) (h6 : s 11 8 = V.1 2066) : ∃ s', gX10_round s n = some ((vround vZ V n).1, s') ∧ s' 11 8 = (vround vZ V n).2.1 2066 := by
  have q1 : (1 : Int32).toInt = 1 := by decide
  have q2 : (100 : Int32).toInt = 100 := by decide
  unfold gX10_round
  by_cases c2 : 1 ≤ n.toInt ∧ n.toInt ≤ 100
  · obtain ⟨m, m1, rfl, m3, m4⟩ := i_nat (x := n) (by omega)
    obtain ⟨s', a1, a2⟩ := c_17_6 m 0 0 wt_N B m s V (by unfold wt_N; omega) (by omega) (by omega) h h6
    rw [if_neg (by rw [q1]; omega), if_pos (by rw [q2]; exact c2.2), show gX10_round_17 wt_N s (nI m) 0 0 = _ from a1]
    unfold vround
    rw [if_pos c2, m3]
    exact ⟨s', rfl, a2⟩
  · have hv : vround vZ V n = (-1, V) := by unfold vround; rw [if_neg c2]
    rw [hv]
    refine ⟨s, ?_, h6⟩
    by_cases c3 : n.toInt < (1 : Int32).toInt
    · rw [if_pos c3]
    · rw [if_neg c3, if_neg (by rw [q2]; rw [q1] at c3; omega)]
end
end
section
/-! ===== the class: what leaves that count alone ===== -/
section
variable {B B' : Nat} {s s' : wt_S} {V V' Vk : vV} {t np f : Nat} {x r : Int32}
theorem c_set6 {x v : Int32} (h : NW B s V) : ∃ s', gX10_set s x v = some ((vset V x v).1, s') ∧ CF 11 s s' := by
  obtain ⟨⟨zs, fr, hR⟩, hI, hW, hK, hT⟩ := id h
  have c6 : (6 : Int32).toInt = 6 := by decide
  unfold gX10_set
  rw [c_busy hR, cl_some, if_rbn]
  by_cases c3 : vab V 6 0 = true
  · have hv : vset V x v = (0, V) := by unfold vset; rw [if_neg (fun e => by have := e.2.2; rw [c3] at this; cases this)]
    rw [if_pos c3, hv]
    exact ⟨s, rfl, CF.refl⟩
  · have c3' : vab V 6 0 = false := by simpa using c3
    rw [if_neg c3]
    by_cases c1 : 0 ≤ x.toInt ∧ x.toInt ≤ 5
    · obtain ⟨k, hk, rfl, ek⟩ := i_task c1
      obtain ⟨k1, k2, -⟩ := hK k hk
      rw [if_neg (c_lo (by omega)), if_neg (by rw [c6]; omega), ix_nI hk (by omega), k1, ix_nI hk (by omega), k2]
      by_cases c2 : vlo k ≤ v.toInt ∧ v.toInt ≤ vhi k
      · have hv : vset V (nI k) v = (1, vs V (2048 + k) v) := by unfold vset; rw [ek, if_pos ⟨c1, c2, c3'⟩]
        rw [hv]
        rw [if_neg (by omega), if_pos c2.2, ix_nI hk (by omega), wr_eq]
        exact ⟨_, rfl, fun c hc => wt_u_ne (by omega)⟩
      · have hv : vset V (nI k) v = (0, V) := by unfold vset; rw [ek, if_neg (fun e => c2 e.2.1)]
        rw [hv]
        refine ⟨s, ?_, CF.refl⟩
        by_cases c4 : v.toInt < vlo k
        · rw [if_pos c4]
        · rw [if_neg c4, if_neg (by omega)]
    · have hv : vset V x v = (0, V) := by unfold vset; rw [if_neg (fun e => c1 e.1)]
      rw [hv]
      refine ⟨s, ?_, CF.refl⟩
      by_cases c4 : x.toInt < (0 : Int32).toInt
      · rw [if_pos c4]
      · rw [ci0] at c4
        rw [if_neg (by rw [ci0]; exact c4), if_pos (by rw [c6]; omega)]
theorem c_start6 {x f a mode : Int32} (h : NW B s V) : ∃ s', gX10_start s x f a mode = some ((vstart V x f a mode).1, s') ∧ CF 11 s s' := by
  obtain ⟨⟨zs, fr, hR⟩, hI, hW, hK, hT⟩ := id h
  unfold gX10_start
  rw [c_isTask, cl_some, if_rb]
  by_cases c1 : 0 ≤ x.toInt ∧ x.toInt ≤ 5
  · obtain ⟨t, ht, rfl, etn⟩ := i_task c1
    rw [if_pos c1, ix_nI ht (by omega), c_on hR ht, cl_some, if_rbn]
    by_cases c2 : vby V t = true
    · have hv : vstart V (nI t) f a mode = (0, V) := by unfold vstart; rw [if_neg (fun e => by have := e.2.1; rw [etn, c2] at this; cases this)]
      rw [if_pos c2, hv]
      exact ⟨s, rfl, CF.refl⟩
    · have c2' : vby V t = false := by simpa using c2
      rw [if_neg c2, c_told hR.2.2.2.2.2, cl_some, if_rbn]
      by_cases c3 : tld V.1 f
      · obtain ⟨f', f1, rfl, f3, f4⟩ := tld_nat c3
        rw [if_pos c3]
        by_cases c4 : mode = 0 ∨ mode = 1
        · have hv : vstart V (nI t) (nI f') a mode = (rb ((vbg 2048 V t f' a mode).1 = true), (vbg 2048 V t f' a mode).2) := by unfold vstart; rw [if_pos ⟨c1, by rw [etn]; exact c2', c3, c4⟩, etn, f3]
          have hid := hI.idle ht c2'
          obtain ⟨s', zs', fr', e1, e2, e3⟩ := c_begin (a := a) (mode := mode) hR cx11 hI ht hid f1 f4 c4
          have key : gX10_start_49 s (nI t) (nI f') a mode = some (rb ((vbg 2048 V t f' a mode).1 = true), s') := by
            unfold gX10_start_49
            rw [ix_nI ht (by omega), e1, cl_some, rb_if]
          rw [hv]
          refine ⟨s', ?_, e3.2⟩
          rcases c4 with c4 | c4
          · rw [if_pos c4]; exact key
          · rw [if_neg (by rw [c4]; decide), if_neg (fun e => e c4)]; exact key
        · have hv : vstart V (nI t) (nI f') a mode = (0, V) := by unfold vstart; rw [if_neg (fun e => c4 e.2.2.2)]
          rw [hv, if_neg (fun e => c4 (Or.inl e)), if_pos (fun e => c4 (Or.inr e))]
          exact ⟨s, rfl, CF.refl⟩
      · have hv : vstart V (nI t) f a mode = (0, V) := by unfold vstart; rw [if_neg (fun e => c3 e.2.2.1)]
        rw [if_neg c3, hv]
        exact ⟨s, rfl, CF.refl⟩
  · have hv : vstart V x f a mode = (0, V) := by unfold vstart; rw [if_neg (fun e => c1 e.1)]
    rw [if_neg c1, hv]
    exact ⟨s, rfl, CF.refl⟩
theorem c_stop6 (h : NW B s V) : ∃ s', gX10_stop s x = some ((vsto V x).1, s') ∧ CF 11 s s' := by
  obtain ⟨⟨zs, fr, hR⟩, hI, hW, hK, hT⟩ := id h
  unfold gX10_stop
  rw [c_isTask, cl_some, if_rb]
  by_cases c1 : 0 ≤ x.toInt ∧ x.toInt ≤ 5
  · obtain ⟨t, ht, rfl, etn⟩ := i_task c1
    have e : s (11 + 17 + 2 * t) 1 = V.1 (3926 + t) := hR.at ht (e := (1, 3926)) (by decide)
    rw [if_pos c1, ix_nI ht (by omega), e]
    by_cases c2 : V.1 (3926 + t) ≠ 0
    · have hv : vsto V (nI t) = (1, vcr (vga V t) t) := by unfold vsto; rw [if_pos c1, etn, if_pos c2]
      rw [hv]
      obtain ⟨s1, s2, zs', fr', a1, a2, a3, a4⟩ := c_stopT hR hI ht
      rw [if_pos c2, ix_nI ht (by omega), a1, cl_some, ix_nI ht (by omega), a2, cl_some]
      exact ⟨s2, rfl, a4.2⟩
    · have hv : vsto V (nI t) = (0, V) := by unfold vsto; rw [if_pos c1, etn, if_neg c2]
      rw [if_neg c2, hv]
      exact ⟨s, rfl, CF.refl⟩
  · have hv : vsto V x = (0, V) := by unfold vsto; rw [if_neg c1]
    rw [if_neg c1, hv]
    exact ⟨s, rfl, CF.refl⟩
theorem c_quiet6 (h : NW B s V) : ∃ s', gX10_quiet s x = some ((vquiet V x).1, s') ∧ CF 11 s s' := by
  obtain ⟨⟨zs, fr, hR⟩, hI, hW, hK, hT⟩ := id h
  unfold gX10_quiet
  rw [c_isTask, cl_some, if_rb]
  by_cases c1 : 0 ≤ x.toInt ∧ x.toInt ≤ 5
  · obtain ⟨t, ht, rfl, etn⟩ := i_task c1
    rw [if_pos c1, ix_nI ht (by omega), c_on hR ht, cl_some, if_rb]
    by_cases c2 : vby V t = true
    · have hb := vby_iff.mp c2
      have hv : vquiet V (nI t) = (rb ((vqu 2048 V t).1 = true), (vqu 2048 V t).2) := by unfold vquiet; rw [etn, if_pos ⟨c1, c2⟩]
      obtain ⟨np, z, z2, z3, k, l, hP, -, -, ⟨r1, -, r3⟩, -⟩ := hI.opn ht hb (by omega)
      obtain ⟨s', zs', fr', a1, a2, a3⟩ := c_quiet hR cx11 hP r1 r3
      rw [hv, if_pos c2, ix_nI ht (by omega), a1, cl_some, rb_if]
      exact ⟨s', rfl, a3.2⟩
    · have hv : vquiet V (nI t) = (0, V) := by unfold vquiet; rw [etn, if_neg (fun e => c2 e.2)]
      rw [if_neg c2, hv]
      exact ⟨s, rfl, CF.refl⟩
  · have hv : vquiet V x = (0, V) := by unfold vquiet; rw [if_neg (fun e => c1 e.1)]
    rw [if_neg c1, hv]
    exact ⟨s, rfl, CF.refl⟩
theorem c_join6 (h : NW B s V) : ∃ s', gX10_join s x = some ((vjoin V x).1, s') ∧ CF 11 s s' := by
  obtain ⟨⟨zs, fr, hR⟩, hI, hW, hK, hT⟩ := id h
  unfold gX10_join
  rw [c_isTask, cl_some, if_rb]
  by_cases c1 : 0 ≤ x.toInt ∧ x.toInt ≤ 5
  · obtain ⟨t, ht, rfl, etn⟩ := i_task c1
    rw [if_pos c1, ix_nI ht (by omega), c_on hR ht, cl_some, if_rb]
    by_cases c2 : vby V t = true
    · have hb := vby_iff.mp c2
      have e2 : s (11 + 17 + 2 * t) 2 = V.1 (3933 + t) := hR.at ht (e := (2, 3933)) (by decide)
      rw [if_pos c2, ix_nI ht (by omega), e2]
      by_cases c3 : V.1 (3933 + t) = 1
      · have hv : vjoin V (nI t) = (rb ((vjo 2048 V t).1 = true), (vjo 2048 V t).2) := by unfold vjoin; rw [etn, if_pos ⟨c1, c2, c3⟩]
        obtain ⟨s', zs', fr', a1, a2, a3⟩ := c_join hR cx11 hI ht hb
        rw [hv, if_pos c3, ix_nI ht (by omega), a1, cl_some, rz_rb]
        exact ⟨s', rfl, a3.2⟩
      · have hv : vjoin V (nI t) = (0, V) := by unfold vjoin; rw [etn, if_neg (fun e => c3 e.2.2)]
        rw [if_neg c3, hv]
        exact ⟨s, rfl, CF.refl⟩
    · have hv : vjoin V (nI t) = (0, V) := by unfold vjoin; rw [etn, if_neg (fun e => c2 e.2.1)]
      rw [if_neg c2, hv]
      exact ⟨s, rfl, CF.refl⟩
  · have hv : vjoin V x = (0, V) := by unfold vjoin; rw [if_neg (fun e => c1 e.1)]
    rw [if_neg c1, hv]
    exact ⟨s, rfl, CF.refl⟩
theorem c_compact6 (h : NW B s V) : ∃ s', gX10_compact s = some (nI (vcc 0 V.2.1), s') ∧ CF 11 s s' := by
  obtain ⟨⟨zs, fr, hR⟩, hI, hW, hK, hT⟩ := h
  obtain ⟨s', zs', a1, a2, a3⟩ := c_gather hR cx11 hI
  unfold gX10_compact
  rw [a1, cl_some]
  exact ⟨s', rfl, a3⟩
/-! ### the pictures -/
theorem vset_66 {x v : Int32} : (vset V x v).2.1 2066 = V.1 2066 := by
  unfold vset
  split
  · rename_i c
    have c1 := c.1
    show (vs V (2048 + x.toInt.toNat) v).1 2066 = V.1 2066
    exact vs_ne (by omega)
  · rfl
theorem vfunc_66 {x z p : Int32} : (vfunc V x z p).2.1 2066 = V.1 2066 := by
  unfold vfunc
  split
  · show (vs (vs (vs V (2228 + x.toInt.toNat) z) (2238 + x.toInt.toNat) p) (2248 + x.toInt.toNat) 0).1 2066 = V.1 2066
    rw [vs_ne (by omega), vs_ne (by omega), vs_ne (by omega)]
  · rfl
theorem vline_66 {x kind a b c : Int32} : (vline V x kind a b c).2.1 2066 = V.1 2066 := by
  unfold vline
  split
  · show (vl5 V x.toInt.toNat (vli V.1 x.toInt.toNat) kind a b c).1 2066 = V.1 2066
    exact vl5_ne (Or.inl (by unfold vco; omega)) (by omega)
  · rfl
theorem vbg_66 {a mode : Int32} (ht : t < 6) : (vbg 2048 V t f a mode).2.1 2066 = V.1 2066 := by
  unfold vbg
  split
  · rfl
  · rename_i g _
    have hs : Sd t (vb5 V t g (V.1 2048).toInt.toNat (nI f) a mode) := Or.inl (by rw [vb5_0 (c := 3989) (by omega)]; exact vcr_f.2)
    exact ((k6_cl hs).1.1).trans (vb5_ne ht (by omega))
theorem vstart_66 {x f a mode : Int32} : (vstart V x f a mode).2.1 2066 = V.1 2066 := by
  unfold vstart
  split
  · rename_i c
    have c1 := c.1
    exact vbg_66 (by omega)
  · rfl
theorem vsto_66 (hI : VI 2048 B V) : (vsto V x).2.1 2066 = V.1 2066 := by
  unfold vsto
  split
  · rename_i c
    have ht : x.toInt.toNat < 6 := by omega
    split
    · show (vcr (vga V x.toInt.toNat) x.toInt.toNat).1 2066 = V.1 2066
      rw [vcr_ne ht (by omega)]
      exact (vga_i (hI.sid ht)).2 (by omega)
    · rfl
  · rfl
theorem vquiet_66 : (vquiet V x).2.1 2066 = V.1 2066 := by
  unfold vquiet
  split
  · exact (vqu_w (lim := 2048) (V := V) (t := x.toInt.toNat) (i := 2066) (by omega) (by omega) (by omega) (by omega) (by omega) (by omega)).1
  · rfl
theorem vjoin_66 : (vjoin V x).2.1 2066 = V.1 2066 := by
  unfold vjoin
  split
  · show (vjo 2048 V x.toInt.toNat).2.1 2066 = V.1 2066
    unfold vjo
    dsimp only
    cases vgap 2048 0 V.2.1 (vdbl (vkp V x.toInt.toNat) 16 (V.1 2048).toInt.toNat) with
    | none => rfl
    | some g => exact (vj3_ne (by omega) (by omega) (by omega)).trans ((vj2_ne (by omega) (by omega)).trans (mj_upd_ne (by omega)))
  · rfl
/-! ### the image -/
theorem c_image6 (h : NW B s V) (hk : KI B s Vk) (h6 : s 11 8 = V.1 2066) (k6 : s 4 6 = 0 ∨ s 75 8 = Vk.1 2066) : ∃ s', gX10_image s x = some ((if x ≠ 0 then 1 else s 4 6), s') ∧ s' 11 8 = (if x ≠ 0 then V else if s 4 6 = 0 then V else Vk).1 2066 ∧ (s' 4 6 = 0 ∨ s' 75 8 = (if x ≠ 0 then V else Vk).1 2066) := by
  unfold gX10_image gX10_image_75
  by_cases cx : x ≠ 0
  · rw [if_pos cx, if_pos cx, if_pos cx, if_neg (fun e => cx e)]
    obtain ⟨_, s1, e1, q1, f1⟩ := c_qtake (q := 76) (q2 := 5) (s := s) (by omega)
    obtain ⟨_, s2, e2, w1, f2, f3, f4⟩ := c_over (b := 81) (b2 := 11) (s := s1) (Or.inr (Or.inl ⟨rfl, rfl⟩))
    have f2 : ∀ c, c ≤ 81 ∨ 81 + 28 < c → c ≠ 75 → s2 c = s1 c := f2
    rw [e1, cl_some, e2, cl_some, wr_eq, show wt_u s2 4 6 1 4 6 = 1 from wt_u_self, show wt_rz (1 : Int32) (some ((1 : Int32), wt_u s2 4 6 1)) = some (1, wt_u s2 4 6 1) from if_pos (Or.inr rfl)]
    have w8 : s2 75 8 = s1 11 8 := w1.2.2.2.2.2.2
    refine ⟨_, rfl, ?_, Or.inr ?_⟩
    · rw [wt_u_ne (by omega), f2 11 (by omega) (by omega), f1 11 (by omega)]
      exact h6
    · rw [wt_u_ne (by omega), w8, f1 11 (by omega)]
      exact h6
  · have cx0 : x = 0 := by simpa using cx
    rw [if_neg cx, if_neg cx, if_neg cx, if_pos cx0]
    by_cases c0 : s 4 6 = 0
    · rw [if_pos c0, if_pos c0, c0, show wt_rz (0 : Int32) (some ((0 : Int32), s)) = some (0, s) from if_pos (Or.inl rfl)]
      exact ⟨s, rfl, h6, Or.inl c0⟩
    · rw [if_neg c0, if_neg c0]
      have ek : s 4 6 = 1 := by
        rcases hk with e | e
        · exact absurd e c0
        · exact e.1
      have k8 := k6.resolve_left c0
      obtain ⟨_, s1, e1, q1, f1⟩ := c_qtake (q := 5) (q2 := 76) (s := s) (by omega)
      obtain ⟨_, s2, e2, w1, f2, f3, f4⟩ := c_over (b := 11) (b2 := 81) (s := s1) (Or.inl ⟨rfl, rfl⟩)
      have f2 : ∀ c, c ≤ 11 ∨ 11 + 28 < c → c ≠ 11 → s2 c = s1 c := f2
      have fs : ∀ c, c < 6 ∨ 39 < c → s2 c = s c := fun c hc => by rw [f2 c (by omega) (by omega), f1 c (by omega)]
      have e4 : s2 4 6 = 1 := by rw [fs 4 (by omega)]; exact ek
      rw [e1, cl_some, e2, cl_some, e4, ek, show wt_rz (1 : Int32) (some ((1 : Int32), s2)) = some (1, s2) from if_pos (Or.inr rfl)]
      have w8 : s2 11 8 = s1 75 8 := w1.2.2.2.2.2.2
      refine ⟨_, rfl, ?_, Or.inr ?_⟩
      · rw [w8, f1 75 (by omega)]
        exact k8
      · rw [fs 75 (by omega)]
        exact k8
end
/-! ===== both sides, with that count ===== -/
/-- what holds at the law's loop -/
def L6 (F B : Nat) (s : wt_S) : Prop := CI F s s ∧ s 4 6 = s 110 4 ∧ ∃ V Vk, RQ B s V Vk ∧ NW B s V ∧ KI B s Vk ∧ s 11 8 = V.1 2066 ∧ (s 4 6 = 0 ∨ s 75 8 = Vk.1 2066)
/-- one operation of both: the answers are E -/
def O6 (F B : Nat) (s : wt_S) (x : Option (Int32 × wt_S)) (y : wt_S → Option (Int32 × wt_S)) (E : Int32 → Int32 → Prop) : Prop := ∃ r s1 r2 s2, x = some (r, s1) ∧ s1 0 = s 0 ∧ y s1 = some (r2, s2) ∧ E r r2 ∧ L6 F B s2
section
variable {F F' B B' : Nat} {s s' : wt_S} {V Vk : vV} {x : Option (Int32 × wt_S)} {y : wt_S → Option (Int32 × wt_S)} {E : Int32 → Int32 → Prop}
theorem L6.mono (h : L6 F B s) (hF : F ≤ F') (hB : B ≤ B') : L6 F' B' s := by
  obtain ⟨h1, h2, V, Vk, h3, h4, h5, h6⟩ := h
  exact ⟨h1.mono hF, h2, V, Vk, h3.mk2 h3.1 (h3.2.1.mono hB) hB (RH.of RF.refl), h4.mono hB, h5.keep hB (fun _ _ => rfl), h6⟩
theorem lo6_mk (h : L6 F B s) (hB : B ≤ B') (hx : Ok (fun _ s' => CI F' s s') x) (hs : ∀ V, RS s V → VI 2048 B V → NW B s V → s 11 8 = V.1 2066 → ∃ r s1 V', x = some (r, s1) ∧ NW B' s1 V' ∧ (∀ c, c = 75 ∨ (77 ≤ c ∧ c ≤ 109) → s1 c = s c) ∧ s1 11 8 = V'.1 2066 ∧ ∀ s1', RS s1' V → ∃ r2 s2, y s1' = some (r2, s2) ∧ E r r2 ∧ RS s2 V' ∧ RH s1' s2) : O6 F' B' s x y E := by
  obtain ⟨h1, h2, V, Vk, h3, h4, h5, h6, h7⟩ := h
  obtain ⟨r, s1, V', a1, a2, a3, a6, a4⟩ := hs V h3.1 h3.2.1 h4 h6
  obtain ⟨r', s1', b1, b2⟩ := hx
  rw [a1] at b1
  cases b1
  have e : ∀ c, (c = 0 ∨ 110 ≤ c) ∨ c = 4 → s1 c = s c := b2.2.2.2.2.2.2
  have hRS : RS s1 V := ⟨by rw [e 110 (by omega)]; exact h3.1.1, by rw [e 111 (by omega)]; exact h3.1.2⟩
  have hQ : RQ B s1 V Vk := ⟨hRS, h3.2.1, by rw [e 110 (by omega), e 113 (by omega)]; exact h3.2.2⟩
  obtain ⟨r2, s2, c1, c2, c3, c4⟩ := a4 s1 hRS
  refine ⟨r, s1, r2, s2, a1, e 0 (by omega), c1, c2, b2.re c4.1, ?_, V', Vk, hQ.mk2 c3 a2.2.1 hB c4, a2.re1 c4.1, h5.keep hB (fun c hc => ?_), ?_, ?_⟩
  · rw [c4.1 4 (by omega), c4.2.2, e 4 (by omega), e 110 (by omega)]
    exact h2
  · rw [c4.1 c (by omega)]
    rcases hc with hc | hc
    · exact e c (Or.inr hc)
    · exact a3 c hc
  · rw [c4.1 11 (by omega)]
    exact a6
  · rw [c4.1 4 (by omega), c4.1 75 (by omega), e 4 (by omega), a3 75 (Or.inl rfl)]
    exact h7
/-- a question that changes nothing -/
theorem lo6_pure (h : L6 F B s) (hx : Ok (fun _ s' => s' = s ∧ True) x) (hy : ∀ V s1, RS s1 V → VI 2048 B V → Ok (fun _ s' => RO s1 s') (y s1)) : O6 F B s x y TR := by
  obtain ⟨r, s', e, e1, -⟩ := hx
  subst e1
  refine lo6_mk h (Nat.le_refl _) ⟨r, s', e, h.1⟩ (fun V hr hI hn h6 => ⟨r, s', V, e, hn, fun _ _ => rfl, h6, fun s1' h' => ?_⟩)
  obtain ⟨r2, s2, b1, b2⟩ := hy V s1' h' hI
  exact ⟨r2, s2, b1, trivial, h'.ro b2, RH.of b2.1⟩
/-- a question that walks or marks -/
theorem lo6_walk (h : L6 F B s) (hx : Ok (fun _ s' => CI F s s') x) (hf : FP s x) (hy : ∀ V s1, RS s1 V → VI 2048 B V → Ok (fun _ s' => RO s1 s') (y s1)) : O6 F B s x y TR := by
  refine lo6_mk h (Nat.le_refl _) hx (fun V hr hI hn h6 => ?_)
  obtain ⟨r, s', e, -⟩ := hx
  have hk : ∀ c, c ≠ 27 → c ≠ 71 → c ≠ 72 → s' c = s c := fun c c1 c2 c3 => hf r s' e c (fun q => by unfold KQ at q; omega)
  obtain ⟨⟨zs, fr, hR⟩, hI2, hW, hK, hT⟩ := hn
  refine ⟨r, s', V, e, ⟨⟨zs, fr, hR.eq cx11 (fun c _ _ _ c4 hc => hk c (by omega) (by omega) (by omega))⟩, hI2, hW, fun j hj => by rw [hk 1 (by omega) (by omega) (by omega), hk 2 (by omega) (by omega) (by omega), hk 3 (by omega) (by omega) (by omega)]; exact hK j hj, fun k hk' => by rw [hk _ (by omega) (by omega) (by omega)]; exact hT k hk'⟩, fun c hc => hk c (by omega) (by omega) (by omega), by rw [hk 11 (by omega) (by omega) (by omega)]; exact h6, fun s1' h' => ?_⟩
  obtain ⟨r2, s2, b1, b2⟩ := hy V s1' h' hI
  exact ⟨r2, s2, b1, trivial, h'.ro b2, RH.of b2.1⟩
theorem lo6_set {a b : Int32} (h : L6 F B s) (hF : F ≤ 1999990000) : O6 F B s (gX10_set s a b) (fun s1 => gX11_set s1 a b) Eq :=
  lo6_mk h (Nat.le_refl _) (ok_im (oX10_set (by omega) h.1) (fun _ _ e => e.1)) (fun V hr hI hn h6 => by
    obtain ⟨s0, -, -, -, hI'⟩ := q_set (x := a) (v := b) hr hI
    obtain ⟨s1, a1, a2, a3⟩ := c_setop hn hI'
    obtain ⟨s1x, x1, x2⟩ := c_set6 (x := a) (v := b) hn
    rw [a1] at x1
    cases x1
    refine ⟨_, s1, _, a1, a2, fun c hc => a3 c (by omega), by rw [x2 11 (by omega), h6, vset_66], fun s1' h' => ?_⟩
    obtain ⟨s2, b1, b2, b3, -⟩ := q_set (x := a) (v := b) h' hI
    exact ⟨_, s2, b1, rfl, b2, RH.of b3⟩)
theorem lo6_function {a b c : Int32} (h : L6 F B s) (hF : F ≤ 1999990000) : O6 F B s (gX10_function s a b c) (fun s1 => gX11_function s1 a b c) Eq :=
  lo6_mk h (Nat.le_refl _) (ok_im (oX10_function (by omega) h.1) (fun _ _ e => e.1)) (fun V hr hI hn h6 => by
    obtain ⟨s0, -, -, -, hI'⟩ := q_function (x := a) (z := b) (p := c) hr hI
    obtain ⟨s1, a1, a2, a3⟩ := c_functionop hn hI'
    refine ⟨_, s1, _, a1, a2, fun c hc => a3 c (by omega), by rw [a3 11 (by omega), h6, vfunc_66], fun s1' h' => ?_⟩
    obtain ⟨s2, b1, b2, b3, -⟩ := q_function (x := a) (z := b) (p := c) h' hI
    exact ⟨_, s2, b1, rfl, b2, RH.of b3⟩)
theorem lo6_line {k a b c d : Int32} (h : L6 F B s) (hF : F ≤ 1999990000) : O6 F B s (gX10_line s k a b c d) (fun s1 => gX11_line s1 k a b c d) Eq :=
  lo6_mk h (Nat.le_refl _) (oX10_line (by omega) h.1) (fun V hr hI hn h6 => by
    obtain ⟨s0, -, -, -, hI'⟩ := q_line (x := k) (kind := a) (a := b) (b := c) (c := d) hr hI
    obtain ⟨s1, a1, a2, a3⟩ := c_lineop hn hI'
    refine ⟨_, s1, _, a1, a2, fun c hc => a3 c (by omega), by rw [a3 11 (by omega), h6, vline_66], fun s1' h' => ?_⟩
    obtain ⟨s2, b1, b2, b3, -⟩ := q_line (x := k) (kind := a) (a := b) (b := c) (c := d) h' hI
    exact ⟨_, s2, b1, rfl, b2, RH.of b3⟩)
theorem lo6_start {a b c d : Int32} (h : L6 F B s) (hF : F ≤ 1999990000) (hB : B ≤ 2147200000) : O6 (F + 1) (B + 3) s (gX10_start s a b c d) (fun s1 => gX11_start s1 a b c d) Eq :=
  lo6_mk h (Nat.le_add_right _ _) (ok_im (oX10_start (by omega) h.1) (fun _ _ e => e.1)) (fun V hr hI hn h6 => by
    obtain ⟨s1, a1, a2, a3⟩ := c_startop (x := a) (f := b) (a := c) (mode := d) hn
    obtain ⟨s1x, x1, x2⟩ := c_start6 (x := a) (f := b) (a := c) (mode := d) hn
    rw [a1] at x1
    cases x1
    refine ⟨_, s1, _, a1, a2, fun c hc => a3 c (by omega), by rw [x2 11 (by omega), h6, vstart_66], fun s1' h' => ?_⟩
    obtain ⟨s2, b1, b2, b3, -⟩ := q_start (x := a) (f := b) (a := c) (mode := d) h' hI (by omega)
    exact ⟨_, s2, b1, rfl, b2, RH.of b3⟩)
theorem lo6_step {a b : Int32} (h : L6 F B s) (hF : F + 4401 ≤ 1999990000) (hB : B ≤ 2147200000) : O6 (F + 4401) (B + 800) s (gX10_step s a b) (fun s1 => gX11_step s1 a b) Eq :=
  lo6_mk h (Nat.le_add_right _ _) (oX10_step hF h.1) (fun V hr hI hn h6 => by
    obtain ⟨s1, a1, a2, a3⟩ := c_stepop (x := a) (n := b) (Z := vZ) hn
    obtain ⟨s1x, x1, x2⟩ := c_step6 (x := a) (n := b) hn h6
    rw [a1] at x1
    cases x1
    refine ⟨_, s1, _, a1, a2, fun c hc => a3 c (by omega), x2, fun s1' h' => ?_⟩
    obtain ⟨s2, b1, b2, b3, -⟩ := q_step (x := a) (n := b) hd_all h' hI (by omega)
    exact ⟨_, s2, b1, rfl, b2, RH.of b3⟩)
theorem lo6_round {a : Int32} (h : L6 F B s) (hF : F + 2401800 ≤ 1999990000) (hB : B ≤ 2147200000) : O6 (F + 2401800) (B + 2400) s (gX10_round s a) (fun s1 => gX11_round s1 a) Eq :=
  lo6_mk h (Nat.le_add_right _ _) (oX10_round hF h.1) (fun V hr hI hn h6 => by
    obtain ⟨s1, a1, a2, a3⟩ := c_roundop (n := a) (Z := vZ) hn
    obtain ⟨s1x, x1, x2⟩ := c_round6 (n := a) hn h6
    rw [a1] at x1
    cases x1
    refine ⟨_, s1, _, a1, a2, fun c hc => a3 c (by omega), x2, fun s1' h' => ?_⟩
    obtain ⟨s2, b1, b2, b3, -⟩ := q_round (n := a) hd_all h' hI (by omega)
    exact ⟨_, s2, b1, rfl, b2, RH.of b3⟩)
theorem lo6_stop {a : Int32} (h : L6 F B s) (hF : F ≤ 1999990000) : O6 F B s (gX10_stop s a) (fun s1 => gX11_stop s1 a) Eq :=
  lo6_mk h (Nat.le_refl _) (ok_im (oX10_stop (by omega) h.1) (fun _ _ e => e.1)) (fun V hr hI hn h6 => by
    obtain ⟨s1, a1, a2, a3⟩ := c_stopop (x := a) hn
    obtain ⟨s1x, x1, x2⟩ := c_stop6 (x := a) hn
    rw [a1] at x1
    cases x1
    refine ⟨_, s1, _, a1, a2, fun c hc => a3 c (by omega), by rw [x2 11 (by omega), h6, vsto_66 hI], fun s1' h' => ?_⟩
    obtain ⟨s2, b1, b2, b3⟩ := q_stop (x := a) h' hI
    exact ⟨_, s2, b1, rfl, b2, RH.of b3⟩)
theorem lo6_quiet {a : Int32} (h : L6 F B s) (hF : F ≤ 1999990000) (hB : B ≤ 2147200000) : O6 F (B + 1) s (gX10_quiet s a) (fun s1 => gX11_quiet s1 a) Eq :=
  lo6_mk h (Nat.le_add_right _ _) (ok_im (oX10_quiet (by omega) h.1) (fun _ _ e => e.1)) (fun V hr hI hn h6 => by
    obtain ⟨s1, a1, a2, a3⟩ := c_quietop (x := a) hn
    obtain ⟨s1x, x1, x2⟩ := c_quiet6 (x := a) hn
    rw [a1] at x1
    cases x1
    refine ⟨_, s1, _, a1, a2, fun c hc => a3 c (by omega), by rw [x2 11 (by omega), h6, vquiet_66], fun s1' h' => ?_⟩
    obtain ⟨s2, b1, b2, b3, -⟩ := q_quiet (x := a) h' hI (by omega)
    exact ⟨_, s2, b1, rfl, b2, RH.of b3⟩)
theorem lo6_join {a : Int32} (h : L6 F B s) (hF : F ≤ 1999990000) (hB : B ≤ 2147200000) : O6 F (B + 1) s (gX10_join s a) (fun s1 => gX11_join s1 a) Eq :=
  lo6_mk h (Nat.le_add_right _ _) (ok_im (oX10_join (by omega) h.1) (fun _ _ e => e.1)) (fun V hr hI hn h6 => by
    obtain ⟨s1, a1, a2, a3⟩ := c_joinop (x := a) hn
    obtain ⟨s1x, x1, x2⟩ := c_join6 (x := a) hn
    rw [a1] at x1
    cases x1
    refine ⟨_, s1, _, a1, a2, fun c hc => a3 c (by omega), by rw [x2 11 (by omega), h6, vjoin_66], fun s1' h' => ?_⟩
    obtain ⟨s2, b1, b2, b3, -⟩ := q_join (x := a) h' hI (by omega)
    exact ⟨_, s2, b1, rfl, b2, RH.of b3⟩)
theorem lo6_compact (h : L6 F B s) (hF : F ≤ 1999990000) (hB : B ≤ 2147200000) : O6 F (B + 256) s (gX10_compact s) (fun s1 => gX11_compact s1) Eq :=
  lo6_mk h (Nat.le_add_right _ _) (oX10_compact (by omega) h.1) (fun V hr hI hn h6 => by
    obtain ⟨s1, a1, a2, a3⟩ := c_compactop hn
    obtain ⟨s1x, x1, x2⟩ := c_compact6 hn
    rw [a1] at x1
    cases x1
    refine ⟨_, s1, _, a1, a2, fun c hc => a3 c (by omega), by rw [x2 11 (by omega), h6, vcm_ne (by omega) (by omega)], fun s1' h' => ?_⟩
    obtain ⟨s2, b1, b2, b3⟩ := q_compact h' hI (by omega)
    exact ⟨_, s2, b1, rfl, b2, RH.of b3⟩)
theorem lo6_deep {a : Int32} (h : L6 F B s) (hF : F ≤ 1999990000) : O6 F B s (gX10_deep s a) (fun s1 => gX11_deep s1 a) TR := lo6_pure h (oX10_deep (by omega) h.1) (fun V s1 a b => k_deep a b)
theorem lo6_need {a : Int32} (h : L6 F B s) (hF : F ≤ 1999990000) : O6 F B s (gX10_need s a) (fun s1 => gX11_need s1 a) TR := lo6_pure h (oX10_need (by omega) h.1) (fun V s1 a b => k_need a b)
theorem lo6_task {a b : Int32} (h : L6 F B s) (hF : F ≤ 1999990000) : O6 F B s (gX10_task s a b) (fun s1 => gX11_task s1 a b) TR := lo6_pure h (oX10_task (by omega) h.1) (fun V s1 a b => k_task a b)
theorem lo6_piece {a b c : Int32} (h : L6 F B s) (hF : F ≤ 1999990000) : O6 F B s (gX10_piece s a b c) (fun s1 => gX11_piece s1 a b c) TR := lo6_pure h (oX10_piece (by omega) h.1) (fun V s1 a b => k_piece a b)
theorem lo6_gap {a b : Int32} (h : L6 F B s) (hF : F ≤ 1999990000) : O6 F B s (gX10_gap s a b) (fun s1 => gX11_gap s1 a b) TR := lo6_pure h (oX10_gap (by omega) h.1) (fun V s1 g _ => by
  obtain ⟨v, e⟩ := k_gap (i := a) (what := b) g.2.2.1
  exact ⟨v, s1, e, RO.refl⟩)
theorem lo6_log {a b : Int32} (h : L6 F B s) (hB : B ≤ 2147200000) : O6 F B s (gX10_log s a b) (fun s1 => gX11_log s1 a b) TR := lo6_pure h (oX10_log h.1) (fun V s1 a b => k_log a b (by omega))
theorem lo6_count {a : Int32} (h : L6 F B s) (hF : F ≤ 1999990000) : O6 F B s (gX10_count s a) (fun s1 => gX11_count s1 a) TR := lo6_pure h (oX10_count (by omega) h.1) (fun V s1 a b => k_count)
theorem lo6_look {a : Int32} (h : L6 F B s) (hF : F ≤ 1999990000) : O6 F B s (gX10_look s a) (fun s1 => gX11_look s1 a) TR := lo6_pure h (oX10_look (by omega) h.1) (fun V s1 a b => k_look a)
theorem lo6_frame {a b c : Int32} (h : L6 F B s) (hF : F ≤ 1999990000) : O6 F B s (gX10_frame s a b c) (fun s1 => gX11_frame s1 a b c) TR := lo6_walk h (oX10_frame (by omega) h.1) (fX10_frame FR.refl) (fun V s1 a b => k_frame a b)
theorem lo6_slot {a b c d : Int32} (h : L6 F B s) (hF : F ≤ 1999990000) : O6 F B s (gX10_slot s a b c d) (fun s1 => gX11_slot s1 a b c d) TR := lo6_walk h (oX10_slot (by omega) h.1) (fX10_slot FR.refl) (fun V s1 a b => k_slot a b)
theorem lo6_never {a : Int32} (h : L6 F B s) (hF : F ≤ 1999990000) : O6 F B s (gX10_never s a) (fun s1 => gX11_never s1 a) Eq :=
  lo6_mk h (Nat.le_refl _) (oX10_never (by omega) h.1) (fun V hr hI hn h6 => by
    obtain ⟨s1, a1, a2⟩ := c_neverE (what := a) hn h6
    obtain ⟨⟨zs, fr, hR⟩, hI2, hW, hK, hT⟩ := id hn
    refine ⟨_, s1, V, a1, ⟨⟨zs, fr, hR.fw a2⟩, hI2, hW, fun j hj => by rw [a2 1 (by omega) (by omega) (by omega), a2 2 (by omega) (by omega) (by omega), a2 3 (by omega) (by omega) (by omega)]; exact hK j hj, fun k hk' => by rw [a2 _ (by omega) (by omega) (by omega)]; exact hT k hk'⟩, fun c hc => a2 c (by omega) (by omega) (by omega), by rw [a2 11 (by omega) (by omega) (by omega)]; exact h6, fun s1' h' => ?_⟩
    obtain ⟨s2, b1, b2⟩ := q_neverE (what := a) h' hI
    exact ⟨_, s2, b1, rfl, h'.ro b2, RH.of b2.1⟩)
theorem lo6_endless {a b c : Int32} (h : L6 F B s) (hF : F + 4001 ≤ 1999990000) : O6 (F + 4001) B s (gX10_endless s a b c) (fun s1 => gX11_endless s1 a b c) TR :=
  lo6_mk h (Nat.le_refl _) (oX10_endless hF h.1) (fun V hr hI hn h6 => by
    obtain ⟨s1, a1, a2, a3⟩ := c_endlessop (f := a) (a := b) (what := c) (Z := vZ) hn
    refine ⟨_, s1, _, a1, a2, fun c hc => a3 c (by omega), by rw [a3 11 (by omega)]; exact h6, fun s1' h' => ?_⟩
    obtain ⟨r2, s2, b1, b2, b3⟩ := k_endless (f := a) (a := b) (what := c) h' hI
    exact ⟨r2, s2, b1, trivial, b2, RH.of b3⟩)
theorem lo6_land {a b c : Int32} (h : L6 F B s) (hF : F + 400 ≤ 1999990000) (hB : B ≤ 2147200000) : O6 (F + 400) B s (gX10_land s a b c) (fun s1 => gX11_land s1 a b c) TR :=
  lo6_mk h (Nat.le_refl _) (oX10_land hF h.1) (fun V hr hI hn h6 => by
    obtain ⟨s1, a1, a2, a3⟩ := c_landop (x := a) (n := b) (what := c) (Z := vZ) hn
    refine ⟨_, s1, _, a1, a2, fun c hc => a3 c (by omega), by rw [a3 11 (by omega)]; exact h6, fun s1' h' => ?_⟩
    obtain ⟨r2, s2, b1, b2, b3⟩ := k_land (x := a) (n := b) (what := c) h' hI (by omega)
    exact ⟨r2, s2, b1, trivial, b2, b3⟩)
theorem lo6_alone {a b c d : Int32} (h : L6 F B s) (hF : F + 4001 ≤ 1999990000) (hB : B ≤ 2147200000) : O6 (F + 4001) B s (gX10_alone s a b c d) (fun s1 => gX11_alone s1 a b c d) TR :=
  lo6_mk h (Nat.le_refl _) (oX10_alone hF h.1) (fun V hr hI hn h6 => by
    obtain ⟨r, s1, a1, -⟩ := oX10_alone (i1 := a) (i2 := b) (i3 := c) (i4 := d) hF h.1
    obtain ⟨a2, a3⟩ := c_aloneop hn a1
    refine ⟨_, s1, _, a1, a2, fun c hc => a3 c (by omega), by rw [a3 11 (by omega)]; exact h6, fun s1' h' => ?_⟩
    obtain ⟨r2, s2, b1, b2, b3⟩ := k_alone (f := a) (a := b) (mode := c) (what := d) h' hI (by omega)
    exact ⟨r2, s2, b1, trivial, b2, b3⟩)
theorem lo6_image {a : Int32} (h : L6 F B s) : O6 F B s (gX10_image s a) (fun s1 => gX11_image s1 a) Eq := by
  obtain ⟨h1, h2, V, Vk, h3, h4, h5, h6, h7⟩ := h
  have hz : s 4 6 = 0 ∨ s 4 6 = 1 := by
    rw [h2]
    rcases h3.2.2 with e | e
    · exact Or.inl e
    · exact Or.inr e.1
  obtain ⟨r, s1, b1, b2, -⟩ := oX10_image (i1 := a) h1 hz
  obtain ⟨s1', a1, a2, a3, a4, a5⟩ := c_imageop (x := a) h4 h5
  rw [a1] at b1
  cases b1
  obtain ⟨s1x, x1, x2, x3⟩ := c_image6 (x := a) h4 h5 h6 h7
  rw [a1] at x1
  cases x1
  have hQ : RQ B s1 V Vk := ⟨⟨by rw [a5 110 (by omega)]; exact h3.1.1, by rw [a5 111 (by omega)]; exact h3.1.2⟩, h3.2.1, by rw [a5 110 (by omega), a5 113 (by omega)]; exact h3.2.2⟩
  obtain ⟨s2, c1, c2, c3, c4⟩ := k_image2 (a := a) hQ
  have e110 : s1 110 4 = s 4 6 := by rw [a5 110 (by omega)]; exact h2.symm
  rw [e110] at c1 c2 c3
  refine ⟨_, s1, _, s2, a1, a5 0 (Or.inr rfl), c1, rfl, b2.re c4, ?_, _, _, c2, a2.re1 c4, a3.keep (Nat.le_refl _) (fun c hc => c4 c (by omega)), ?_, ?_⟩
  · rw [c4 4 (by omega), c3, a4]
  · rw [c4 11 (by omega)]
    exact x2
  · rw [c4 4 (by omega), c4 75 (by omega)]
    exact x3
end
end
