section
/-! ===== the class: step and round ===== -/
/-- what is now: the picture, its rules; the rest of the class stands ready -/
def NW (B : Nat) (s : wt_S) (V : vV) : Prop := (∃ zs fr, RC 11 2048 s V zs fr) ∧ VI 2048 B V ∧ (∀ t, t < 6 → WL V t) ∧ KC s ∧ TN s
section
variable {B B' : Nat} {s s' : wt_S} {V V' : vV} {t f : Nat} {a : Int32} {Z : (Nat → Int32) → Int32 → Int32 → Int32 → Bool}
/-- of a busy task: its function stands in its row -/
theorem vlf_75 {lim : Nat} (hI : VI lim B V) (ht : t < 6) (hb : vbz V.1 t) : V.1 (3975 + t) = nI (vlf V t).1 ∧ 0 < V.2.2.1 t ∧ (vlf V t).1 < 10 := by
  obtain ⟨h0, hf⟩ := vbz_f hI ht hb
  obtain ⟨-, n, np, e1, e2, e3, e4, e5, e6, e7, e8, e9, e10, e11, e12, -⟩ := hI.bz ht h0
  refine ⟨?_, h0, hf⟩
  unfold vlf
  rw [e1, Nat.add_sub_cancel]
  exact e12
theorem WL.cls {b lim : Nat} {zs zs' : List (vP × Nat)} {fr fr' : List Nat} (h : WL V t) (hR : RC b lim s V zs fr) (hR' : RC b lim s' V' zs' fr') (hI : VI lim B V) (hI' : VI lim B' V') (ht : t < 6) (hT : s' (b + 17 + 2 * t) = s (b + 17 + 2 * t)) (hw : vpe V.1 V'.1) : WL V' t := fun e => by
  have e26 : V'.1 (3926 + t) = V.1 (3926 + t) := (hR'.at ht (e := (1, 3926)) (by decide)).symm.trans ((congrFun hT 1).trans (hR.at ht (e := (1, 3926)) (by decide)))
  have e2 : V.1 (3926 + t) = 2 := e26.symm.trans e
  obtain ⟨l, l1, l2, l3⟩ := h e2
  obtain ⟨a1, a2, a3⟩ := vlf_75 hI ht (Or.inr e2)
  obtain ⟨b1, b2, b3⟩ := vlf_75 hI' ht (Or.inr e)
  have e75 : V'.1 (3975 + t) = V.1 (3975 + t) := (hR'.at ht (e := (9, 3975)) (by decide)).symm.trans ((congrFun hT 9).trans (hR.at ht (e := (9, 3975)) (by decide)))
  have e68 : V'.1 (3968 + t) = V.1 (3968 + t) := ((hR'.2.2.2.1 t ht).2.1.2 b2).1.symm.trans ((congrFun hT 10).trans ((hR.2.2.2.1 t ht).2.1.2 a2).1)
  have ef : (vlf V' t).1 = (vlf V t).1 := (nI_inj (by omega) (by omega)).mp (b1.symm.trans (e75.trans a1))
  have hl := (hI.2.1.li a3).2
  exact ⟨l, e68.trans l1, by rw [ef, (hw.sz a3).2.2.1]; exact l2, by rw [ef, hw.co0 a3 (by omega)]; exact l3⟩
theorem KC.nf (h : KC s) (hf : NF s s') : KC s' := fun j hj => by rw [hf 1 (by omega), hf 2 (by omega), hf 3 (by omega)]; exact h j hj
theorem NW.mono (h : NW B s V) (hB : B ≤ B') : NW B' s V := ⟨h.1, h.2.1.mono hB, h.2.2⟩
/-- a step of a task -/
theorem nw_step (h : NW B s V) (ht : t < 6) (hb : vbz V.1 t) : ∃ s', gX2_makeStep 11 (11 + 17 + 2 * t) s = some ((), s') ∧ NW (B + 4) s' (vst 2048 Z V t) ∧ CF 11 s s' := by
  obtain ⟨⟨zs, fr, hR⟩, hI, hW, hK, hT⟩ := h
  obtain ⟨s', zs', fr', a1, a2, a3⟩ := c_step (Z := Z) hR cx11 hI ht hb (hW t ht)
  refine ⟨s', a1, ⟨⟨zs', fr', a2⟩, vi_st hI ht hb (by omega), fun t' ht' => ?_, hK.nf a3.2.n1, fun k hk => by rw [a3.2 _ (by omega)]; exact hT k hk⟩, a3.2⟩
  by_cases e : t' = t
  · subst e
    exact wl_st hI ht hb (hW t' ht') (by omega)
  · exact (hW t' ht').cls hR a2 hI (vi_st hI ht hb (by omega)) ht' (a3.1 t' ht' e).1 (pe_st hI ht hb (by omega))
/-- a thought changes nothing of it -/
theorem nw_think (h : NW B s V) (hf : f < 10) (hs1 : 1 ≤ vsz V.1 f) : ∃ s' zs' fr', gX10_thinkEndless s (nI f) a = some (57, s') ∧ NW B s' V ∧ (∀ c, c < 40 ∨ 68 < c → s' c = s c) ∧ RC 40 10000 s' (vET Z V.1 f a) zs' fr' := by
  obtain ⟨⟨zs, fr, hR⟩, hI, hW, hK, hT⟩ := h
  obtain ⟨s', zs', fr', a1, a2, a3, a4, a5⟩ := c_think (a := a) (Z := Z) hR.2.2.2.2.2 hI.2.1 hK hT hf hs1
  exact ⟨s', zs', fr', a1, ⟨⟨zs, fr, hR.eq cx11 (fun c _ _ _ _ hc => a4 c (by omega))⟩, hI, hW, hK.nf (fun c hc => a4 c (by omega)), a5⟩, a4, a2⟩
theorem nw_u8 (h : NW B s V) {v : Int32} : NW B (wt_u s 11 8 v) V := by
  obtain ⟨⟨zs, fr, hR⟩, hI, hW, hK, hT⟩ := h
  exact ⟨⟨zs, fr, hR.eq2 cx11 (fun c hc _ _ _ _ _ => wt_u_ne hc)⟩, hI, hW, fun j hj => by rw [wt_u_ne (by omega), wt_u_ne (by omega), wt_u_ne (by omega)]; exact hK j hj, fun k hk => by rw [wt_u_ne (by omega)]; exact hT k hk⟩
/-- a result is held against that of an endless stack: T is done -/
theorem nw_cmp (h : NW B s V) (ht : t < 6) (htl : tld V.1 (V.1 (4052 + t))) (hst : V.1 (3926 + t) = 3) : ∃ s', (wt_cl (gX10_thinkEndless s (s (11 + 17 + 2 * t) 15) (s (11 + 17 + 2 * t) 16)) fun a2 s1 => if a2 = 57 then (wt_cl (gX10_compareResults (11 + 17 + 2 * t) 57 s1) fun _ s3 => some ((), s3)) else none) = some ((), s') ∧ NW B s' V ∧ NF s s' := by
  have h' := h
  obtain ⟨⟨zs, fr, hR⟩, hI, hW, hK, hT⟩ := h'
  obtain ⟨f, f10, e1, -, e3⟩ := tld_nat htl
  have e15 : s (11 + 17 + 2 * t) 15 = nI f := ((hR.2.2.2.1 t ht).2.2.2.2.1 (by rw [hst]; decide)).trans e1
  obtain ⟨s1, zs1, fr1, a1, a2, a3, a4⟩ := nw_think (a := s (11 + 17 + 2 * t) 16) (Z := vZ) h f10 e3
  rw [e15, a1, cl_some, if_pos rfl]
  have hn : NF s s1 := fun c hc => a3 c (by omega)
  unfold gX10_compareResults
  by_cases c1 : s1 57 1 = 3
  · rw [if_neg (fun q => q c1)]
    by_cases c2 : s1 57 3 = s1 (11 + 17 + 2 * t) 3
    · rw [if_pos c2, cl_some]
      exact ⟨s1, rfl, a2, hn⟩
    · rw [if_neg c2, wr_eq, cl_some]
      exact ⟨_, rfl, nw_u8 a2, hn.trans (fun c hc => wt_u_ne (by omega))⟩
  · rw [if_pos c1, cl_some]
    exact ⟨s1, rfl, a2, hn⟩
theorem run_tld : ∀ {n : Nat} {B : Nat} {V : vV}, VI 2048 B V → t < 6 → tld V.1 (V.1 (4052 + t)) → tld (vrun Z t n V).2.1 ((vrun Z t n V).2.1 (4052 + t)) := by
  intro n
  induction n with
  | zero => intro B V hI ht h; exact h
  | succ n ih =>
    intro B V hI ht h
    unfold vrun
    by_cases c : vby V t = true
    · rw [if_pos c]
      have hb := vby_iff.mp c
      refine ih (B := B + 4) (vi_st hI ht hb (by omega)) ht ?_
      rw [(ke_st hI ht hb (by omega)).1]
      exact (pe_st hI ht hb (by omega)).tl.mpr h
    · rw [if_neg c]; exact h
theorem run_made {n : Nat} (hI : VI 2048 B V) (ht : t < 6) (h : 0 < (vrun Z t n V).1) : tld (vrun Z t n V).2.1 ((vrun Z t n V).2.1 (4052 + t)) := by
  refine run_tld hI ht ?_
  cases n with
  | zero => exact absurd h (Nat.lt_irrefl 0)
  | succ n =>
    unfold vrun at h
    by_cases c : vby V t = true
    · obtain ⟨np, z, z2, z3, k, l, -, -, -, -, -, -, -, -, hbg, -⟩ := hI.opn ht (vby_iff.mp c) (by omega)
      exact hbg
    · rw [if_neg c] at h
      exact absurd h (Nat.lt_irrefl 0)
theorem c_37 (ht : t < 6) : ∀ (r m fu B : Nat) (s : wt_S) (V : vV), r < fu → m + r < 100000 → NW B s V → ∃ s', gX10_step_37 fu s (nI (m + r)) (11 + 17 + 2 * t) (nI m) (nI m) = gX10_step_67 s' (11 + 17 + 2 * t) (nI (m + (vrun Z t r V).1)) ∧ NW (B + 4 * r) s' (vrun Z t r V).2 ∧ NF s s' := by
  intro r
  induction r with
  | zero =>
    intro m fu B s V hfu hm h
    obtain ⟨fu, rfl⟩ : ∃ k, fu = k + 1 := ⟨fu - 1, by omega⟩
    refine ⟨s, ?_, h, NF.refl⟩
    rw [gX10_step_37, if_pos (show (nI (m + 0)).toInt ≤ (nI m).toInt from Int.le_refl _)]
    rfl
  | succ r ih =>
    intro m fu B s V hfu hm h
    obtain ⟨fu, rfl⟩ : ∃ k, fu = k + 1 := ⟨fu - 1, by omega⟩
    obtain ⟨⟨zs, fr, hR⟩, -⟩ := id h
    rw [gX10_step_37, if_neg (by rw [nI_int (by omega), nI_int (by omega)]; omega), c_on hR ht, cl_some, if_rb]
    unfold vrun
    by_cases c : vby V t = true
    · rw [if_pos c, if_pos c]
      obtain ⟨s1, a1, a2, a3⟩ := nw_step (Z := Z) h ht (vby_iff.mp c)
      obtain ⟨s', b1, b2, b3⟩ := ih (m + 1) fu (B + 4) s1 (vst 2048 Z V t) (by omega) (by omega) a2
      rw [a1, cl_some, show nI m + 1 = nI (m + 1) from nI_add m 1, show m + (r + 1) = m + 1 + r by omega, b1]
      refine ⟨s', ?_, b2.mono (by omega), a3.n1.trans b3⟩
      rw [show m + 1 + (vrun Z t r (vst 2048 Z V t)).1 = m + ((vrun Z t r (vst 2048 Z V t)).1 + 1) by omega]
    · rw [if_neg c, if_neg c]
      exact ⟨s, rfl, h.mono (by omega), NF.refl⟩
theorem c_stepop {x n : Int32} (h : NW B s V) : ∃ s', gX10_step s x n = some ((vstep Z V x n).1, s') ∧ NW (B + 800) s' (vstep Z V x n).2 ∧ NF s s' := by
  unfold gX10_step
  rw [c_isTask, cl_some, if_rb]
  by_cases c1 : 0 ≤ x.toInt ∧ x.toInt ≤ 5
  · obtain ⟨t, ht, rfl, etn⟩ := i_task c1
    rw [if_pos c1]
    by_cases c2 : 1 ≤ n.toInt ∧ n.toInt ≤ 200
    · obtain ⟨m, m1, rfl, m3, m4⟩ := i_nat (x := n) (by omega)
      obtain ⟨s1, a1, a2, a3⟩ := c_37 (Z := Z) ht m 0 wt_N B s V (by unfold wt_N; omega) (by omega) h
      rw [Nat.zero_add, Nat.zero_add] at a1
      have a1 : gX10_step_37 wt_N s (nI m) (11 + 17 + 2 * t) 0 0 = gX10_step_67 s1 (11 + 17 + 2 * t) (nI (vrun Z t m V).1) := a1
      have hle := vrun_le (Z := Z) (t := t) (n := m) (V := V)
      rw [if_neg (show ¬ (nI m).toInt < (1 : Int32).toInt by show ¬ (nI m).toInt < 1; omega), if_pos (show (nI m).toInt ≤ (200 : Int32).toInt from c2.2), ix_nI ht (by omega), a1]
      have hv : vstep Z V (nI t) (nI m) = (nI (vrun Z t m V).1, (vrun Z t m V).2) := by unfold vstep; rw [if_pos ⟨c1, c2⟩, etn, m3]
      unfold gX10_step_67
      rw [hv]
      by_cases c3 : (vrun Z t m V).1 = 0
      · rw [if_pos (by rw [c3]; decide)]
        exact ⟨s1, rfl, a2.mono (by omega), a3⟩
      · rw [if_neg (by rw [nI_int (by omega), ci0]; omega)]
        obtain ⟨⟨zs1, fr1, hR1⟩, -⟩ := id a2
        have e1 : s1 (11 + 17 + 2 * t) 1 = (vrun Z t m V).2.1 (3926 + t) := hR1.at ht (e := (1, 3926)) (by decide)
        rw [e1]
        by_cases c4 : (vrun Z t m V).2.1 (3926 + t) = 3
        · rw [if_neg (fun q => q c4)]
          obtain ⟨s2, b1, b2, b3⟩ := nw_cmp a2 ht (run_made h.2.1 ht (by omega)) c4
          have key : (wt_cl (gX10_thinkEndless s1 (s1 (11 + 17 + 2 * t) 15) (s1 (11 + 17 + 2 * t) 16)) fun a2 s1 => if a2 = 57 then (wt_cl (gX10_compareResults (11 + 17 + 2 * t) 57 s1) fun _ s3 => some (nI (vrun Z t m V).1, s3)) else none) = some (nI (vrun Z t m V).1, s2) := by
            cases e : gX10_thinkEndless s1 (s1 (11 + 17 + 2 * t) 15) (s1 (11 + 17 + 2 * t) 16) with
            | none => rw [e] at b1; cases b1
            | some p =>
              obtain ⟨a, s3⟩ := p
              rw [e, cl_some] at b1
              rw [cl_some]
              by_cases ca : a = 57
              · rw [if_pos ca] at b1 ⊢
                cases e2 : gX10_compareResults (11 + 17 + 2 * t) 57 s3 with
                | none => rw [e2] at b1; cases b1
                | some p =>
                  obtain ⟨u4, s4⟩ := p
                  rw [e2, cl_some] at b1
                  rw [cl_some]
                  cases b1
                  rfl
              · rw [if_neg ca] at b1
                cases b1
          exact ⟨s2, key, b2.mono (by omega), a3.trans b3⟩
        · rw [if_pos c4]
          exact ⟨s1, rfl, a2.mono (by omega), a3⟩
    · have hv : vstep Z V (nI t) n = (-1, V) := by unfold vstep; rw [if_neg (fun e => c2 e.2)]
      rw [hv]
      refine ⟨s, ?_, h.mono (by omega), NF.refl⟩
      have q1 : (1 : Int32).toInt = 1 := by decide
      have q2 : (200 : Int32).toInt = 200 := by decide
      by_cases c3 : n.toInt < (1 : Int32).toInt
      · rw [if_pos c3]
      · rw [if_neg c3, if_neg (by rw [q2]; rw [q1] at c3; omega)]
  · have hv : vstep Z V x n = (-1, V) := by unfold vstep; rw [if_neg (fun e => c1 e.1)]
    rw [if_neg c1, hv]
    exact ⟨s, rfl, h.mono (by omega), NF.refl⟩
theorem c_39 {K : wt_S → Int32 → Int32 → Int32 → Option (Int32 × wt_S)} {l1 l3 : Int32} : ∀ (r t m fu B : Nat) (s : wt_S) (V : vV), r < fu → t + r = 6 → NW B s V → ∃ s', gX10_round_39 K fu s l1 (nI m) l3 6 (nI t) = K s' l1 (nI (vrn6 Z r t m V).1) (l3 + 1) ∧ NW (B + 4 * r) s' (vrn6 Z r t m V).2 ∧ NF s s' := by
  intro r
  induction r with
  | zero =>
    intro t m fu B s V hfu ht h
    obtain ⟨fu, rfl⟩ : ∃ k, fu = k + 1 := ⟨fu - 1, by omega⟩
    refine ⟨s, ?_, h, NF.refl⟩
    rw [gX10_round_39, if_pos (by rw [nI_int (by omega)]; show (6 : Int) ≤ _; omega)]
    rfl
  | succ r ih =>
    intro t m fu B s V hfu ht h
    obtain ⟨fu, rfl⟩ : ∃ k, fu = k + 1 := ⟨fu - 1, by omega⟩
    have ht6 : t < 6 := by omega
    obtain ⟨⟨zs, fr, hR⟩, -⟩ := id h
    rw [gX10_round_39, if_neg (by rw [nI_int (by omega)]; show ¬ (6 : Int) ≤ _; omega), ix_nI ht6 (by omega), c_on hR ht6, cl_some, if_rb, show nI t + 1 = nI (t + 1) from nI_add t 1]
    unfold vrn6
    have hrun : vrun Z t 1 V = if vby V t then (0 + 1, vst 2048 Z V t) else (0, V) := rfl
    by_cases c : vby V t = true
    · rw [if_pos c] at hrun
      rw [if_pos c, hrun]
      obtain ⟨s1, a1, a2, a3⟩ := nw_step (Z := Z) h ht6 (vby_iff.mp c)
      obtain ⟨⟨zs1, fr1, hR1⟩, -⟩ := id a2
      have e1 : s1 (11 + 17 + 2 * t) 1 = (vst 2048 Z V t).1 (3926 + t) := hR1.at ht6 (e := (1, 3926)) (by decide)
      rw [a1, cl_some, e1, show nI m + 1 = nI (m + 1) from nI_add m 1]
      by_cases c4 : (vst 2048 Z V t).1 (3926 + t) = 3
      · rw [if_neg (fun q => q c4)]
        have htl := run_made (Z := Z) (n := 1) h.2.1 ht6 (by rw [hrun]; exact Nat.lt_succ_self 0)
        rw [hrun] at htl
        obtain ⟨s2, b1, b2, b3⟩ := nw_cmp a2 ht6 htl c4
        obtain ⟨s', d1, d2, d3⟩ := ih (t + 1) (m + 1) fu (B + 4) s2 (vst 2048 Z V t) (by omega) (by omega) b2
        refine ⟨s', ?_, d2.mono (by omega), (a3.n1.trans b3).trans d3⟩
        rw [← d1]
        cases e : gX10_thinkEndless s1 (s1 (11 + 17 + 2 * t) 15) (s1 (11 + 17 + 2 * t) 16) with
        | none => rw [e] at b1; cases b1
        | some p =>
          obtain ⟨a, s3⟩ := p
          rw [e, cl_some] at b1
          rw [cl_some]
          by_cases ca : a = 57
          · rw [if_pos ca] at b1 ⊢
            cases e2 : gX10_compareResults (11 + 17 + 2 * t) 57 s3 with
            | none => rw [e2] at b1; cases b1
            | some p =>
              obtain ⟨u4, s4⟩ := p
              rw [e2, cl_some] at b1
              rw [cl_some]
              cases b1
              rfl
          · rw [if_neg ca] at b1
            cases b1
      · rw [if_pos c4]
        obtain ⟨s', d1, d2, d3⟩ := ih (t + 1) (m + 1) fu (B + 4) s1 (vst 2048 Z V t) (by omega) (by omega) a2
        exact ⟨s', d1, d2.mono (by omega), a3.n1.trans d3⟩
    · rw [if_neg c] at hrun
      rw [if_neg c, hrun]
      obtain ⟨s', d1, d2, d3⟩ := ih (t + 1) m fu B s V (by omega) (by omega) h
      exact ⟨s', d1, d2.mono (by omega), d3⟩
theorem c_17 : ∀ (r k m fu B N : Nat) (s : wt_S) (V : vV), r < fu → k + r = N → N ≤ 1000 → NW B s V → ∃ s', gX10_round_17 fu s (nI N) (nI m) (nI k) = some (nI (vrnd Z r m V).1, s') ∧ NW (B + 24 * r) s' (vrnd Z r m V).2 ∧ NF s s' := by
  intro r
  induction r with
  | zero =>
    intro k m fu B N s V hfu hk hN h
    obtain ⟨fu, rfl⟩ : ∃ k, fu = k + 1 := ⟨fu - 1, by omega⟩
    obtain rfl : k = N := by omega
    refine ⟨s, ?_, h, NF.refl⟩
    rw [gX10_round_17, if_pos (Int.le_refl _)]
    rfl
  | succ r ih =>
    intro k m fu B N s V hfu hk hN h
    obtain ⟨fu, rfl⟩ : ∃ k, fu = k + 1 := ⟨fu - 1, by omega⟩
    rw [gX10_round_17, if_neg (by rw [nI_int (by omega), nI_int (by omega)]; omega)]
    obtain ⟨s1, a1, a2, a3⟩ := c_39 (Z := Z) (K := gX10_round_17 fu) (l1 := nI N) (l3 := nI k) 6 0 m wt_N B s V (by unfold wt_N; omega) (by omega) h
    have a1 : gX10_round_39 (gX10_round_17 fu) wt_N s (nI N) (nI m) (nI k) 6 0 = _ := a1
    rw [a1, show nI k + 1 = nI (k + 1) from nI_add k 1]
    obtain ⟨s', b1, b2, b3⟩ := ih (k + 1) (vrn6 Z 6 0 m V).1 fu (B + 24) N s1 (vrn6 Z 6 0 m V).2 (by omega) (by omega) hN a2
    exact ⟨s', b1, b2.mono (by omega), a3.trans b3⟩
theorem c_roundop {n : Int32} (h : NW B s V) : ∃ s', gX10_round s n = some ((vround Z V n).1, s') ∧ NW (B + 2400) s' (vround Z V n).2 ∧ NF s s' := by
  have q1 : (1 : Int32).toInt = 1 := by decide
  have q2 : (100 : Int32).toInt = 100 := by decide
  unfold gX10_round
  by_cases c2 : 1 ≤ n.toInt ∧ n.toInt ≤ 100
  · obtain ⟨m, m1, rfl, m3, m4⟩ := i_nat (x := n) (by omega)
    obtain ⟨s', a1, a2, a3⟩ := c_17 (Z := Z) m 0 0 wt_N B m s V (by unfold wt_N; omega) (by omega) (by omega) h
    rw [if_neg (by rw [q1]; omega), if_pos (by rw [q2]; exact c2.2), show gX10_round_17 wt_N s (nI m) 0 0 = _ from a1]
    unfold vround
    rw [if_pos c2, m3]
    exact ⟨s', rfl, a2.mono (by omega), a3⟩
  · have hv : vround Z V n = (-1, V) := by unfold vround; rw [if_neg c2]
    rw [hv]
    refine ⟨s, ?_, h.mono (by omega), NF.refl⟩
    by_cases c3 : n.toInt < (1 : Int32).toInt
    · rw [if_pos c3]
    · rw [if_neg c3, if_neg (by rw [q2]; rw [q1] at c3; omega)]
end
end
section
/-! ===== the class: how deep the functions are ===== -/
theorem vdp_up {w : Nat → Int32} {f d : Nat} : ∀ {k m : Nat}, vdp w m f = some d → vdp w (m + k) f = some d := by
  intro k
  induction k with
  | zero => intro m h; exact h
  | succ k ih => intro m h; exact vdp_mono (ih h)
theorem vdp_ten {w : Nat → Int32} {f m d : Nat} (hf : f < 10) (h : vdp w m f = some d) : vdp w 10 f = some d := by
  by_cases c : m ≤ 10
  · have := vdp_up (k := 10 - m) h
    rw [show m + (10 - m) = 10 by omega] at this
    exact this
  · cases e : vdp w 10 f with
    | none =>
      have := vEnd_none ((vdp_end hf).mp e) m
      rw [this] at h
      cases h
    | some d' =>
      have := vdp_up (k := m - 10) e
      rw [show 10 + (m - 10) = m by omega] at this
      exact this.symm.trans h
theorem vdl_none {w : Nat → Int32} {D : Nat → Option Nat} {f k : Nat} (h : vdl w D f k = none) : ∀ {m : Nat}, vdl w D f (k + m) = none := by
  intro m
  induction m with
  | zero => exact h
  | succ m ih =>
    show vdl w D f (k + m + 1) = none
    rw [vdl_succ, ih]
    rfl
/-- who is known stays known -/
theorem vdl_imp {w : Nat → Int32} {D E : Nat → Option Nat} {f : Nat} (hE : ∀ g d, g < 10 → 1 ≤ vsz w g → D g = some d → E g = some d) : ∀ {k m : Nat}, vdl w D f k = some m → vdl w E f k = some m := by
  intro k
  induction k with
  | zero => intro m h; exact h
  | succ k ih =>
    intro m h
    rw [vdl_succ] at h ⊢
    cases e : vdl w D f k with
    | none => rw [e] at h; cases h
    | some a =>
      rw [e, Option.bind_some] at h
      rw [ih e, Option.bind_some]
      by_cases c : tld w (vcal w f k)
      · rw [if_pos c] at h ⊢
        obtain ⟨g, g1, g2, g3, g4⟩ := tld_nat c
        rw [g3] at h ⊢
        cases e2 : D g with
        | none => rw [e2] at h; cases h
        | some d =>
          rw [e2] at h
          rw [hE g d g1 g4 e2]
          exact h
      · rw [if_neg c] at h ⊢
        exact h
/-- all of the program but the depths -/
def RPp (q : Nat) (s : wt_S) (w : Nat → Int32) : Prop := (∀ f, f < 10 → s (q + 1) f = w (2228 + f) ∧ s (q + 2) f = w (2238 + f) ∧ s (q + 3) f = w (2248 + f)) ∧ ∀ j, j < 640 → s (q + 4) j = w (2258 + j)
theorem RP.p {q : Nat} {s : wt_S} {w : Nat → Int32} (h : RP q s w) : RPp q s w := ⟨fun f hf => ⟨(h.1 f hf).1, (h.1 f hf).2.1, (h.1 f hf).2.2.1⟩, h.2⟩
section
variable {q : Nat} {s s' : wt_S} {w : Nat → Int32} {f l k : Nat} {D : Nat → Option Nat}
theorem RPp.eq (h : RPp q s w) (he : ∀ c, c ≠ q + 5 → s' c = s c) : RPp q s' w := ⟨fun f hf => by rw [he _ (by omega), he _ (by omega), he _ (by omega)]; exact h.1 f hf, fun j hj => by rw [he _ (by omega)]; exact h.2 j hj⟩
theorem pp_size (h : RPp q s w) (hf : f < 10) : gX6_sizeOf q s (nI f) = some (w (2228 + f), s) := by
  unfold gX6_sizeOf
  rw [if_neg (c_lo (by omega)), if_neg (by rw [nI_int (by omega), ci9]; omega), ix_nI hf (by omega), (h.1 f hf).1]
theorem pp_words (h : RPp q s w) (hp : Ipr w) (hf : f < 10) : gX6_frameWords q s (nI f) = some (nI (vwd w f), s) := by
  unfold gX6_frameWords
  rw [pp_size h hf, cl_some, Int32.add_comm, (hp.wd hf).1]
theorem pp_part (h : RPp q s w) (hp : Ipr w) (hf : f < 10) (hl : l < vli w f) {j : Nat} (hj : j < 4) : gX6_part q s (nI f) (nI l) (nI j) = some (w (vco f l + j), s) := by
  have hli := hp.li hf
  unfold gX6_part
  rw [if_neg (c_lo (by omega)), if_neg (by rw [nI_int (by omega), ci9]; omega), if_neg (c_lo (by omega)), ix_nI hf (by omega), (h.1 f hf).2.2, hli.1, if_pos (by rw [nI_int (by omega), nI_int (by omega)]; omega)]
  rw [show (nI f * 16 + nI l) * 4 + nI j = nI ((f * 16 + l) * 4 + j) by rw [li_mul2, nI_add, li_mul2, nI_add]]
  rw [if_neg (c_lo (by omega)), if_neg (by rw [nI_int (by omega)]; show ¬ (640 : Int) ≤ _; omega), ix_nI (by omega) (by omega), h.2 _ (by omega)]
  unfold vco
  rw [show 2258 + ((f * 16 + l) * 4 + j) = 2258 + 4 * (16 * f + l) + j by omega]
theorem pp_lines (h : RPp q s w) (hf : f < 10) : gX6_linesOf q s (nI f) = some (w (2248 + f), s) := by
  unfold gX6_linesOf
  rw [c_isFunction, cl_some, if_rb, if_pos (by rw [nI_int (by omega)]; omega), ix_nI hf (by omega), (h.1 f hf).2.2]
theorem pp_called (h : RPp q s w) (hp : Ipr w) (hf : f < 10) (hl : l < vli w f) : gX6_calledBy q s (nI f) (nI l) = some (vcal w f l, s) := by
  have p0 := pp_part (j := 0) h hp hf hl (by omega)
  have p1 := pp_part (j := 1) h hp hf hl (by omega)
  have p2 := pp_part (j := 2) h hp hf hl (by omega)
  unfold gX6_calledBy vcal
  rw [show gX6_part q s (nI f) (nI l) 0 = some (w (vco f l), s) from p0, cl_some]
  by_cases c6 : w (vco f l) = 6
  · rw [if_neg (fun e => e c6), if_pos c6, show gX6_part q s (nI f) (nI l) 1 = some (w (vco f l + 1), s) from p1, cl_some]
  · rw [if_pos c6, if_neg c6]
    by_cases c9 : w (vco f l) = 9
    · rw [if_neg (fun e => e c9), if_pos c9, show gX6_part q s (nI f) (nI l) 2 = some (w (vco f l + 2), s) from p2, cl_some]
    · rw [if_pos c9, if_neg c9]
/-- the depths found so far -/
def XD (q : Nat) (s : wt_S) (w : Nat → Int32) (D : Nat → Option Nat) : Prop := (∀ f, f < 10 → s (q + 5) f = if 1 ≤ vsz w f then vdI (D f) else 0) ∧ ∀ f d, f < 10 → D f = some d → d ≤ 100
theorem pp_deep (hX : XD q s w D) {x : Int32} : gX6_deepOf q s x = some (if tld w x then vdI (D x.toInt.toNat) else 0, s) := by
  unfold gX6_deepOf
  rw [c_isFunction, cl_some, if_rb]
  by_cases c : 0 ≤ x.toInt ∧ x.toInt ≤ 9
  · obtain ⟨f, h1, rfl, h3, h4⟩ := i_nat (x := x) c.1
    have hf : f < 10 := by omega
    have htl : tld w (nI f) ↔ 1 ≤ vsz w f := by
      unfold vsz
      constructor
      · intro q
        have := q.2
        rw [h3] at this
        omega
      · intro q
        exact ⟨c, by rw [h3]; omega⟩
    rw [if_pos c, ix_nI hf (by omega), hX.1 f hf]
    by_cases c2 : 1 ≤ vsz w f
    · rw [if_pos c2, if_pos (htl.mpr c2), h3]
    · rw [if_neg c2, if_neg (fun q => c2 (htl.mp q))]
  · rw [if_neg c, if_neg (fun q => c q.1)]
theorem vdI_n {d : Nat} (h : d ≤ 100) : vdI (some d) ≠ -2 := by
  show nI d ≠ -2
  intro e
  have := congrArg Int32.toInt e
  rw [nI_int (by omega)] at this
  have e2 : (-2 : Int32).toInt = -2 := by decide
  omega
theorem c_lines (h : RPp q s w) (hp : Ipr w) (hf : f < 10) (hX : XD q s w D) : ∀ (m k g fu : Nat), k + m = vli w f → m < fu → vdl w D f k = some g → g ≤ 100 → ∃ o : Option Nat, gX6_deepByLines_4 q fu s (nI f) (nI g) (nI k) = some (vdI (o.map (fun d => vwd w f + d)), s) ∧ vdl w D f (vli w f) = o ∧ ∀ d, o = some d → d ≤ 100 := by
  have hli := hp.li hf
  intro m
  induction m with
  | zero =>
    intro k g fu hk hfu hg hg1
    obtain ⟨fu, rfl⟩ : ∃ k, fu = k + 1 := ⟨fu - 1, by omega⟩
    obtain rfl : k = vli w f := by omega
    refine ⟨some g, ?_, hg, fun d e => by cases e; exact hg1⟩
    rw [gX6_deepByLines_4, pp_lines h hf, cl_some, hli.1, if_pos (Int.le_refl _), pp_words h hp hf, cl_some, nI_add]
    rfl
  | succ m ih =>
    intro k g fu hk hfu hg hg1
    obtain ⟨fu, rfl⟩ : ∃ k, fu = k + 1 := ⟨fu - 1, by omega⟩
    rw [gX6_deepByLines_4, pp_lines h hf, cl_some, hli.1, if_neg (by rw [nI_int (by omega), nI_int (by omega)]; omega), pp_called h hp hf (by omega), cl_some, pp_deep hX, cl_some]
    have hs : vdl w D f (k + 1) = if tld w (vcal w f k) then (D (vcal w f k).toInt.toNat).map (fun d => max g d) else some g := by rw [vdl_succ, hg, Option.bind_some]
    by_cases c : tld w (vcal w f k)
    · obtain ⟨x, g1, g2, g3, g4⟩ := tld_nat c
      rw [if_pos c, g3] at hs ⊢
      cases e : D x with
      | none =>
        rw [e] at hs
        refine ⟨none, ?_, ?_, fun d e => by cases e⟩
        · rw [if_neg (fun q => q rfl)]
          rfl
        · have := vdl_none (m := vli w f - (k + 1)) hs
          rw [show k + 1 + (vli w f - (k + 1)) = vli w f by omega] at this
          exact this
      | some d =>
        have hd := hX.2 x d g1 e
        rw [e] at hs
        rw [if_pos (vdI_n hd), show vdI (some d) = nI d from rfl, c_max (by omega) (by omega), cl_some, show nI k + 1 = nI (k + 1) from nI_add k 1]
        exact ih (k + 1) (max d g) fu (by omega) (by omega) (by rw [hs, Nat.max_comm]; rfl) (by omega)
    · rw [if_neg c] at hs ⊢
      rw [if_pos (by decide), show (0 : Int32) = nI 0 from rfl, c_max (by omega) (by omega), cl_some, show nI k + 1 = nI (k + 1) from nI_add k 1, Nat.zero_max]
      exact ih (k + 1) g fu (by omega) (by omega) hs hg1
/-- what is found is right; what can be found in so many rounds is found -/
def DS (w : Nat → Int32) (D : Nat → Option Nat) : Prop := ∀ f d, f < 10 → D f = some d → vdp w 10 f = some d
def DP (w : Nat → Int32) (D : Nat → Option Nat) (r f : Nat) : Prop := 1 ≤ vsz w f → ∀ d, vdp w r f = some d → D f = some d
theorem c_fd45 {K : wt_S → Int32 → Option (Unit × wt_S)} {l1 : Int32} {r : Nat} (hp : Ipr w) : ∀ (m k fu : Nat) (s : wt_S) (D : Nat → Option Nat), k + m = 10 → m < fu → RPp q s w → XD q s w D → DS w D → (∀ f, f < 10 → DP w D r f) → (∀ f, f < k → DP w D (r + 1) f) →
    ∃ s' D', gX6_findDeeps_45 q K fu s l1 (nI k) = K s' (l1 + 1) ∧ (∀ c, c ≠ q + 5 → s' c = s c) ∧ XD q s' w D' ∧ DS w D' ∧ ∀ f, f < 10 → DP w D' (r + 1) f := by
  intro m
  induction m with
  | zero =>
    intro k fu s D hk hfu h hX hS h1 h2
    obtain ⟨fu, rfl⟩ : ∃ k, fu = k + 1 := ⟨fu - 1, by omega⟩
    refine ⟨s, D, ?_, fun _ _ => rfl, hX, hS, fun f hf => h2 f (by omega)⟩
    rw [gX6_findDeeps_45, if_pos (by rw [nI_int (by omega)]; show (10 : Int) ≤ _; omega)]
  | succ m ih =>
    intro k fu s D hk hfu h hX hS h1 h2
    obtain ⟨fu, rfl⟩ : ∃ k, fu = k + 1 := ⟨fu - 1, by omega⟩
    have hk10 : k < 10 := by omega
    rw [gX6_findDeeps_45, if_neg (by rw [nI_int (by omega)]; show ¬ (10 : Int) ≤ _; omega), ix_nI hk10 (by omega), hX.1 k hk10, show nI k + 1 = nI (k + 1) from nI_add k 1]
    have skip : (1 ≤ vsz w k → ∃ d, D k = some d) → ∃ s' D', gX6_findDeeps_45 q K fu s l1 (nI (k + 1)) = K s' (l1 + 1) ∧ (∀ c, c ≠ q + 5 → s' c = s c) ∧ XD q s' w D' ∧ DS w D' ∧ ∀ f, f < 10 → DP w D' (r + 1) f := fun hq => by
      refine ih (k + 1) fu s D (by omega) (by omega) h hX hS h1 (fun f hf => ?_)
      by_cases c : f = k
      · subst c
        intro hs d hd
        obtain ⟨d', e⟩ := hq hs
        have a1 := vdp_ten hk10 hd
        have a2 := hS f d' hk10 e
        rw [a1] at a2
        rw [e, ← a2]
      · exact h2 f (by omega)
    by_cases c1 : 1 ≤ vsz w k
    · rw [if_pos c1]
      cases e : D k with
      | some d =>
        rw [if_pos (vdI_n (hX.2 k d hk10 e))]
        exact skip (fun _ => ⟨d, e⟩)
      | none =>
        rw [if_neg (fun q => q rfl)]
        obtain ⟨o, a1, a2, a3⟩ := c_lines h hp hk10 hX (vli w k) 0 0 wt_N (by omega) (by unfold wt_N; have := (hp.li hk10).2; omega) rfl (by omega)
        unfold gX6_deepByLines
        rw [show gX6_deepByLines_4 q wt_N s (nI k) 0 0 = _ from a1, cl_some, ix_nI hk10 (by omega), wr_eq]
        have hwd := (hp.wd hk10).2
        have key : ∀ d, o.map (fun d => vwd w k + d) = some d → vdp w 10 k = some d := fun d hd => by
          cases o with
          | none => cases hd
          | some m0 =>
            have hv := vdl_imp (E := vdp w 10) (fun g d g1 g2 g3 => hS g d g1 g3) a2
            have h11 : vdp w (10 + 1) k = some d := by rw [vdp_succ, hv]; exact hd
            exact vdp_ten hk10 h11
        have hle : ∀ d, o.map (fun d => vwd w k + d) = some d → d ≤ 100 := fun d hd => (vdp_le hp hk10 (key d hd)).2
        obtain ⟨D2, e5, e6⟩ : ∃ D2 : Nat → Option Nat, D2 k = o.map (fun d => vwd w k + d) ∧ ∀ f, f ≠ k → D2 f = D f := ⟨fun f => if f = k then o.map (fun d => vwd w k + d) else D f, if_pos rfl, fun f c => if_neg c⟩
        have hold : ∀ g d, D g = some d → D2 g = some d := fun g d hd => by
          by_cases c : g = k
          · subst c; rw [e] at hd; cases hd
          · rw [e6 g c]; exact hd
        have hX2 : XD q (wt_u s (q + 5) k (vdI (o.map (fun d => vwd w k + d)))) w D2 := ⟨fun f hf => by
          by_cases c : f = k
          · subst c
            rw [wt_u_self, if_pos c1, e5]
          · rw [wt_u_nk c, hX.1 f hf, e6 f c], fun f d hf hd => by
          by_cases c : f = k
          · subst c
            rw [e5] at hd
            exact hle d hd
          · rw [e6 f c] at hd
            exact hX.2 f d hf hd⟩
        have hS2 : DS w D2 := fun f d hf hd => by
          by_cases c : f = k
          · subst c
            rw [e5] at hd
            exact key d hd
          · rw [e6 f c] at hd
            exact hS f d hf hd
        have h22 : ∀ f, f < k + 1 → DP w D2 (r + 1) f := fun f hf => by
          by_cases c : f = k
          · subst c
            intro hs d hd
            rw [e5]
            rw [vdp_succ] at hd
            cases e3 : vdl w (vdp w r) f (vli w f) with
            | none => rw [e3] at hd; cases hd
            | some m0 =>
              rw [e3] at hd
              have := vdl_imp (E := D) (fun g d g1 g2 g3 => h1 g g1 g2 d g3) e3
              rw [a2] at this
              rw [this]
              exact hd
          · intro hs d hd
            exact hold f d (h2 f (by omega) hs d hd)
        obtain ⟨s', D', b1, b2, b3⟩ := ih (k + 1) fu _ D2 (by omega) (by omega) (h.eq (fun c hc => wt_u_ne hc)) hX2 hS2 (fun f hf hs d hd => hold f d (h1 f hf hs d hd)) h22
        exact ⟨s', D', b1, fun c hc => by rw [b2 c hc, wt_u_ne hc], b3⟩
    · rw [if_neg c1, if_pos (by decide)]
      exact skip (fun hq => absurd hq c1)
theorem c_fd37 (hp : Ipr w) : ∀ (m r fu : Nat) (s : wt_S) (D : Nat → Option Nat), r + m = 10 → m < fu → RPp q s w → XD q s w D → DS w D → (∀ f, f < 10 → DP w D r f) → ∃ s', gX6_findDeeps_37 q fu s (nI r) = some ((), s') ∧ (∀ c, c ≠ q + 5 → s' c = s c) ∧ RP q s' w := by
  intro m
  induction m with
  | zero =>
    intro r fu s D hr hfu h hX hS h1
    obtain ⟨fu, rfl⟩ : ∃ k, fu = k + 1 := ⟨fu - 1, by omega⟩
    have hr10 : r = 10 := by omega
    subst hr10
    refine ⟨s, ?_, fun _ _ => rfl, fun f hf => ⟨(h.1 f hf).1, (h.1 f hf).2.1, (h.1 f hf).2.2, ?_⟩, h.2⟩
    · rw [gX6_findDeeps_37, if_pos (by rw [nI_int (by omega)]; show (10 : Int) ≤ _; omega)]
    · rw [hX.1 f hf]
      by_cases c : 1 ≤ vsz w f
      · rw [if_pos c, if_pos c]
        cases e : vdp w 10 f with
        | some d => rw [h1 f hf c d e]
        | none =>
          cases e2 : D f with
          | none => rfl
          | some d =>
            have := hS f d hf e2
            rw [e] at this
            cases this
      · rw [if_neg c, if_neg c]
  | succ m ih =>
    intro r fu s D hr hfu h hX hS h1
    obtain ⟨fu, rfl⟩ : ∃ k, fu = k + 1 := ⟨fu - 1, by omega⟩
    rw [gX6_findDeeps_37, if_neg (by rw [nI_int (by omega)]; show ¬ (10 : Int) ≤ _; omega)]
    obtain ⟨s1, D1, a1, a2, a3, a4, a5⟩ := c_fd45 (K := gX6_findDeeps_37 q fu) (l1 := nI r) (r := r) hp 10 0 wt_N s D (by omega) (by unfold wt_N; omega) h hX hS h1 (fun f hf => by omega)
    rw [show gX6_findDeeps_45 q (gX6_findDeeps_37 q fu) wt_N s (nI r) 0 = _ from a1, show nI r + 1 = nI (r + 1) from nI_add r 1]
    obtain ⟨s', b1, b2, b3⟩ := ih (r + 1) fu s1 D1 (by omega) (by omega) (h.eq a2) a3 a4 a5
    exact ⟨s', b1, fun c hc => (b2 c hc).trans (a2 c hc), b3⟩
theorem c_deeps (h : RPp q s w) (hp : Ipr w) : ∃ s', gX6_findDeeps q s = some ((), s') ∧ (∀ c, c ≠ q + 5 → s' c = s c) ∧ RP q s' w := by
  have loop : ∀ (m k fu : Nat) (s : wt_S), k + m = 10 → m < fu → RPp q s w → (∀ f, f < k → s (q + 5) f = if 1 ≤ vsz w f then -2 else 0) → ∃ s', gX6_findDeeps_2 q fu s (nI k) = some ((), s') ∧ (∀ c, c ≠ q + 5 → s' c = s c) ∧ RP q s' w := by
    intro m
    induction m with
    | zero =>
      intro k fu s hk hfu h h1
      obtain ⟨fu, rfl⟩ : ∃ k, fu = k + 1 := ⟨fu - 1, by omega⟩
      rw [gX6_findDeeps_2, if_pos (by rw [nI_int (by omega)]; show (10 : Int) ≤ _; omega)]
      exact c_fd37 hp 10 0 wt_N s (fun _ => none) (by omega) (by unfold wt_N; omega) h ⟨fun f hf => by rw [h1 f (by omega)]; rfl, fun f d _ e => by cases e⟩ (fun f d _ e => by cases e) (fun f hf hs d hd => by rw [vdp] at hd; cases hd)
    | succ m ih =>
      intro k fu s hk hfu h h1
      obtain ⟨fu, rfl⟩ : ∃ k, fu = k + 1 := ⟨fu - 1, by omega⟩
      have hk10 : k < 10 := by omega
      have hz := hp.sz hk10
      rw [gX6_findDeeps_2, if_neg (by rw [nI_int (by omega)]; show ¬ (10 : Int) ≤ _; omega), ix_nI hk10 (by omega), (h.1 k hk10).1, hz.1]
      have go : ∀ v : Int32, v = (if 1 ≤ vsz w k then -2 else 0) → ∃ s', gX6_findDeeps_28 q (gX6_findDeeps_2 q fu) s (nI k) (nI k) v = some ((), s') ∧ (∀ c, c ≠ q + 5 → s' c = s c) ∧ RP q s' w := fun v hv => by
        unfold gX6_findDeeps_28
        rw [ix_nI hk10 (by omega), wr_eq, show nI k + 1 = nI (k + 1) from nI_add k 1]
        obtain ⟨s', b1, b2, b3⟩ := ih (k + 1) fu (wt_u s (q + 5) k v) (by omega) (by omega) (h.eq (fun c hc => wt_u_ne hc)) (fun f hf => by
          by_cases c : f = k
          · subst c
            rw [wt_u_self]; exact hv
          · rw [wt_u_nk c]
            exact h1 f (by omega))
        exact ⟨s', b1, fun c hc => by rw [b2 c hc, wt_u_ne hc], b3⟩
      by_cases c : 1 ≤ vsz w k
      · rw [if_neg (by rw [nI_int (by omega), ci0]; omega)]
        exact go (-2) (by rw [if_pos c])
      · rw [if_pos (by rw [nI_int (by omega), ci0]; omega)]
        exact go 0 (by rw [if_neg c])
  exact loop 10 0 wt_N s (by omega) (by unfold wt_N; omega) h (fun f hf => by omega)
end
end
section
/-! ===== the class: what is told ===== -/
section
variable {b lim q B : Nat} {s s' : wt_S} {V V' : vV} {zs zs' : List (vP × Nat)} {fr fr' : List Nat} {t f : Nat} {w : Nat → Int32}
/-- nobody is busy: what is told changes -/
theorem RC.re (h : RC b lim s V zs fr) (hn : ∀ t, t < 6 → V.2.2.1 t = 0) (hps : V.2.1 = []) (e2 : V'.2 = V.2) (hv : ∀ i, 3926 ≤ i → V'.1 i = V.1 i) (hc : ∀ c, (b + 2 ≤ c ∧ c ≤ b + 8) ∨ (b + 17 ≤ c ∧ c ≤ b + 28) → s' c = s c) (hg : CG b s' V'.1) (hr : RP 5 s' V'.1) : RC b lim s' V' zs fr := by
  have hz : zs = [] := by
    have := h.1
    rw [hps] at this
    exact List.map_eq_nil_iff.mp this
  subst hz
  obtain ⟨W, R⟩ := V'
  have e2 : R = V.2 := e2
  subst e2
  refine ⟨h.1, h.2.1.eq (fun c hc' => hc c (by omega)), hg, fun k hk => ?_, fun k hk i hi => ?_, hr⟩
  · obtain ⟨⟨a0, a1, a2⟩, ⟨l1, -⟩, ⟨p1, -⟩, ⟨-, r2⟩, g, -⟩ := h.2.2.2.1 k hk
    have eT := hc (b + 17 + 2 * k) (by omega)
    have eS := hc (b + 17 + 2 * k + 1) (by omega)
    have hv : ∀ i, 3926 ≤ i → W i = V.1 i := hv
    refine ⟨⟨by rw [eT]; exact a0, fun e he => ?_, fun e he => ?_⟩, ⟨fun e => by rw [eT]; exact l1 e, fun e => ?_⟩, ⟨fun e => ?_, fun z hz => by cases hz⟩, ⟨fun z hz => (by cases hz), fun e => by rw [eT]; exact r2 e⟩, fun e => ?_, fun z hz => by cases hz⟩
    · rw [eT]; exact (a1 e he).trans (hv _ (by have := tf_p e he; omega)).symm
    · rw [eS]; exact (a2 e he).trans (hv _ (by have := ts_p e he; omega)).symm
    · have e : 0 < V.2.2.1 k := e
      rw [hn k hk] at e
      omega
    · rw [eT]
      have e : W (4066 + k) = 0 := e
      rw [hv _ (by omega)] at e
      exact p1 e
    · have e : W (3926 + k) ≠ 0 := e
      rw [hv _ (by omega)] at e
      rw [eT]
      exact (g e).trans (hv _ (by omega)).symm
  · have hi : i < V.2.2.1 k := hi
    rw [hn k hk] at hi
    omega
theorem NW.re (h : NW B s V) (hn : vab V 6 0 = false) (hI' : VI 2048 B V') (e2 : V'.2 = V.2) (hv : ∀ i, 3926 ≤ i → V'.1 i = V.1 i) (hc : ∀ c, ¬ (c = 6 ∨ c = 7 ∨ c = 8 ∨ c = 9 ∨ c = 10 ∨ c = 12) → s' c = s c) (hg : CG 11 s' V'.1) (hr : RP 5 s' V'.1) : NW B s' V' := by
  obtain ⟨⟨zs, fr, hR⟩, hI, hW, hK, hT⟩ := h
  obtain ⟨n1, n2⟩ := hI.non hn
  refine ⟨⟨zs, fr, hR.re (fun t ht => (n2 t ht).1) n1 e2 hv (fun c hc' => hc c (by omega)) hg hr⟩, hI', fun t ht => WL.no ?_, fun j hj => by rw [hc 1 (by omega), hc 2 (by omega), hc 3 (by omega)]; exact hK j hj, fun k hk => by rw [hc _ (by omega)]; exact hT k hk⟩
  rw [hv _ (by omega)]
  intro e
  have := vab_f hn t (by omega) (by omega)
  rw [vby_iff.mpr (Or.inr e)] at this
  cases this
theorem c_that (h : RC b lim s V zs fr) {v : Int32} : ∀ (m k fu n : Nat), k + m = 6 → m < fu → n ≤ k → ∃ j, n ≤ j ∧ j ≤ 6 ∧ gX9_tasksThatAre_14 b fu s v (nI n) 6 (nI k) = some (nI j, s) ∧ (j = n ↔ ∀ i, k ≤ i → i < 6 → V.1 (3926 + i) ≠ v) := by
  intro m
  induction m with
  | zero =>
    intro k fu n hk hfu hn
    obtain ⟨fu, rfl⟩ : ∃ k, fu = k + 1 := ⟨fu - 1, by omega⟩
    refine ⟨n, Nat.le_refl _, by omega, ?_, ⟨fun _ i h1 h2 => by omega, fun _ => rfl⟩⟩
    rw [gX9_tasksThatAre_14, if_pos (by rw [nI_int (by omega)]; show (6 : Int) ≤ _; omega)]
  | succ m ih =>
    intro k fu n hk hfu hn
    obtain ⟨fu, rfl⟩ : ∃ k, fu = k + 1 := ⟨fu - 1, by omega⟩
    have e : s (b + 17 + 2 * k) 1 = V.1 (3926 + k) := h.at (by omega) (e := (1, 3926)) (by decide)
    rw [gX9_tasksThatAre_14, if_neg (by rw [nI_int (by omega)]; show ¬ (6 : Int) ≤ _; omega), ix_nI (by omega) (by omega), e]
    unfold gX9_tasksThatAre_42
    by_cases c : V.1 (3926 + k) = v
    · obtain ⟨j, j1, j2, j3, j4⟩ := ih (k + 1) fu (n + 1) (by omega) (by omega) (by omega)
      rw [if_neg (fun q => q c), show nI n + 1 = nI (n + 1) from nI_add n 1, show nI k + 1 = nI (k + 1) from nI_add k 1]
      exact ⟨j, by omega, j2, j3, ⟨fun q => by omega, fun q => absurd c (q k (Nat.le_refl _) (by omega))⟩⟩
    · obtain ⟨j, j1, j2, j3, j4⟩ := ih (k + 1) fu n (by omega) (by omega) (by omega)
      rw [if_pos c, show nI n + 0 = nI n from nI_add n 0, show nI k + 1 = nI (k + 1) from nI_add k 1]
      refine ⟨j, j1, j2, j3, j4.trans ⟨fun q i i1 i2 => ?_, fun q i i1 i2 => q i (by omega) i2⟩⟩
      by_cases ei : i = k
      · subst ei; exact c
      · exact q i (by omega) i2
theorem vab_i : ∀ {r t : Nat}, vab V r t = true ↔ ∃ j, t ≤ j ∧ j < t + r ∧ vby V j = true := by
  intro r
  induction r with
  | zero => intro t; exact ⟨fun h => (by cases h), fun ⟨j, h1, h2, _⟩ => (by omega)⟩
  | succ r ih =>
    intro t
    unfold vab
    rw [Bool.or_eq_true, ih]
    constructor
    · rintro (h | ⟨j, h1, h2, h3⟩)
      · exact ⟨t, Nat.le_refl _, by omega, h⟩
      · exact ⟨j, by omega, by omega, h3⟩
    · rintro ⟨j, h1, h2, h3⟩
      by_cases e : j = t
      · subst e; exact Or.inl h3
      · exact Or.inr ⟨j, by omega, by omega, h3⟩
theorem c_busy (h : RC b lim s V zs fr) : gX9_busy b s = some (rb (vab V 6 0 = true), s) := by
  obtain ⟨j1, a1, a2, a3, a4⟩ := c_that (v := 1) h 6 0 wt_N 0 (by omega) (by unfold wt_N; omega) (by omega)
  obtain ⟨j2, b1, b2, b3, b4⟩ := c_that (v := 2) h 6 0 wt_N 0 (by omega) (by unfold wt_N; omega) (by omega)
  unfold gX9_busy gX9_tasksThatAre
  rw [show gX9_tasksThatAre_14 b wt_N s 1 0 6 0 = _ from a3, cl_some, show gX9_tasksThatAre_14 b wt_N s 2 0 6 0 = _ from b3, cl_some, nI_add]
  by_cases c : vab V 6 0 = true
  · rw [rb_pos c, if_neg]
    rw [nI_int (by omega), ci0]
    intro q
    have e1 : j1 = 0 := by omega
    have e2 : j2 = 0 := by omega
    obtain ⟨j, h1, h2, h3⟩ := vab_i.mp c
    rcases vby_iff.mp h3 with e | e
    · exact a4.mp e1 j h1 (by omega) e
    · exact b4.mp e2 j h1 (by omega) e
  · rw [rb_neg c, if_pos]
    rw [nI_int (by omega), ci0]
    have hno : ∀ i, i < 6 → vby V i = false := fun i hi => by
      cases e : vby V i with
      | false => rfl
      | true => exact absurd (vab_i.mpr ⟨i, by omega, by omega, e⟩) c
    have e1 : j1 = 0 := a4.mpr (fun i _ hi e => by
      have := hno i hi
      rw [vby_iff.mpr (Or.inl e)] at this
      cases this)
    have e2 : j2 = 0 := b4.mpr (fun i _ hi e => by
      have := hno i hi
      rw [vby_iff.mpr (Or.inr e)] at this
      cases this)
    omega
theorem c_setop {x v : Int32} (h : NW B s V) (hI' : VI 2048 B (vset V x v).2) : ∃ s', gX10_set s x v = some ((vset V x v).1, s') ∧ NW B s' (vset V x v).2 ∧ NF s s' := by
  have h' := h
  obtain ⟨⟨zs, fr, hR⟩, hI, hW, hK, hT⟩ := h'
  have c6 : (6 : Int32).toInt = 6 := by decide
  unfold gX10_set
  rw [c_busy hR, cl_some, if_rbn]
  by_cases c3 : vab V 6 0 = true
  · have hv : vset V x v = (0, V) := by unfold vset; rw [if_neg (fun e => by have := e.2.2; rw [c3] at this; cases this)]
    rw [if_pos c3, hv]
    exact ⟨s, rfl, h, NF.refl⟩
  · have c3' : vab V 6 0 = false := by simpa using c3
    rw [if_neg c3]
    by_cases c1 : 0 ≤ x.toInt ∧ x.toInt ≤ 5
    · obtain ⟨k, hk, rfl, ek⟩ := i_task c1
      obtain ⟨k1, k2, -⟩ := hK k hk
      rw [if_neg (c_lo (by omega)), if_neg (by rw [c6]; omega), ix_nI hk (by omega), k1, ix_nI hk (by omega), k2]
      by_cases c2 : vlo k ≤ v.toInt ∧ v.toInt ≤ vhi k
      · have hv : vset V (nI k) v = (1, vs V (2048 + k) v) := by unfold vset; rw [ek, if_pos ⟨c1, c2, c3'⟩]
        rw [hv] at hI' ⊢
        rw [if_neg (by omega), if_pos c2.2, ix_nI hk (by omega), wr_eq]
        refine ⟨_, rfl, h.re c3' hI' rfl (fun i hi => vs_ne (by omega)) (fun c hc => wt_u_ne (by omega)) ⟨fun j hj => ?_, fun j hj => ?_⟩ (hR.2.2.2.2.2.ep hI.2.1 (fun i hi => vs_ne (by omega)) (fun c c1 c2 => wt_u_ne (by omega))), fun c hc => wt_u_ne (by omega)⟩
        · by_cases e : j = k
          · subst e
            rw [vs_at, show (11 : Nat) + 1 = 12 from rfl, wt_u_self]
          · rw [vs_ne (by omega), show (11 : Nat) + 1 = 12 from rfl, wt_u_nk e]
            exact hR.2.2.1.1 j hj
        · rw [vs_ne (by omega), wt_u_ne (by omega)]
          exact hR.2.2.1.2 j hj
      · have hv : vset V (nI k) v = (0, V) := by unfold vset; rw [ek, if_neg (fun e => c2 e.2.1)]
        rw [hv]
        refine ⟨s, ?_, h, NF.refl⟩
        by_cases c4 : v.toInt < vlo k
        · rw [if_pos c4]
        · rw [if_neg c4, if_neg (by omega)]
    · have hv : vset V x v = (0, V) := by unfold vset; rw [if_neg (fun e => c1 e.1)]
      rw [hv]
      refine ⟨s, ?_, h, NF.refl⟩
      by_cases c4 : x.toInt < (0 : Int32).toInt
      · rw [if_pos c4]
      · rw [ci0] at c4
        rw [if_neg (by rw [ci0]; exact c4), if_pos (by rw [c6]; omega)]
theorem c_functionop {x z p : Int32} (h : NW B s V) (hI' : VI 2048 B (vfunc V x z p).2) : ∃ s', gX10_function s x z p = some ((vfunc V x z p).1, s') ∧ NW B s' (vfunc V x z p).2 ∧ ∀ c, (c < 6 ∨ 10 < c) → s' c = s c := by
  have h' := h
  obtain ⟨⟨zs, fr, hR⟩, hI, hW, hK, hT⟩ := h'
  have c8 : (8 : Int32).toInt = 8 := by decide
  unfold gX10_function
  rw [c_busy hR, cl_some, if_rbn]
  by_cases c3 : vab V 6 0 = true
  · have hv : vfunc V x z p = (0, V) := by unfold vfunc; rw [if_neg (fun e => by have := e.2.2.2; rw [c3] at this; cases this)]
    rw [if_pos c3, hv]
    exact ⟨s, rfl, h, fun _ _ => rfl⟩
  · have c3' : vab V 6 0 = false := by simpa using c3
    rw [if_neg c3, c_isFunction, cl_some, if_rb]
    by_cases c1 : 0 ≤ x.toInt ∧ x.toInt ≤ 9
    · rw [if_pos c1]
      by_cases c2 : 0 ≤ z.toInt ∧ z.toInt ≤ 8
      · rw [if_neg (by rw [ci0]; omega), if_pos (by rw [c8]; exact c2.2)]
        obtain ⟨zn, z1, rfl, z3, z4⟩ := i_nat (x := z) c2.1
        have hsh : (1 : Int32) <<< (nI zn &&& 31) = nI (2 ^ zn) := sh_all ⟨zn, by omega⟩
        have hz8 : zn ≤ 8 := by omega
        have hpw : 1 ≤ 2 ^ zn ∧ 2 ^ zn ≤ 256 := ⟨Nat.one_le_two_pow, Nat.pow_le_pow_right (by omega) hz8⟩
        have hsub : ((1 : Int32) <<< (nI zn &&& 31) - 1).toInt = ((1 : Int32) <<< (nI zn &&& 31)).toInt - 1 := by
          rw [hsh, li_sub (by omega), nI_int (by omega), nI_int (by omega)]
          omega
        by_cases c4 : 0 ≤ p.toInt ∧ p.toInt ≤ ((1 : Int32) <<< (nI zn &&& 31) - 1).toInt
        · have hv : vfunc V x (nI zn) p = (1, vs (vs (vs V (2228 + x.toInt.toNat) (nI zn)) (2238 + x.toInt.toNat) p) (2248 + x.toInt.toNat) 0) := by unfold vfunc; rw [if_pos ⟨c1, c2, c4, c3'⟩]
          obtain ⟨f, h1, rfl, h3, h4⟩ := i_nat (x := x) c1.1
          have hf : f < 10 := by omega
          rw [hv] at hI' ⊢
          rw [h3] at hI' ⊢
          rw [if_neg (by rw [ci0]; omega), if_pos (by omega)]
          unfold gX6_tell
          rw [c_isFunction, cl_some, if_rbn, if_pos (by rw [nI_int (by omega)]; omega), ix_nI hf (by omega), wr_eq, ix_nI hf (by omega), wr_eq, ix_nI hf (by omega), wr_eq]
          have hne : ∀ i, i ≠ 2228 + f → i ≠ 2238 + f → i ≠ 2248 + f → (vs (vs (vs V (2228 + f) (nI zn)) (2238 + f) p) (2248 + f) 0).1 i = V.1 i := fun i i1 i2 i3 => (vs_ne i3).trans ((vs_ne i2).trans (vs_ne i1))
          generalize hS : wt_u (wt_u (wt_u s (5 + 1) f (nI zn)) (5 + 2) f p) (5 + 3) f 0 = s3
          have f3 : ∀ c, c ≠ 6 → c ≠ 7 → c ≠ 8 → s3 c = s c := fun c c1 c2 c3 => by rw [← hS, wt_u_ne c3, wt_u_ne c2, wt_u_ne c1]
          have hP3 : RPp 5 s3 (vs (vs (vs V (2228 + f) (nI zn)) (2238 + f) p) (2248 + f) 0).1 := by
            have hR0 := hR.2.2.2.2.2.p
            refine ⟨fun g hg => ⟨?_, ?_, ?_⟩, fun j hj => ?_⟩
            · rw [← hS, wt_u_ne (by omega), wt_u_ne (by omega)]
              by_cases e : g = f
              · subst e
                rw [wt_u_self, vs_ne (by omega), vs_ne (by omega), vs_at]
              · rw [wt_u_nk e, hne _ (by omega) (by omega) (by omega)]; exact (hR0.1 g hg).1
            · rw [← hS, wt_u_ne (by omega)]
              by_cases e : g = f
              · subst e
                rw [wt_u_self, vs_ne (by omega), vs_at]
              · rw [wt_u_nk e, wt_u_ne (by omega), hne _ (by omega) (by omega) (by omega)]; exact (hR0.1 g hg).2.1
            · rw [← hS]
              by_cases e : g = f
              · subst e
                rw [wt_u_self, vs_at]
              · rw [wt_u_nk e, wt_u_ne (by omega), wt_u_ne (by omega), hne _ (by omega) (by omega) (by omega)]; exact (hR0.1 g hg).2.2
            · rw [f3 _ (by omega) (by omega) (by omega), hne _ (by omega) (by omega) (by omega)]; exact hR0.2 j hj
          obtain ⟨s4, d1, d2, d3⟩ := c_deeps hP3 hI'.2.1
          rw [d1, cl_some, cl_some]
          have f4 : ∀ c, (c < 6 ∨ 10 < c) → s4 c = s c := fun c hc => by rw [d2 c (by omega), f3 c (by omega) (by omega) (by omega)]
          refine ⟨s4, rfl, h.re c3' hI' rfl (fun i hi => hne i (by omega) (by omega) (by omega)) (fun c hc => f4 c (by omega)) ⟨fun j hj => ?_, fun j hj => ?_⟩ d3, f4⟩
          · rw [f4 _ (by omega), hne _ (by omega) (by omega) (by omega)]; exact hR.2.2.1.1 j hj
          · rw [f4 _ (by omega), hne _ (by omega) (by omega) (by omega)]; exact hR.2.2.1.2 j hj
        · have hv : vfunc V x (nI zn) p = (0, V) := by unfold vfunc; rw [if_neg (fun e => c4 e.2.2.1)]
          rw [hv]
          refine ⟨s, ?_, h, fun _ _ => rfl⟩
          by_cases c5 : p.toInt < (0 : Int32).toInt
          · rw [if_pos c5]
          · rw [if_neg c5, if_neg (by rw [ci0] at c5; omega)]
      · have hv : vfunc V x z p = (0, V) := by unfold vfunc; rw [if_neg (fun e => c2 e.2.1)]
        rw [hv]
        refine ⟨s, ?_, h, fun _ _ => rfl⟩
        by_cases c5 : z.toInt < (0 : Int32).toInt
        · rw [if_pos c5]
        · rw [if_neg c5, if_neg (by rw [ci0] at c5; rw [c8]; omega)]
    · have hv : vfunc V x z p = (0, V) := by unfold vfunc; rw [if_neg (fun e => c1 e.1)]
      rw [if_neg c1, hv]
      exact ⟨s, rfl, h, fun _ _ => rfl⟩
end
end
section
/-! ===== the class: a line is told ===== -/
section
variable {q : Nat} {s s' : wt_S} {w : Nat → Int32} {f : Nat}
theorem if_rg {x lo hi : Int32} : (if x.toInt < lo.toInt then some ((0 : Int32), s) else if hi.toInt < x.toInt then some (0, s) else some (1, s)) = some (rb (decide (lo.toInt ≤ x.toInt ∧ x.toInt ≤ hi.toInt) = true), s) := by
  by_cases c1 : x.toInt < lo.toInt
  · rw [if_pos c1, rb_neg (by simp; omega)]
  · rw [if_neg c1]
    by_cases c2 : hi.toInt < x.toInt
    · rw [if_pos c2, rb_neg (by simp; omega)]
    · rw [if_neg c2, rb_pos (by simp; omega)]
theorem if_rh {x : Int32} : (if x.toInt < (0 : Int32).toInt then some ((0 : Int32), s) else if (16 : Int32).toInt ≤ x.toInt then some (0, s) else some (1, s)) = some (rb (decide (0 ≤ x.toInt ∧ x.toInt ≤ 15) = true), s) := by
  have c0 : (0 : Int32).toInt = 0 := by decide
  have c16 : (16 : Int32).toInt = 16 := by decide
  rw [c0, c16]
  by_cases c1 : x.toInt < 0
  · rw [if_pos c1, rb_neg (by simp; omega)]
  · rw [if_neg c1]
    by_cases c2 : 16 ≤ x.toInt
    · rw [if_pos c2, rb_neg (by simp; omega)]
    · rw [if_neg c2, rb_pos (by simp; omega)]
theorem if_ri {x : Int32} {p : Bool} {X : Option (Int32 × wt_S)} (hX : X = some (rb (p = true), s)) : (if x.toInt < (1 : Int32).toInt then some ((0 : Int32), s) else if (40 : Int32).toInt < x.toInt then some (0, s) else X) = some (rb ((decide (1 ≤ x.toInt ∧ x.toInt ≤ 40) && p) = true), s) := by
  have c0 : (1 : Int32).toInt = 1 := by decide
  have c16 : (40 : Int32).toInt = 40 := by decide
  rw [c0, c16, hX]
  by_cases c1 : x.toInt < 1
  · rw [if_pos c1, rb_neg (by simp; omega)]
  · rw [if_neg c1]
    by_cases c2 : 40 < x.toInt
    · rw [if_pos c2, rb_neg (by simp; omega)]
    · rw [if_neg c2]
      have e : decide (1 ≤ x.toInt ∧ x.toInt ≤ 40) = true := by simp; omega
      rw [e, Bool.true_and]
theorem c_hasSlot (h : RP q s w) (hp : Ipr w) (hf : f < 10) {x : Int32} : gX6_hasSlot q s (nI f) x = some (rb (v2s w f x), s) := by
  have hz := hp.sz hf
  have e1 : (w (2228 + f) - 1).toInt = (vsz w f : Int) - 1 := by
    rw [hz.1]
    exact sub1_int (by omega)
  unfold gX6_hasSlot
  by_cases c1 : x.toInt < (0 : Int32).toInt
  · rw [if_pos c1, rb_neg (fun e => by have := e.1; rw [ci0] at c1; omega)]
  · rw [if_neg c1, c_sizeOf h hf, cl_some]
    rw [ci0] at c1
    have e0 : (w (2228 + f)).toInt = vsz w f := by rw [hz.1, nI_int (by omega)]
    by_cases c2 : (w (2228 + f)).toInt ≤ x.toInt
    · rw [if_pos c2, rb_neg (fun e => by have := e.2; omega)]
    · rw [if_neg c2, rb_pos ⟨by omega, by omega⟩]
theorem c_hasNumber (h : RP q s w) (hp : Ipr w) (hf : f < 10) {x : Int32} : gX6_hasNumber q s (nI f) x = some (rb (v2n w f x), s) := by
  unfold gX6_hasNumber
  rw [c_hasSlot h hp hf, cl_some, if_rb]
  by_cases c : v2s w f x
  · obtain ⟨k, k1, rfl, k3, k4⟩ := i_nat (x := x) c.1
    rw [if_pos c, c_isPointer h hf, cl_some, if_rbn]
    by_cases c2 : bt (w (2238 + f)) k
    · rw [if_pos c2, rb_neg (fun e => e.2 (by rw [k3]; exact c2))]
    · rw [if_neg c2, rb_pos ⟨c, by rw [k3]; exact c2⟩]
  · rw [if_neg c, rb_neg (fun e => c e.1)]
theorem c_hasPointer (h : RP q s w) (hp : Ipr w) (hf : f < 10) {x : Int32} : gX6_hasPointer q s (nI f) x = some (rb (v2p w f x), s) := by
  unfold gX6_hasPointer
  rw [c_hasSlot h hp hf, cl_some, if_rb]
  by_cases c : v2s w f x
  · obtain ⟨k, k1, rfl, k3, k4⟩ := i_nat (x := x) c.1
    rw [if_pos c, c_isPointer h hf, cl_some, if_rb]
    by_cases c2 : bt (w (2238 + f)) k
    · rw [if_pos c2, rb_pos ⟨c, by rw [k3]; exact c2⟩]
    · rw [if_neg c2, rb_neg (fun e => c2 (by have := e.2; rw [k3] at this; exact this))]
  · rw [if_neg c, rb_neg (fun e => c e.1)]
theorem c_allows (h : RP q s w) (hp : Ipr w) (hf : f < 10) {kind a b c : Int32} : gX6_allows q s (nI f) kind a b c = some (rb (vc2 w f kind a b c = true), s) := by
  unfold gX6_allows
  by_cases c0 : kind.toInt < 0 ∨ 9 < kind.toInt
  · rw [if_pos c0]
    have hk : ∀ x : Int32, 0 ≤ x.toInt → x.toInt ≤ 9 → kind ≠ x := fun x h1 h2 e => by subst e; omega
    have e : vc2 w f kind a b c = decide (kind = 10) := by
      unfold vc2
      rw [if_neg (hk 0 (by decide) (by decide)), if_neg (fun e => e.elim (hk 1 (by decide) (by decide)) (hk 2 (by decide) (by decide))), if_neg (hk 3 (by decide) (by decide)), if_neg (hk 4 (by decide) (by decide)), if_neg (hk 5 (by decide) (by decide)), if_neg (hk 6 (by decide) (by decide)), if_neg (hk 7 (by decide) (by decide)), if_neg (hk 8 (by decide) (by decide)), if_neg (hk 9 (by decide) (by decide))]
    rw [e]
    by_cases c1 : kind = 10
    · rw [if_neg (by simp [c1]), rb_pos (by simp [c1])]
    · rw [if_pos c1, rb_neg (by simp [c1])]
  · rw [if_neg c0]
    have e289 : gX6_allows_289 q s (nI f) c = some (rb (decide (v2n w f c) = true), s) := by
      unfold gX6_allows_289
      rw [c_hasNumber h hp hf, cl_some, if_rb, if1]
    rcases i10 (x := kind) (by omega) with rfl | rfl | rfl | rfl | rfl | rfl | rfl | rfl | rfl | rfl
    · rw [if_pos (show (0 : Int32).toInt = 0 by decide), c_hasNumber h hp hf, cl_some, if_rb, if_rg, if2]
      rfl
    · rw [if_neg (show ¬ (1 : Int32).toInt = 0 by decide), if_pos (show (1 : Int32).toInt = 1 by decide), c_hasNumber h hp hf, cl_some, if_rb, c_hasNumber h hp hf, cl_some, if_rb, c_hasNumber h hp hf, cl_some, if_rb, if1, if2, if2]
      rfl
    · rw [if_neg (show ¬ (2 : Int32).toInt = 0 by decide), if_neg (show ¬ (2 : Int32).toInt = 1 by decide), if_pos (show (2 : Int32).toInt = 2 by decide), c_hasNumber h hp hf, cl_some, if_rb, c_hasNumber h hp hf, cl_some, if_rb, c_hasNumber h hp hf, cl_some, if_rb, if1, if2, if2]
      rfl
    · rw [if_neg (show ¬ (3 : Int32).toInt = 0 by decide), if_neg (show ¬ (3 : Int32).toInt = 1 by decide), if_neg (show ¬ (3 : Int32).toInt = 2 by decide), if_pos (show (3 : Int32).toInt = 3 by decide), c_hasPointer h hp hf, cl_some, if_rb, c_hasNumber h hp hf, cl_some, if_rb, if1, if2]
      rfl
    · rw [if_neg (show ¬ (4 : Int32).toInt = 0 by decide), if_neg (show ¬ (4 : Int32).toInt = 1 by decide), if_neg (show ¬ (4 : Int32).toInt = 2 by decide), if_neg (show ¬ (4 : Int32).toInt = 3 by decide), if_pos (show (4 : Int32).toInt = 4 by decide), c_hasNumber h hp hf, cl_some, if_rb, c_hasPointer h hp hf, cl_some, if_rb, if1, if2]
      rfl
    · rw [if_neg (show ¬ (5 : Int32).toInt = 0 by decide), if_neg (show ¬ (5 : Int32).toInt = 1 by decide), if_neg (show ¬ (5 : Int32).toInt = 2 by decide), if_neg (show ¬ (5 : Int32).toInt = 3 by decide), if_neg (show ¬ (5 : Int32).toInt = 4 by decide), if_pos (show (5 : Int32).toInt = 5 by decide), c_hasPointer h hp hf, cl_some, if_rb, c_hasNumber h hp hf, cl_some, if_rb, if1, if2]
      rfl
    · rw [if_neg (show ¬ (6 : Int32).toInt = 0 by decide), if_neg (show ¬ (6 : Int32).toInt = 1 by decide), if_neg (show ¬ (6 : Int32).toInt = 2 by decide), if_neg (show ¬ (6 : Int32).toInt = 3 by decide), if_neg (show ¬ (6 : Int32).toInt = 4 by decide), if_neg (show ¬ (6 : Int32).toInt = 5 by decide), if_pos (show (6 : Int32).toInt = 6 by decide), c_isFunction, cl_some, if_rb, c_hasSlot h hp hf, cl_some, if_rb, c_hasNumber h hp hf, cl_some, if_rb, if1, if2, if2]
      rfl
    · rw [if_neg (show ¬ (7 : Int32).toInt = 0 by decide), if_neg (show ¬ (7 : Int32).toInt = 1 by decide), if_neg (show ¬ (7 : Int32).toInt = 2 by decide), if_neg (show ¬ (7 : Int32).toInt = 3 by decide), if_neg (show ¬ (7 : Int32).toInt = 4 by decide), if_neg (show ¬ (7 : Int32).toInt = 5 by decide), if_neg (show ¬ (7 : Int32).toInt = 6 by decide), if_pos (show (7 : Int32).toInt = 7 by decide), c_hasNumber h hp hf, cl_some, if_rb, if_rh, if2]
      rfl
    · rw [if_neg (show ¬ (8 : Int32).toInt = 0 by decide), if_neg (show ¬ (8 : Int32).toInt = 1 by decide), if_neg (show ¬ (8 : Int32).toInt = 2 by decide), if_neg (show ¬ (8 : Int32).toInt = 3 by decide), if_neg (show ¬ (8 : Int32).toInt = 4 by decide), if_neg (show ¬ (8 : Int32).toInt = 5 by decide), if_neg (show ¬ (8 : Int32).toInt = 6 by decide), if_neg (show ¬ (8 : Int32).toInt = 7 by decide), if_pos (show (8 : Int32).toInt = 8 by decide), c_hasNumber h hp hf, cl_some, rz_rb]
      have e : vc2 w f 8 a b c = decide (v2n w f a) := rfl
      rw [e]
      exact congrArg (fun x => some (x, s)) (rb_iff decide_eq_true_iff.symm)
    · rw [if_neg (show ¬ (9 : Int32).toInt = 0 by decide), if_neg (show ¬ (9 : Int32).toInt = 1 by decide), if_neg (show ¬ (9 : Int32).toInt = 2 by decide), if_neg (show ¬ (9 : Int32).toInt = 3 by decide), if_neg (show ¬ (9 : Int32).toInt = 4 by decide), if_neg (show ¬ (9 : Int32).toInt = 5 by decide), if_neg (show ¬ (9 : Int32).toInt = 6 by decide), if_neg (show ¬ (9 : Int32).toInt = 7 by decide), if_neg (show ¬ (9 : Int32).toInt = 8 by decide), if_pos (show (9 : Int32).toInt = 9 by decide), e289, c_isFunction, cl_some, if_rb, e289, if2]
      refine (if_ri (p := decide (b = -1 ∨ v2f b) && decide (v2n w f c)) ?_).trans rfl
      by_cases cb : b = -1
      · rw [if_pos cb]
        exact congrArg (fun x => some (x, s)) (rb_iff (by simp [cb]))
      · rw [if_neg cb]
        exact congrArg (fun x => some (x, s)) (rb_iff (by simp [cb]))
end
/-- a line that calls nobody changes no depth -/
theorem vl5_dp {V : vV} {f l : Nat} {kind a b c : Int32} (hp : Ipr V.1) (hf : f < 10) (hl : vli V.1 f = l) (hl16 : l < 16) (k6 : kind ≠ 6) (k9 : kind ≠ 9) : ∀ m g, g < 10 → vdp (vl5 V f l kind a b c).1 m g = vdp V.1 m g := by
  obtain ⟨t0, t1, t2, t3, t4⟩ := vl5_at (V := V) (f := f) (l := l) (kind := kind) (a := a) (b := b) (c := c) hf
  have hcal : ∀ g k, g < 10 → k < 16 → ¬ (g = f ∧ k = l) → vcal (vl5 V f l kind a b c).1 g k = vcal V.1 g k := fun g k hg hk hne => by
    unfold vcal
    rw [vl5_ne (by unfold vco; omega) (by unfold vco; omega), vl5_ne (by unfold vco; omega) (by unfold vco; omega), vl5_ne (by unfold vco; omega) (by unfold vco; omega)]
  have htl : ∀ x, tld (vl5 V f l kind a b c).1 x ↔ tld V.1 x := fun x => by
    constructor
    · intro q
      refine ⟨q.1, ?_⟩
      have := q.2
      rw [vl5_ne (by unfold vco; have := q.1; omega) (by have := q.1; omega)] at this
      exact this
    · intro q
      refine ⟨q.1, ?_⟩
      rw [vl5_ne (by unfold vco; have := q.1; omega) (by have := q.1; omega)]
      exact q.2
  intro m
  induction m with
  | zero => intro g hg; rw [vdp, vdp]
  | succ m ih =>
    intro g hg
    have hw : vwd (vl5 V f l kind a b c).1 g = vwd V.1 g := by unfold vwd vsz; rw [vl5_ne (by unfold vco; omega) (by omega)]
    have hlg := (hp.li hg).2
    have hdl : ∀ k, k ≤ vli V.1 g → vdl (vl5 V f l kind a b c).1 (vdp (vl5 V f l kind a b c).1 m) g k = vdl V.1 (vdp V.1 m) g k := by
      intro k
      induction k with
      | zero => intro _; rw [vdl, vdl]
      | succ k ihk =>
        intro hk
        rw [vdl_succ, vdl_succ, ihk (by omega), hcal g k hg (by omega) (fun e => by rw [e.1, hl] at hk; omega)]
        congr 1
        funext d
        by_cases ct : tld V.1 (vcal V.1 g k)
        · rw [if_pos ct, if_pos ((htl _).mpr ct), ih _ (by have := ct.1; omega)]
        · rw [if_neg ct, if_neg (fun q => ct ((htl _).mp q))]
    rw [vdp_succ, vdp_succ, hw]
    congr 1
    by_cases e : g = f
    · subst e
      rw [vli_of t4 (by omega), vdl_succ]
      have := hdl l (by omega)
      rw [this, hl]
      have hno : ¬ tld (vl5 V g l kind a b c).1 (vcal (vl5 V g l kind a b c).1 g l) := fun q => by
        have hc : vcal (vl5 V g l kind a b c).1 g l = -1 := by
          unfold vcal
          rw [t0, if_neg k6, if_neg k9]
        rw [hc] at q
        exact absurd q.1.1 (by decide)
      cases vdl V.1 (vdp V.1 m) g l with
      | none => rfl
      | some d =>
        rw [Option.bind_some, if_neg hno]
    · have : vli (vl5 V f l kind a b c).1 g = vli V.1 g := by unfold vli; rw [vl5_ne (by unfold vco; omega) (by omega)]
      rw [this]
      exact hdl _ (Nat.le_refl _)
section
variable {B : Nat} {s s' : wt_S} {V V' : vV} {f : Nat}
theorem c_lineop {x kind a b c : Int32} (h : NW B s V) (hI' : VI 2048 B (vline V x kind a b c).2) : ∃ s', gX10_line s x kind a b c = some ((vline V x kind a b c).1, s') ∧ NW B s' (vline V x kind a b c).2 ∧ ∀ c, (c < 6 ∨ 10 < c) → s' c = s c := by
  have h' := h
  obtain ⟨⟨zs, fr, hR⟩, hI, hW, hK, hT⟩ := h'
  unfold gX10_line
  rw [c_busy hR, cl_some, if_rbn]
  by_cases c3 : vab V 6 0 = true
  · have hv : vline V x kind a b c = (-1, V) := by unfold vline; rw [if_neg (fun e => by have := e.2.1; rw [c3] at this; cases this)]
    rw [if_pos c3, hv]
    exact ⟨s, rfl, h, fun _ _ => rfl⟩
  have c3' : vab V 6 0 = false := by simpa using c3
  rw [if_neg c3, c_told hR.2.2.2.2.2, cl_some, if_rb]
  by_cases c1 : tld V.1 x
  · obtain ⟨f, f10, rfl, f3, f4⟩ := tld_nat c1
    rw [if_pos c1, c_allows hR.2.2.2.2.2 hI.2.1 f10, cl_some, if_rbn]
    obtain ⟨l1, l2⟩ := hI.2.1.li f10
    by_cases c6 : vc2 V.1 f kind a b c = true
    · rw [if_pos c6]
      unfold gX6_append
      have hR0 := hR.2.2.2.2.2.p
      rw [pp_lines hR0 f10, cl_some, c_isFunction, cl_some, if_rb, if_pos (by rw [nI_int (by omega)]; omega), l1]
      by_cases c5 : vli V.1 f = 16
      · have hv : vline V (nI f) kind a b c = (-1, V) := by unfold vline; rw [if_neg (fun e => e.2.2.1 (by rw [f3, l1, c5]; rfl))]
        rw [hv, if_neg (by rw [c5]; decide), cl_some]
        exact ⟨s, rfl, h, fun _ _ => rfl⟩
      · have hl16 : vli V.1 f < 16 := by omega
        have hv : vline V (nI f) kind a b c = (nI (vli V.1 f), vl5 V f (vli V.1 f) kind a b c) := by
          unfold vline
          rw [if_pos ⟨c1, c3', by rw [f3, l1]; exact fun e => c5 ((nI_inj (by omega) (by omega)).mp (e.trans (show (16 : Int32) = nI 16 from rfl))), by rw [f3]; exact c6⟩, f3]
        rw [hv] at hI' ⊢
        obtain ⟨t0, t1, t2, t3, t4⟩ := vl5_at (V := V) (f := f) (l := vli V.1 f) (kind := kind) (a := a) (b := b) (c := c) f10
        generalize hL : vli V.1 f = l at *
        have e4 : ∀ j, (nI f * 16 + nI l) * 4 + nI j = nI ((f * 16 + l) * 4 + j) := fun j => by rw [li_mul2, nI_add, li_mul2, nI_add]
        have i0 : (nI f * 16 + nI l) * 4 + 0 = nI ((f * 16 + l) * 4 + 0) := e4 0
        have i1 : (nI f * 16 + nI l) * 4 + 1 = nI ((f * 16 + l) * 4 + 1) := e4 1
        have i2 : (nI f * 16 + nI l) * 4 + 2 = nI ((f * 16 + l) * 4 + 2) := e4 2
        have i3 : (nI f * 16 + nI l) * 4 + 3 = nI ((f * 16 + l) * 4 + 3) := e4 3
        rw [if_pos (by rw [nI_int (by omega)]; show (l : Int) < 16; omega), i0, ix_nI (by omega) (by omega), wr_eq, i1, ix_nI (by omega) (by omega), wr_eq, i2, ix_nI (by omega) (by omega), wr_eq, i3, ix_nI (by omega) (by omega), wr_eq, ix_nI f10 (by omega), wr_eq, show nI l + 1 = nI (l + 1) from nI_add l 1]
        generalize hS : wt_u (wt_u (wt_u (wt_u (wt_u s (5 + 4) ((f * 16 + l) * 4 + 0) kind) (5 + 4) ((f * 16 + l) * 4 + 1) a) (5 + 4) ((f * 16 + l) * 4 + 2) b) (5 + 4) ((f * 16 + l) * 4 + 3) c) (5 + 3) f (nI (l + 1)) = s3
        have f3' : ∀ d, d ≠ 8 → d ≠ 9 → s3 d = s d := fun d d1 d2 => by rw [← hS, wt_u_ne d1, wt_u_ne d2, wt_u_ne d2, wt_u_ne d2, wt_u_ne d2]
        have hne : ∀ i, (i < vco f l ∨ vco f l + 4 ≤ i) → i ≠ 2248 + f → (vl5 V f l kind a b c).1 i = V.1 i := fun i q1 q2 => vl5_ne q1 q2
        have hco : vco f l = 2258 + (f * 16 + l) * 4 := by unfold vco; omega
        have hP3 : RPp 5 s3 (vl5 V f l kind a b c).1 := by
          refine ⟨fun g hg => ⟨?_, ?_, ?_⟩, fun j hj => ?_⟩
          · rw [f3' _ (by omega) (by omega), hne _ (by omega) (by omega)]; exact (hR0.1 g hg).1
          · rw [f3' _ (by omega) (by omega), hne _ (by omega) (by omega)]; exact (hR0.1 g hg).2.1
          · rw [← hS]
            by_cases e : g = f
            · subst e
              rw [wt_u_self, t4]
            · rw [wt_u_nk e, wt_u_ne (by omega), wt_u_ne (by omega), wt_u_ne (by omega), wt_u_ne (by omega), hne _ (by omega) (by omega)]; exact (hR0.1 g hg).2.2
          · rw [← hS, wt_u_ne (by omega)]
            by_cases j3 : j = (f * 16 + l) * 4 + 3
            · rw [j3, wt_u_self, show 2258 + ((f * 16 + l) * 4 + 3) = vco f l + 3 by omega, t3]
            rw [wt_u_nk j3]
            by_cases j2 : j = (f * 16 + l) * 4 + 2
            · rw [j2, wt_u_self, show 2258 + ((f * 16 + l) * 4 + 2) = vco f l + 2 by omega, t2]
            rw [wt_u_nk j2]
            by_cases j1 : j = (f * 16 + l) * 4 + 1
            · rw [j1, wt_u_self, show 2258 + ((f * 16 + l) * 4 + 1) = vco f l + 1 by omega, t1]
            rw [wt_u_nk j1]
            by_cases j0 : j = (f * 16 + l) * 4 + 0
            · rw [j0, wt_u_self, show 2258 + ((f * 16 + l) * 4 + 0) = vco f l by omega, t0]
            rw [wt_u_nk j0, hne _ (by omega) (by omega)]
            exact hR0.2 j hj
        have fin : ∀ s4, (∀ d, d ≠ 10 → s4 d = s3 d) → RP 5 s4 (vl5 V f l kind a b c).1 → NW B s4 (vl5 V f l kind a b c) ∧ ∀ c, (c < 6 ∨ 10 < c) → s4 c = s c := fun s4 g1 g2 => by
          have f4 : ∀ c, (c < 6 ∨ 10 < c) → s4 c = s c := fun c hc => by rw [g1 c (by omega), f3' c (by omega) (by omega)]
          refine ⟨h.re c3' hI' rfl (fun i hi => hne i (by omega) (by omega)) (fun c hc => f4 c (by omega)) ⟨fun j hj => ?_, fun j hj => ?_⟩ g2, f4⟩
          · rw [f4 _ (by omega), hne _ (by omega) (by omega)]; exact hR.2.2.1.1 j hj
          · rw [f4 _ (by omega), hne _ (by omega) (by omega)]; exact hR.2.2.1.2 j hj
        have dee : ∃ s', (wt_cl (gX6_append_98 5 s3 (nI l)) fun v8 s7 => some (v8, s7)) = some (nI l, s') ∧ NW B s' (vl5 V f l kind a b c) ∧ ∀ c, (c < 6 ∨ 10 < c) → s' c = s c := by
          obtain ⟨s4, d1, d2, d3⟩ := c_deeps hP3 hI'.2.1
          unfold gX6_append_98
          rw [d1, cl_some, cl_some]
          exact ⟨s4, rfl, fin s4 d2 d3⟩
        by_cases k6 : kind = 6
        · rw [if_pos k6]
          exact dee
        · rw [if_neg k6]
          by_cases k9 : kind = 9
          · rw [if_neg (fun e => e k9)]
            exact dee
          · rw [if_pos k9, cl_some]
            refine ⟨s3, rfl, fin s3 (fun _ _ => rfl) ⟨fun g hg => ⟨(hP3.1 g hg).1, (hP3.1 g hg).2.1, (hP3.1 g hg).2.2, ?_⟩, hP3.2⟩⟩
            have hold := (hR.2.2.2.2.2.1 g hg).2.2.2
            have es : vsz (vl5 V f l kind a b c).1 g = vsz V.1 g := by unfold vsz; rw [hne _ (by omega) (by omega)]
            rw [f3' _ (by omega) (by omega), hold, es]
            have hd : ∀ m g, g < 10 → vdp (vl5 V f l kind a b c).1 m g = vdp V.1 m g := vl5_dp hI.2.1 f10 hL hl16 k6 k9
            rw [hd 10 g hg]
    · have hv : vline V (nI f) kind a b c = (-1, V) := by unfold vline; rw [if_neg (fun e => c6 (by have := e.2.2.2; rw [f3] at this; exact this))]
      rw [if_neg c6, hv]
      exact ⟨s, rfl, h, fun _ _ => rfl⟩
  · have hv : vline V x kind a b c = (-1, V) := by unfold vline; rw [if_neg (fun e => c1 e.1)]
    rw [if_neg c1, hv]
    exact ⟨s, rfl, h, fun _ _ => rfl⟩
end
end
