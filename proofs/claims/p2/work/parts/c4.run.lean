/-! ===== the class: step and round ===== -/
/-- what is now: the picture, its rules; the rest of the class stands ready -/
def NW (B : Nat) (s : wt_S) (V : vV) : Prop := (∃ zs fr, RC 11 2048 s V zs fr) ∧ VI 2048 B V ∧ (∀ t, t < 6 → WL V t) ∧ KC s ∧ TN s
section
variable {B B' : Nat} {s s' : wt_S} {V V' : vV} {t f : Nat} {a : Int32} {Z : (Nat → Int32) → Int32 → Int32 → Int32 → Bool}
/-- of a busy task: its function stands in its row -/
theorem vlf_75 {lim : Nat} (hI : VI lim B V) (ht : t < 6) (hb : vbz V.1 t) : V.1 (3975 + t) = nI (vlf V t).1 ∧ 0 < V.2.2.1 t ∧ (vlf V t).1 < 10 := by
  obtain ⟨h0, hf⟩ := vbz_f hI ht hb
  obtain ⟨-, n, np, e1, e2, e3, e4, e5, e6, e7, e8, e9, e10, e11, e12, -⟩ := hI.bz ht h0
  refine ⟨?_, h0, hf⟩
  unfold vlf
  rw [e1, Nat.add_sub_cancel]
  exact e12
theorem WL.cls {b lim : Nat} {zs zs' : List (vP × Nat)} {fr fr' : List Nat} (h : WL V t) (hR : RC b lim s V zs fr) (hR' : RC b lim s' V' zs' fr') (hI : VI lim B V) (hI' : VI lim B' V') (ht : t < 6) (hT : s' (b + 17 + 2 * t) = s (b + 17 + 2 * t)) (hw : vpe V.1 V'.1) : WL V' t := fun e => by
  have e26 : V'.1 (3926 + t) = V.1 (3926 + t) := (hR'.at ht (e := (1, 3926)) (by decide)).symm.trans ((congrFun hT 1).trans (hR.at ht (e := (1, 3926)) (by decide)))
  have e2 : V.1 (3926 + t) = 2 := e26.symm.trans e
  obtain ⟨l, l1, l2, l3⟩ := h e2
  obtain ⟨a1, a2, a3⟩ := vlf_75 hI ht (Or.inr e2)
  obtain ⟨b1, b2, b3⟩ := vlf_75 hI' ht (Or.inr e)
  have e75 : V'.1 (3975 + t) = V.1 (3975 + t) := (hR'.at ht (e := (9, 3975)) (by decide)).symm.trans ((congrFun hT 9).trans (hR.at ht (e := (9, 3975)) (by decide)))
  have e68 : V'.1 (3968 + t) = V.1 (3968 + t) := ((hR'.2.2.2.1 t ht).2.1.2 b2).1.symm.trans ((congrFun hT 10).trans ((hR.2.2.2.1 t ht).2.1.2 a2).1)
  have ef : (vlf V' t).1 = (vlf V t).1 := (nI_inj (by omega) (by omega)).mp (b1.symm.trans (e75.trans a1))
  have hl := (hI.2.1.li a3).2
  exact ⟨l, e68.trans l1, by rw [ef, (hw.sz a3).2.2.1]; exact l2, by rw [ef, hw.co0 a3 (by omega)]; exact l3⟩
theorem KC.nf (h : KC s) (hf : NF s s') : KC s' := fun j hj => by rw [hf 1 (by omega), hf 2 (by omega), hf 3 (by omega)]; exact h j hj
theorem NW.mono (h : NW B s V) (hB : B ≤ B') : NW B' s V := ⟨h.1, h.2.1.mono hB, h.2.2⟩
/-- a step of a task -/
theorem nw_step (h : NW B s V) (ht : t < 6) (hb : vbz V.1 t) : ∃ s', gX2_makeStep 11 (11 + 17 + 2 * t) s = some ((), s') ∧ NW (B + 4) s' (vst 2048 Z V t) ∧ CF 11 s s' := by
  obtain ⟨⟨zs, fr, hR⟩, hI, hW, hK, hT⟩ := h
  obtain ⟨s', zs', fr', a1, a2, a3⟩ := c_step (Z := Z) hR cx11 hI ht hb (hW t ht)
  refine ⟨s', a1, ⟨⟨zs', fr', a2⟩, vi_st hI ht hb (by omega), fun t' ht' => ?_, hK.nf a3.2.n1, fun k hk => by rw [a3.2 _ (by omega)]; exact hT k hk⟩, a3.2⟩
  by_cases e : t' = t
  · subst e
    exact wl_st hI ht hb (hW t' ht') (by omega)
  · exact (hW t' ht').cls hR a2 hI (vi_st hI ht hb (by omega)) ht' (a3.1 t' ht' e).1 (pe_st hI ht hb (by omega))
/-- a thought changes nothing of it -/
theorem nw_think (h : NW B s V) (hf : f < 10) (hs1 : 1 ≤ vsz V.1 f) : ∃ s' zs' fr', gX10_thinkEndless s (nI f) a = some (57, s') ∧ NW B s' V ∧ (∀ c, c < 40 ∨ 68 < c → s' c = s c) ∧ RC 40 10000 s' (vET Z V.1 f a) zs' fr' := by
  obtain ⟨⟨zs, fr, hR⟩, hI, hW, hK, hT⟩ := h
  obtain ⟨s', zs', fr', a1, a2, a3, a4, a5⟩ := c_think (a := a) (Z := Z) hR.2.2.2.2.2 hI.2.1 hK hT hf hs1
  exact ⟨s', zs', fr', a1, ⟨⟨zs, fr, hR.eq cx11 (fun c _ _ _ _ hc => a4 c (by omega))⟩, hI, hW, hK.nf (fun c hc => a4 c (by omega)), a5⟩, a4, a2⟩
theorem nw_u8 (h : NW B s V) {v : Int32} : NW B (wt_u s 11 8 v) V := by
  obtain ⟨⟨zs, fr, hR⟩, hI, hW, hK, hT⟩ := h
  exact ⟨⟨zs, fr, hR.eq2 cx11 (fun c hc _ _ _ _ _ => wt_u_ne hc)⟩, hI, hW, fun j hj => by rw [wt_u_ne (by omega), wt_u_ne (by omega), wt_u_ne (by omega)]; exact hK j hj, fun k hk => by rw [wt_u_ne (by omega)]; exact hT k hk⟩
/-- a result is held against that of an endless stack: T is done -/
theorem nw_cmp (h : NW B s V) (ht : t < 6) (htl : tld V.1 (V.1 (4052 + t))) (hst : V.1 (3926 + t) = 3) : ∃ s', (wt_cl (gX10_thinkEndless s (s (11 + 17 + 2 * t) 15) (s (11 + 17 + 2 * t) 16)) fun a2 s1 => if a2 = 57 then (wt_cl (gX10_compareResults (11 + 17 + 2 * t) 57 s1) fun _ s3 => some ((), s3)) else none) = some ((), s') ∧ NW B s' V ∧ NF s s' := by
  have h' := h
  obtain ⟨⟨zs, fr, hR⟩, hI, hW, hK, hT⟩ := h'
  obtain ⟨f, f10, e1, -, e3⟩ := tld_nat htl
  have e15 : s (11 + 17 + 2 * t) 15 = nI f := ((hR.2.2.2.1 t ht).2.2.2.2.1 (by rw [hst]; decide)).trans e1
  obtain ⟨s1, zs1, fr1, a1, a2, a3, a4⟩ := nw_think (a := s (11 + 17 + 2 * t) 16) (Z := vZ) h f10 e3
  rw [e15, a1, cl_some, if_pos rfl]
  have hn : NF s s1 := fun c hc => a3 c (by omega)
  unfold gX10_compareResults
  by_cases c1 : s1 57 1 = 3
  · rw [if_neg (fun q => q c1)]
    by_cases c2 : s1 57 3 = s1 (11 + 17 + 2 * t) 3
    · rw [if_pos c2, cl_some]
      exact ⟨s1, rfl, a2, hn⟩
    · rw [if_neg c2, wr_eq, cl_some]
      exact ⟨_, rfl, nw_u8 a2, hn.trans (fun c hc => wt_u_ne (by omega))⟩
  · rw [if_pos c1, cl_some]
    exact ⟨s1, rfl, a2, hn⟩
theorem run_tld : ∀ {n : Nat} {B : Nat} {V : vV}, VI 2048 B V → t < 6 → tld V.1 (V.1 (4052 + t)) → tld (vrun Z t n V).2.1 ((vrun Z t n V).2.1 (4052 + t)) := by
  intro n
  induction n with
  | zero => intro B V hI ht h; exact h
  | succ n ih =>
    intro B V hI ht h
    unfold vrun
    by_cases c : vby V t = true
    · rw [if_pos c]
      have hb := vby_iff.mp c
      refine ih (B := B + 4) (vi_st hI ht hb (by omega)) ht ?_
      rw [(ke_st hI ht hb (by omega)).1]
      exact (pe_st hI ht hb (by omega)).tl.mpr h
    · rw [if_neg c]; exact h
theorem run_made {n : Nat} (hI : VI 2048 B V) (ht : t < 6) (h : 0 < (vrun Z t n V).1) : tld (vrun Z t n V).2.1 ((vrun Z t n V).2.1 (4052 + t)) := by
  refine run_tld hI ht ?_
  cases n with
  | zero => exact absurd h (Nat.lt_irrefl 0)
  | succ n =>
    unfold vrun at h
    by_cases c : vby V t = true
    · obtain ⟨np, z, z2, z3, k, l, -, -, -, -, -, -, -, -, hbg, -⟩ := hI.opn ht (vby_iff.mp c) (by omega)
      exact hbg
    · rw [if_neg c] at h
      exact absurd h (Nat.lt_irrefl 0)
theorem c_37 (ht : t < 6) : ∀ (r m fu B : Nat) (s : wt_S) (V : vV), r < fu → m + r < 100000 → NW B s V → ∃ s', gX10_step_37 fu s (nI (m + r)) (11 + 17 + 2 * t) (nI m) (nI m) = gX10_step_67 s' (11 + 17 + 2 * t) (nI (m + (vrun Z t r V).1)) ∧ NW (B + 4 * r) s' (vrun Z t r V).2 ∧ NF s s' := by
  intro r
  induction r with
  | zero =>
    intro m fu B s V hfu hm h
    obtain ⟨fu, rfl⟩ : ∃ k, fu = k + 1 := ⟨fu - 1, by omega⟩
    refine ⟨s, ?_, h, NF.refl⟩
    rw [gX10_step_37, if_pos (show (nI (m + 0)).toInt ≤ (nI m).toInt from Int.le_refl _)]
    rfl
  | succ r ih =>
    intro m fu B s V hfu hm h
    obtain ⟨fu, rfl⟩ : ∃ k, fu = k + 1 := ⟨fu - 1, by omega⟩
    obtain ⟨⟨zs, fr, hR⟩, -⟩ := id h
    rw [gX10_step_37, if_neg (by rw [nI_int (by omega), nI_int (by omega)]; omega), c_on hR ht, cl_some, if_rb]
    unfold vrun
    by_cases c : vby V t = true
    · rw [if_pos c, if_pos c]
      obtain ⟨s1, a1, a2, a3⟩ := nw_step (Z := Z) h ht (vby_iff.mp c)
      obtain ⟨s', b1, b2, b3⟩ := ih (m + 1) fu (B + 4) s1 (vst 2048 Z V t) (by omega) (by omega) a2
      rw [a1, cl_some, show nI m + 1 = nI (m + 1) from nI_add m 1, show m + (r + 1) = m + 1 + r by omega, b1]
      refine ⟨s', ?_, b2.mono (by omega), a3.n1.trans b3⟩
      rw [show m + 1 + (vrun Z t r (vst 2048 Z V t)).1 = m + ((vrun Z t r (vst 2048 Z V t)).1 + 1) by omega]
    · rw [if_neg c, if_neg c]
      exact ⟨s, rfl, h.mono (by omega), NF.refl⟩
theorem c_stepop {x n : Int32} (h : NW B s V) : ∃ s', gX10_step s x n = some ((vstep Z V x n).1, s') ∧ NW (B + 800) s' (vstep Z V x n).2 ∧ NF s s' := by
  unfold gX10_step
  rw [c_isTask, cl_some, if_rb]
  by_cases c1 : 0 ≤ x.toInt ∧ x.toInt ≤ 5
  · obtain ⟨t, ht, rfl, etn⟩ := i_task c1
    rw [if_pos c1]
    by_cases c2 : 1 ≤ n.toInt ∧ n.toInt ≤ 200
    · obtain ⟨m, m1, rfl, m3, m4⟩ := i_nat (x := n) (by omega)
      obtain ⟨s1, a1, a2, a3⟩ := c_37 (Z := Z) ht m 0 wt_N B s V (by unfold wt_N; omega) (by omega) h
      rw [Nat.zero_add, Nat.zero_add] at a1
      have a1 : gX10_step_37 wt_N s (nI m) (11 + 17 + 2 * t) 0 0 = gX10_step_67 s1 (11 + 17 + 2 * t) (nI (vrun Z t m V).1) := a1
      have hle := vrun_le (Z := Z) (t := t) (n := m) (V := V)
      rw [if_neg (show ¬ (nI m).toInt < (1 : Int32).toInt by show ¬ (nI m).toInt < 1; omega), if_pos (show (nI m).toInt ≤ (200 : Int32).toInt from c2.2), ix_nI ht (by omega), a1]
      have hv : vstep Z V (nI t) (nI m) = (nI (vrun Z t m V).1, (vrun Z t m V).2) := by unfold vstep; rw [if_pos ⟨c1, c2⟩, etn, m3]
      unfold gX10_step_67
      rw [hv]
      by_cases c3 : (vrun Z t m V).1 = 0
      · rw [if_pos (by rw [c3]; decide)]
        exact ⟨s1, rfl, a2.mono (by omega), a3⟩
      · rw [if_neg (by rw [nI_int (by omega), ci0]; omega)]
        obtain ⟨⟨zs1, fr1, hR1⟩, -⟩ := id a2
        have e1 : s1 (11 + 17 + 2 * t) 1 = (vrun Z t m V).2.1 (3926 + t) := hR1.at ht (e := (1, 3926)) (by decide)
        rw [e1]
        by_cases c4 : (vrun Z t m V).2.1 (3926 + t) = 3
        · rw [if_neg (fun q => q c4)]
          obtain ⟨s2, b1, b2, b3⟩ := nw_cmp a2 ht (run_made h.2.1 ht (by omega)) c4
          have key : (wt_cl (gX10_thinkEndless s1 (s1 (11 + 17 + 2 * t) 15) (s1 (11 + 17 + 2 * t) 16)) fun a2 s1 => if a2 = 57 then (wt_cl (gX10_compareResults (11 + 17 + 2 * t) 57 s1) fun _ s3 => some (nI (vrun Z t m V).1, s3)) else none) = some (nI (vrun Z t m V).1, s2) := by
            cases e : gX10_thinkEndless s1 (s1 (11 + 17 + 2 * t) 15) (s1 (11 + 17 + 2 * t) 16) with
            | none => rw [e] at b1; cases b1
            | some p =>
              obtain ⟨a, s3⟩ := p
              rw [e, cl_some] at b1
              rw [cl_some]
              by_cases ca : a = 57
              · rw [if_pos ca] at b1 ⊢
                cases e2 : gX10_compareResults (11 + 17 + 2 * t) 57 s3 with
                | none => rw [e2] at b1; cases b1
                | some p =>
                  obtain ⟨u4, s4⟩ := p
                  rw [e2, cl_some] at b1
                  rw [cl_some]
                  cases b1
                  rfl
              · rw [if_neg ca] at b1
                cases b1
          exact ⟨s2, key, b2.mono (by omega), a3.trans b3⟩
        · rw [if_pos c4]
          exact ⟨s1, rfl, a2.mono (by omega), a3⟩
    · have hv : vstep Z V (nI t) n = (-1, V) := by unfold vstep; rw [if_neg (fun e => c2 e.2)]
      rw [hv]
      refine ⟨s, ?_, h.mono (by omega), NF.refl⟩
      have q1 : (1 : Int32).toInt = 1 := by decide
      have q2 : (200 : Int32).toInt = 200 := by decide
      by_cases c3 : n.toInt < (1 : Int32).toInt
      · rw [if_pos c3]
      · rw [if_neg c3, if_neg (by rw [q2]; rw [q1] at c3; omega)]
  · have hv : vstep Z V x n = (-1, V) := by unfold vstep; rw [if_neg (fun e => c1 e.1)]
    rw [if_neg c1, hv]
    exact ⟨s, rfl, h.mono (by omega), NF.refl⟩
theorem c_39 {K : wt_S → Int32 → Int32 → Int32 → Option (Int32 × wt_S)} {l1 l3 : Int32} : ∀ (r t m fu B : Nat) (s : wt_S) (V : vV), r < fu → t + r = 6 → NW B s V → ∃ s', gX10_round_39 K fu s l1 (nI m) l3 6 (nI t) = K s' l1 (nI (vrn6 Z r t m V).1) (l3 + 1) ∧ NW (B + 4 * r) s' (vrn6 Z r t m V).2 ∧ NF s s' := by
  intro r
  induction r with
  | zero =>
    intro t m fu B s V hfu ht h
    obtain ⟨fu, rfl⟩ : ∃ k, fu = k + 1 := ⟨fu - 1, by omega⟩
    refine ⟨s, ?_, h, NF.refl⟩
    rw [gX10_round_39, if_pos (by rw [nI_int (by omega)]; show (6 : Int) ≤ _; omega)]
    rfl
  | succ r ih =>
    intro t m fu B s V hfu ht h
    obtain ⟨fu, rfl⟩ : ∃ k, fu = k + 1 := ⟨fu - 1, by omega⟩
    have ht6 : t < 6 := by omega
    obtain ⟨⟨zs, fr, hR⟩, -⟩ := id h
    rw [gX10_round_39, if_neg (by rw [nI_int (by omega)]; show ¬ (6 : Int) ≤ _; omega), ix_nI ht6 (by omega), c_on hR ht6, cl_some, if_rb, show nI t + 1 = nI (t + 1) from nI_add t 1]
    unfold vrn6
    have hrun : vrun Z t 1 V = if vby V t then (0 + 1, vst 2048 Z V t) else (0, V) := rfl
    by_cases c : vby V t = true
    · rw [if_pos c] at hrun
      rw [if_pos c, hrun]
      obtain ⟨s1, a1, a2, a3⟩ := nw_step (Z := Z) h ht6 (vby_iff.mp c)
      obtain ⟨⟨zs1, fr1, hR1⟩, -⟩ := id a2
      have e1 : s1 (11 + 17 + 2 * t) 1 = (vst 2048 Z V t).1 (3926 + t) := hR1.at ht6 (e := (1, 3926)) (by decide)
      rw [a1, cl_some, e1, show nI m + 1 = nI (m + 1) from nI_add m 1]
      by_cases c4 : (vst 2048 Z V t).1 (3926 + t) = 3
      · rw [if_neg (fun q => q c4)]
        have htl := run_made (Z := Z) (n := 1) h.2.1 ht6 (by rw [hrun]; exact Nat.lt_succ_self 0)
        rw [hrun] at htl
        obtain ⟨s2, b1, b2, b3⟩ := nw_cmp a2 ht6 htl c4
        obtain ⟨s', d1, d2, d3⟩ := ih (t + 1) (m + 1) fu (B + 4) s2 (vst 2048 Z V t) (by omega) (by omega) b2
        refine ⟨s', ?_, d2.mono (by omega), (a3.n1.trans b3).trans d3⟩
        rw [← d1]
        cases e : gX10_thinkEndless s1 (s1 (11 + 17 + 2 * t) 15) (s1 (11 + 17 + 2 * t) 16) with
        | none => rw [e] at b1; cases b1
        | some p =>
          obtain ⟨a, s3⟩ := p
          rw [e, cl_some] at b1
          rw [cl_some]
          by_cases ca : a = 57
          · rw [if_pos ca] at b1 ⊢
            cases e2 : gX10_compareResults (11 + 17 + 2 * t) 57 s3 with
            | none => rw [e2] at b1; cases b1
            | some p =>
              obtain ⟨u4, s4⟩ := p
              rw [e2, cl_some] at b1
              rw [cl_some]
              cases b1
              rfl
          · rw [if_neg ca] at b1
            cases b1
      · rw [if_pos c4]
        obtain ⟨s', d1, d2, d3⟩ := ih (t + 1) (m + 1) fu (B + 4) s1 (vst 2048 Z V t) (by omega) (by omega) a2
        exact ⟨s', d1, d2.mono (by omega), a3.n1.trans d3⟩
    · rw [if_neg c] at hrun
      rw [if_neg c, hrun]
      obtain ⟨s', d1, d2, d3⟩ := ih (t + 1) m fu B s V (by omega) (by omega) h
      exact ⟨s', d1, d2.mono (by omega), d3⟩
theorem c_17 : ∀ (r k m fu B N : Nat) (s : wt_S) (V : vV), r < fu → k + r = N → N ≤ 1000 → NW B s V → ∃ s', gX10_round_17 fu s (nI N) (nI m) (nI k) = some (nI (vrnd Z r m V).1, s') ∧ NW (B + 24 * r) s' (vrnd Z r m V).2 ∧ NF s s' := by
  intro r
  induction r with
  | zero =>
    intro k m fu B N s V hfu hk hN h
    obtain ⟨fu, rfl⟩ : ∃ k, fu = k + 1 := ⟨fu - 1, by omega⟩
    obtain rfl : k = N := by omega
    refine ⟨s, ?_, h, NF.refl⟩
    rw [gX10_round_17, if_pos (Int.le_refl _)]
    rfl
  | succ r ih =>
    intro k m fu B N s V hfu hk hN h
    obtain ⟨fu, rfl⟩ : ∃ k, fu = k + 1 := ⟨fu - 1, by omega⟩
    rw [gX10_round_17, if_neg (by rw [nI_int (by omega), nI_int (by omega)]; omega)]
    obtain ⟨s1, a1, a2, a3⟩ := c_39 (Z := Z) (K := gX10_round_17 fu) (l1 := nI N) (l3 := nI k) 6 0 m wt_N B s V (by unfold wt_N; omega) (by omega) h
    have a1 : gX10_round_39 (gX10_round_17 fu) wt_N s (nI N) (nI m) (nI k) 6 0 = _ := a1
    rw [a1, show nI k + 1 = nI (k + 1) from nI_add k 1]
    obtain ⟨s', b1, b2, b3⟩ := ih (k + 1) (vrn6 Z 6 0 m V).1 fu (B + 24) N s1 (vrn6 Z 6 0 m V).2 (by omega) (by omega) hN a2
    exact ⟨s', b1, b2.mono (by omega), a3.trans b3⟩
theorem c_roundop {n : Int32} (h : NW B s V) : ∃ s', gX10_round s n = some ((vround Z V n).1, s') ∧ NW (B + 2400) s' (vround Z V n).2 ∧ NF s s' := by
  have q1 : (1 : Int32).toInt = 1 := by decide
  have q2 : (100 : Int32).toInt = 100 := by decide
  unfold gX10_round
  by_cases c2 : 1 ≤ n.toInt ∧ n.toInt ≤ 100
  · obtain ⟨m, m1, rfl, m3, m4⟩ := i_nat (x := n) (by omega)
    obtain ⟨s', a1, a2, a3⟩ := c_17 (Z := Z) m 0 0 wt_N B m s V (by unfold wt_N; omega) (by omega) (by omega) h
    rw [if_neg (by rw [q1]; omega), if_pos (by rw [q2]; exact c2.2), show gX10_round_17 wt_N s (nI m) 0 0 = _ from a1]
    unfold vround
    rw [if_pos c2, m3]
    exact ⟨s', rfl, a2.mono (by omega), a3⟩
  · have hv : vround Z V n = (-1, V) := by unfold vround; rw [if_neg c2]
    rw [hv]
    refine ⟨s, ?_, h.mono (by omega), NF.refl⟩
    by_cases c3 : n.toInt < (1 : Int32).toInt
    · rw [if_pos c3]
    · rw [if_neg c3, if_neg (by rw [q2]; rw [q1] at c3; omega)]
end
