/-! ===== the class: how many pieces and words a task has ===== -/
theorem vsum_at {g g' : Nat → Nat} {j : Nat} (hg : ∀ k, k ≠ j → g' k = g k) : ∀ {n : Nat}, (j < n → vsum g' n + g j = vsum g n + g' j) ∧ (n ≤ j → vsum g' n = vsum g n) := by
  intro n
  induction n with
  | zero => exact ⟨fun h => absurd h (Nat.not_lt_zero _), fun _ => rfl⟩
  | succ n ih =>
    obtain ⟨i1, i2⟩ := ih
    refine ⟨fun h => ?_, fun h => ?_⟩
    · show vsum g' n + g' n + g j = vsum g n + g n + g' j
      by_cases e : j = n
      · subst e
        rw [i2 (Nat.le_refl _)]
        omega
      · rw [hg n (fun q => e q.symm)]
        have := i1 (by omega)
        omega
    · show vsum g' n + g' n = vsum g n + g n
      rw [hg n (by omega), i2 (by omega)]
section
variable {b lim t np k : Nat} {s : wt_S} {ps : List vP} {q : vP} {zs : List (vP × Nat)} {fr : List Nat}
theorem vln_no : ∀ {ps : List vP}, (∀ q ∈ ps, ¬ (q.2.2.1 = t ∧ q.2.2.2 = k)) → vln ps t k = 0 := by
  intro ps
  induction ps with
  | nil => intro _; rfl
  | cons p ps ih =>
    intro h
    rw [vln_cons, if_neg (h p (List.mem_cons_self ..))]
    exact ih (fun q hq => h q (List.mem_cons_of_mem _ hq))
theorem vln_at : ∀ {ps : List vP}, ps.Pairwise (fun p q => ¬ (p.2.2.1 = q.2.2.1 ∧ p.2.2.2 = q.2.2.2)) → q ∈ ps → vln ps q.2.2.1 q.2.2.2 = q.2.1 := by
  intro ps
  induction ps with
  | nil => intro _ h; cases h
  | cons p ps ih =>
    intro h hq
    obtain ⟨h1, h2⟩ := List.pairwise_cons.mp h
    rcases List.mem_cons.mp hq with e | hq'
    · subst e
      rw [vln_cons, if_pos ⟨rfl, rfl⟩]
    · rw [vln_cons, if_neg (h1 q hq')]
      exact ih h2 hq'
theorem vcw_sum (hnp : np ≤ 1000) : ∀ {ps : List vP}, ps.Pairwise (fun p q => ¬ (p.2.2.1 = q.2.2.1 ∧ p.2.2.2 = q.2.2.2)) → (∀ q ∈ ps, q.2.2.1 = t → q.2.2.2 < np ∨ q.2.2.2 = 1000) → vcw t ps = vsum (fun k => vln ps t k) np + vln ps t 1000 := by
  intro ps
  induction ps with
  | nil =>
    intro _ _
    have h0 : vsum (fun k => vln [] t k) np = 0 := vsum_0 (fun j _ => rfl)
    rw [h0]
    rfl
  | cons q ps ih =>
    intro h hn
    obtain ⟨h1, h2⟩ := List.pairwise_cons.mp h
    have hi := ih h2 (fun p hp => hn p (List.mem_cons_of_mem _ hp))
    show (if q.2.2.1 = t then q.2.1 else 0) + vcw t ps = _
    rw [hi]
    by_cases c : q.2.2.1 = t
    · have e : ∀ k, k ≠ q.2.2.2 → vln (q :: ps) t k = vln ps t k := fun k hk => by rw [vln_cons, if_neg (fun x => hk x.2.symm)]
      have e2 : vln (q :: ps) t q.2.2.2 = q.2.1 := by rw [vln_cons, if_pos ⟨c, rfl⟩]
      have e3 : vln ps t q.2.2.2 = 0 := vln_no (fun p hp x => h1 p hp ⟨c.trans x.1.symm, x.2.symm⟩)
      rw [if_pos c]
      rcases hn q (List.mem_cons_self ..) c with hlt | heq
      · have h3 : vsum (fun k => vln (q :: ps) t k) np + vln ps t q.2.2.2 = vsum (fun k => vln ps t k) np + vln (q :: ps) t q.2.2.2 := (vsum_at (g := fun k => vln ps t k) (g' := fun k => vln (q :: ps) t k) e).1 hlt
        rw [e2, e3] at h3
        rw [e 1000 (by omega)]
        omega
      · have h3 : vsum (fun k => vln (q :: ps) t k) np = vsum (fun k => vln ps t k) np := (vsum_at (g := fun k => vln ps t k) (g' := fun k => vln (q :: ps) t k) e).2 (by omega)
        rw [heq] at e2 e3
        rw [h3, e2, e3]
        omega
    · have e : ∀ k, vln (q :: ps) t k = vln ps t k := fun k => by rw [vln_cons, if_neg (fun x => c x.1)]
      rw [if_neg c, show (fun k => vln (q :: ps) t k) = (fun k => vln ps t k) from funext e, e 1000, Nat.zero_add]
theorem nI_nm {k : Nat} (h : k < 2147483648) : nI k ≠ -1 := fun e => by
  have := congrArg Int32.toInt e
  rw [nI_int h, m1_int] at this
  omega
theorem c_taskWords (hP : PC b lim s zs fr) (hm : zs.map Prod.fst = ps) (hu : ps.Pairwise (fun p q => ¬ (p.2.2.1 = q.2.2.1 ∧ p.2.2.2 = q.2.2.2))) (hit : Itp ps t np) (hnp : np ≤ 256) (hch : Ch b s zs t np) : gX9_wordsOf b (b + 17 + 2 * t) s = some (nI (vcw t ps), s) := by
  have mem : ∀ z ∈ zs, z.1 ∈ ps := fun z hz => by rw [← hm]; exact List.mem_map.mpr ⟨z, hz, rfl⟩
  have loop : ∀ (m c fu acc : Nat) (x : Int32), c + m = np → m < fu → ((m = 0 → x = -1) ∧ ∀ z ∈ zs, z.1.2.2.1 = t → z.1.2.2.2 + 1 = m → x = nI z.2) → gX9_wordsOf_20 b (b + 17 + 2 * t) fu s (nI acc) x (nI c) = some (nI (acc + vsum (fun k => vln ps t k) m), s) := by
    intro m
    induction m with
    | zero =>
      intro c fu acc x hc hfu hx
      obtain ⟨fu, rfl⟩ : ∃ k, fu = k + 1 := ⟨fu - 1, by omega⟩
      rw [gX9_wordsOf_20, hx.1 rfl]
      by_cases c1 : (256 : Int32).toInt ≤ (nI c).toInt
      · rw [if_pos c1]; rfl
      · rw [if_neg c1, if_pos rfl]; rfl
    | succ m ih =>
      intro c fu acc x hc hfu hx
      obtain ⟨fu, rfl⟩ : ∃ k, fu = k + 1 := ⟨fu - 1, by omega⟩
      obtain ⟨q, q1, q2, q3⟩ := hit.1 m (by omega)
      rw [← hm] at q1
      obtain ⟨z, hz, rfl⟩ := List.mem_map.mp q1
      obtain ⟨z1, z2, z3, z4⟩ := hP.mem hz
      have hw : vln ps t m = z.1.2.1 := by
        have := vln_at hu (mem z hz)
        rw [q2, q3] at this
        exact this
      have hcz := hch.2.2 z hz q2
      rw [gX9_wordsOf_20, hx.2 z hz q2 (by omega), if_neg (c_hi (by omega)), if_neg (nI_nm (by omega)), c_wordsOf z1, cl_some, c_belowOf z1, cl_some, z3, nI_add, show nI c + 1 = nI (c + 1) from nI_add c 1, ih (c + 1) fu (acc + z.1.2.1) _ (by omega) (by omega) ⟨fun e => hcz.1 (by omega), fun y hy hyt hyn => hcz.2 y hy hyt (by omega)⟩]
      show some (nI (acc + z.1.2.1 + vsum (fun k => vln ps t k) m), s) = some (nI (acc + (vsum (fun k => vln ps t k) m + vln ps t m)), s)
      rw [hw, show acc + z.1.2.1 + vsum (fun k => vln ps t k) m = acc + (vsum (fun k => vln ps t k) m + z.1.2.1) by omega]
  have hsp : gX5_wordsOf b s (s (b + 17 + 2 * t) 13) = some (nI (vln ps t 1000), s) := by
    by_cases c : ∃ z ∈ zs, z.1.2.2.1 = t ∧ z.1.2.2.2 = 1000
    · obtain ⟨z, hz, e1, e2⟩ := c
      obtain ⟨z1, z2, z3, z4⟩ := hP.mem hz
      have hw := vln_at hu (mem z hz)
      rw [e1, e2] at hw
      rw [hch.2.1.1 z hz e1 e2, c_wordsOf z1, z3, hw]
    · rw [hch.2.1.2 (fun z hz e => c ⟨z, hz, e⟩), c_wordsOf_m, vln_no (fun q hq e => ?_)]
      · rfl
      · rw [← hm] at hq
        obtain ⟨z, hz, rfl⟩ := List.mem_map.mp hq
        exact c ⟨z, hz, e⟩
  unfold gX9_wordsOf
  rw [hsp, cl_some, show gX9_wordsOf_20 b (b + 17 + 2 * t) wt_N s (nI (vln ps t 1000)) (s (b + 17 + 2 * t) 12) 0 = _ from loop np 0 wt_N _ _ (by omega) (by unfold wt_N; omega) hch.1, vcw_sum (by omega) hu hit.2, Nat.add_comm]
end
