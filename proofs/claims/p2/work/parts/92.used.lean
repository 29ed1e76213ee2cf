/-! ===== the reference: words used in a piece; piece; never ===== -/
theorem len_lt : ∀ (n : Nat) (ns : List Nat), ns.Nodup → (∀ x ∈ ns, x < n) → ns.length ≤ n := by
  intro n
  induction n with
  | zero =>
    intro ns _ h
    cases ns with
    | nil => exact Nat.le_refl _
    | cons a ns => exact absurd (h a (List.mem_cons_self ..)) (Nat.not_lt_zero _)
  | succ n ih =>
    intro ns hn h
    by_cases c : n ∈ ns
    · have h1 := ih (ns.erase n) (hn.erase n) (fun x hx => by
        have hx := (List.Nodup.mem_erase_iff hn).mp hx
        have := h x hx.2
        have := hx.1
        omega)
      rw [List.length_erase_of_mem c] at h1
      omega
    · have := ih ns hn (fun x hx => by
        have h1 := h x hx
        have : x ≠ n := fun e => c (e ▸ hx)
        omega)
      omega
section
variable {s : wt_S} {V : vV} {t B : Nat}
/-- pieces of a task without a spare are as many as their numbers say -/
theorem vcp_le {np : Nat} {ps : List vP} (hu : ps.Pairwise (fun p q => ¬ (p.2.2.1 = q.2.2.1 ∧ p.2.2.2 = q.2.2.2))) (hi : ∀ q ∈ ps, q.2.2.1 = t → q.2.2.2 < np) : vcp t ps ≤ np := by
  have h1 : ((ps.filter (fun q => decide (q.2.2.1 = t))).map (fun q => q.2.2.2)).length = vcp t ps := by unfold vcp; rw [List.length_map]
  rw [← h1]
  refine len_lt np _ ?_ (fun x hx => ?_)
  · unfold List.Nodup
    rw [List.pairwise_map]
    refine List.Pairwise.imp_of_mem ?_ (hu.sublist List.filter_sublist)
    intro a b ha hb hab e
    have ha : a.2.2.1 = t := by simpa using (List.mem_filter.mp ha).2
    have hb : b.2.2.1 = t := by simpa using (List.mem_filter.mp hb).2
    exact hab ⟨ha.trans hb.symm, e⟩
  · obtain ⟨q, q1, q2⟩ := List.mem_map.mp hx
    have h2 := List.mem_filter.mp q1
    have h3 : q.2.2.1 = t := by simpa using h2.2
    have := hi q h2.1 h3
    omega
theorem vud_0 {w : Nat → Int32} {fr : Nat → vF} {k : Nat} : ∀ {n : Nat}, (∀ i, i < n → (fr i).2.1 ≠ k) → vud w fr k n = 0 := by
  intro n
  induction n with
  | zero => intro _; rfl
  | succ n ih =>
    intro h
    rw [vud, ih (fun i hi => h i (by omega)), if_neg (h n (by omega))]
theorem vud_eq {w : Nat → Int32} {fr : Nat → vF} {k j : Nat} : ∀ {n : Nat}, j ≤ n → (∀ i, j ≤ i → i < n → (fr i).2.1 ≠ k) → vud w fr k n = vud w fr k j := by
  intro n
  induction n with
  | zero => intro h _; have : j = 0 := by omega
            subst this; rfl
  | succ n ih =>
    intro h h2
    by_cases e : j = n + 1
    · subst e; rfl
    · rw [vud, ih (by omega) (fun i h3 h4 => h2 i h3 (by omega)), if_neg (h2 n (by omega) (by omega)), Nat.add_zero]
theorem q_usedIn {np m x : Nat} {q : vP} (h : RS s V) (hI : VI 2048 B V) (ht : t < 6) (hb : vbz V.1 t) (hnp : V.1 (4066 + t) = nI np) (hn256 : np ≤ 256) (hx : V.2.1[x]? = some q) (hq1 : q.2.2.1 = t) (hq2 : q.2.2.2 = m) (hm : m < np) : gX11_usedIn s (nI t) (nI x) = some (nI (vud V.1 (V.2.2.2 t) m (V.2.2.1 t)), s) := by
  obtain ⟨np', z, z2, z3, k, l, hP, h0, -⟩ := hI.opn ht hb (by omega)
  obtain ⟨hj, hc, -, -, -, -, -, -, -⟩ := hP
  have hnp256 := hc.2.2.1
  have hnp' : np' = np := (nI_inj (by omega) (by omega)).mp (by rw [← hc.2.1, hnp])
  obtain ⟨d1, d2, d3, d4, d5⟩ := hc.2.2.2.2.2.2.1 h0
  have hN := hI.n ht
  have hxl := (List.getElem?_eq_some_iff.mp hx).1
  have hx256 := h.2.2.1.2.1
  obtain ⟨r1, r2, r3, r4⟩ := h.2.2.1.2.2 x q hx
  have hmem : q ∈ V.2.1 := List.mem_of_getElem? hx
  have hsm : m < np' := by omega
  have hat : vat V.2.1 t m = q.1 ∧ vln V.2.1 t m = q.2.1 := by
    obtain ⟨q', a1, a2, a3, a4, a5, -⟩ := vget (hc.2.2.2.1.1 m hsm)
    have : q' = q := vuniq hj.2.2.1 q' a1 q hmem (a2.trans hq1.symm) (a3.trans hq2.symm)
    subst this
    exact ⟨a4, a5⟩
  have hqo := hj.2.1.2 q hmem
  unfold gX11_usedIn
  rw [li_add, ix_nI (by omega) (by omega), r4, hq2, if_pos (fun e => by
    have := (nI_inj (a := m) (b := 1000) (by omega) (by omega)).mp e
    omega), ix_nI (by omega) (by omega), r4, hq2, li_add, ix_nI (by omega) (by omega), h.tk (c := 4066) (by omega) ht, hc.2.1, li_sub (by omega)]
  by_cases cm : m = np' - 1
  · have htop := hc.top
    have htv : vtop V t = q.1 + vud V.1 (V.2.2.2 t) m (V.2.2.1 t) := by rw [htop, ← cm, hat.1]
    rw [if_neg (by rw [cm]; simp), q_topOf h hj rfl hc ht, cl_some, li_add, ix_nI (by omega) (by omega), r1, htv, nI_sub (by omega), Nat.add_sub_cancel_left]
  · rw [if_pos (fun e => cm ((nI_inj (by omega) (by omega)).mp e)), li_add, ix_nI (by omega) (by omega), h.tk (c := 3982) (by omega) ht, d4, li_add, ix_nI (by omega) (by omega), h.tk (c := 3975) (by omega) ht, d5]
    have loop : ∀ (j fu : Nat), j < fu → j < V.2.2.1 t → (∀ i, j < i → i < V.2.2.1 t → (V.2.2.2 t i).2.1 ≠ m) → gX11_usedIn_83 fu s (nI x) (nI (vpl V t j)) (nI (V.2.2.2 t j).1) = some (nI (vud V.1 (V.2.2.2 t) m (V.2.2.1 t)), s) := by
      intro j
      induction j with
      | zero =>
        intro fu hfu hi hno
        obtain ⟨fu, rfl⟩ : ∃ m, fu = m + 1 := ⟨fu - 1, by omega⟩
        obtain ⟨y, qy, y1, y2, y3, y4, y5, y6⟩ := q_pcAt h hj ht hi
        obtain ⟨f1, f2, f3⟩ := hj.fit ht hi
        unfold vwd at f3
        rw [gX11_usedIn_83, y1, cl_some]
        by_cases e : y = x
        · subst e
          rw [y2] at hx
          cases hx
          have hpm : (V.2.2.2 t 0).2.1 = m := by rw [← y5]; exact hq2
          have hud : vud V.1 (V.2.2.2 t) m (V.2.2.1 t) = (V.2.2.2 t 0).2.2.1 + vwd V.1 (V.2.2.2 t 0).1 := by
            rw [vud_eq (j := 0 + 1) (by omega) (fun i h1 h2 => hno i (by omega) h2), ← hpm, d1.ud 0 hi]
          have hpl : vpl V t 0 = q.1 + (V.2.2.2 t 0).2.2.1 := by unfold vpl; rw [y6]
          rw [if_pos rfl, q_frameOf f1, cl_some, li_add, ix_nI (by omega) (by omega), r1, h.pr (c := 2228 + (V.2.2.2 t 0).1) (by omega), (hj.1.wd f1).1, nI_add, nI_sub (by omega), hud]
          congr 3
          omega
        · rw [if_neg (fun e2 => e ((nI_inj (by omega) (by omega)).mp e2)), ix_nI (by omega) (by omega), (h.wd hj rfl ht hi).1, if_pos rfl, if_neg (by simp)]
          have hpm : (V.2.2.2 t 0).2.1 ≠ m := fun e2 => e (vidx hj.2.1 y2 (by
            have : qy = q := vuniq hj.2.2.1 qy (List.mem_of_getElem? y2) q hmem (y4.trans hq1.symm) (by rw [y5, e2, hq2])
            rw [this]; exact hx))
          rw [vud_0 (fun i hi2 => by
            by_cases e0 : i = 0
            · subst e0; exact hpm
            · exact hno i (by omega) hi2)]
          rfl
      | succ j ih =>
        intro fu hfu hi hno
        obtain ⟨fu, rfl⟩ : ∃ m, fu = m + 1 := ⟨fu - 1, by omega⟩
        obtain ⟨y, qy, y1, y2, y3, y4, y5, y6⟩ := q_pcAt h hj ht hi
        obtain ⟨f1, f2, f3⟩ := hj.fit ht hi
        unfold vwd at f3
        rw [gX11_usedIn_83, y1, cl_some]
        by_cases e : y = x
        · subst e
          rw [y2] at hx
          cases hx
          have hpm : (V.2.2.2 t (j + 1)).2.1 = m := by rw [← y5]; exact hq2
          have hud : vud V.1 (V.2.2.2 t) m (V.2.2.1 t) = (V.2.2.2 t (j + 1)).2.2.1 + vwd V.1 (V.2.2.2 t (j + 1)).1 := by
            rw [vud_eq (j := j + 1 + 1) (by omega) (fun i h1 h2 => hno i (by omega) h2), ← hpm, d1.ud (j + 1) hi]
          have hpl : vpl V t (j + 1) = q.1 + (V.2.2.2 t (j + 1)).2.2.1 := by unfold vpl; rw [y6]
          rw [if_pos rfl, q_frameOf f1, cl_some, li_add, ix_nI (by omega) (by omega), r1, h.pr (c := 2228 + (V.2.2.2 t (j + 1)).1) (by omega), (hj.1.wd f1).1, nI_add, nI_sub (by omega), hud]
          congr 3
          omega
        · have hpm : (V.2.2.2 t (j + 1)).2.1 ≠ m := fun e2 => e (vidx hj.2.1 y2 (by
            have : qy = q := vuniq hj.2.2.1 qy (List.mem_of_getElem? y2) q hmem (y4.trans hq1.symm) (by rw [y5, e2, hq2])
            rw [this]; exact hx))
          have hlow : vpl V t j < 2048 := by
            have := (hj.fit ht (show j < V.2.2.1 t by omega)).2.2
            unfold vwd at this
            omega
          obtain ⟨w1, w2, -⟩ := h.wd hj rfl ht hi
          rw [if_neg (by omega), Nat.add_sub_cancel] at w1
          obtain ⟨b1, b2, -⟩ := d3.2.2.1 j hi
          obtain ⟨-, -, bb3, -⟩ := bk_at b1
          rw [if_neg (fun e2 => e ((nI_inj (by omega) (by omega)).mp e2)), ix_nI (by omega) (by omega), w1, if_pos (nI_m1 (by omega)), li_add2, ix_nI (by omega) (by omega), w2, ix_nI (by omega) (by omega), w1, bb3, b2]
          refine ih fu (by omega) (by omega) (fun i h1 h2 => ?_)
          by_cases e0 : i = j + 1
          · subst e0; exact hpm
          · exact hno i (by omega) h2
    exact loop (V.2.2.1 t - 1) wt_N (by unfold wt_N; omega) (by omega) (fun i h1 h2 => by omega)
end
