/-! ===== questions to the reference: they answer, and nothing that is changes ===== -/
def Ok {α : Type} (P : α → wt_S → Prop) (x : Option (α × wt_S)) : Prop := ∃ r s', x = some (r, s') ∧ P r s'
theorem ok_some {α : Type} {P : α → wt_S → Prop} {r : α} {s : wt_S} (h : P r s) : Ok P (some (r, s)) := ⟨r, s, rfl, h⟩
theorem ok_if {α : Type} {P : α → wt_S → Prop} {c : Prop} [Decidable c] {x y : Option (α × wt_S)} (h1 : c → Ok P x) (h2 : ¬ c → Ok P y) : Ok P (if c then x else y) := by
  by_cases h : c
  · rw [if_pos h]; exact h1 h
  · rw [if_neg h]; exact h2 h
theorem ok_ix {α : Type} {P : α → wt_S → Prop} {i : Int32} {n : Nat} {F : Nat → Option (α × wt_S)} (h1 : 0 ≤ i.toInt) (h2 : i.toInt < n) (h : ∀ k, k < n → i.toInt = k → Ok P (F k)) : Ok P (wt_ix i n F) := by
  unfold wt_ix
  rw [if_pos ⟨h1, h2⟩]
  exact h _ (by omega) (by omega)
theorem ok_cl {α β : Type} {P : α → wt_S → Prop} {Q : β → wt_S → Prop} {x : Option (β × wt_S)} {F : β → wt_S → Option (α × wt_S)} (h1 : Ok Q x) (h2 : ∀ r s, Q r s → Ok P (F r s)) : Ok P (wt_cl x F) := by
  obtain ⟨r, s, e, hq⟩ := h1
  rw [e]
  exact h2 r s hq
theorem ok_wr {α : Type} {P : α → wt_S → Prop} {s : wt_S} {a k : Nat} {v : Int32} {F : wt_S → Option (α × wt_S)} (h : Ok P (F (wt_u s a k v))) : Ok P (wt_wr s a k v F) := h
theorem ok_im {α : Type} {P Q : α → wt_S → Prop} {x : Option (α × wt_S)} (h : Ok P x) (hi : ∀ r s, P r s → Q r s) : Ok Q x := by
  obtain ⟨r, s, e, hp⟩ := h
  exact ⟨r, s, e, hi r s hp⟩
def RO (s s' : wt_S) : Prop := RF s s' ∧ s' 111 = s 111
theorem RO.refl {s : wt_S} : RO s s := ⟨RF.refl, rfl⟩
theorem RO.trans {s s1 s2 : wt_S} (h : RO s s1) (h' : RO s1 s2) : RO s s2 := ⟨h.1.trans h'.1, h'.2.trans h.2⟩
theorem RO.uo {s : wt_S} {k : Nat} {v : Int32} (hk : k ≠ 4) (hk5 : k ≠ 5) : RO s (wt_u s 110 k v) := ⟨RF.uo hk hk5, wt_u_ne (by omega)⟩
theorem RO.u8 {s : wt_S} {k : Nat} {v : Int32} : RO s (wt_u s 118 k v) := ⟨RF.uf (Or.inr (by omega)), wt_u_ne (by omega)⟩
theorem RS.ro {s s' : wt_S} {V : vV} (h : RS s V) (h' : RO s s') : RS s' V := h.of h'.1 h'.2
section
variable {s : wt_S} {V : vV} {t B : Nat}
/-- how many pieces, how many words a task has -/
def vcp (t : Nat) (ps : List vP) : Nat := (ps.filter (fun q => decide (q.2.2.1 = t))).length
def vcw (t : Nat) : List vP → Nat
  | [] => 0
  | q :: ps => (if q.2.2.1 = t then q.2.1 else 0) + vcw t ps
theorem q_piecesOf (h : vr_P (s 111) V.2.1) (ho : vo 2048 V.2.1) (ht : t < 6) : gX11_piecesOf s (nI t) = some (nI (vcp t V.2.1), s) := by
  have loop : ∀ (qs : List vP) (k fu c : Nat), V.2.1.drop k = qs → qs.length < fu → k + qs.length = V.2.1.length → gX11_piecesOf_4 fu s (nI t) (nI c) (nI k) = some (nI (c + vcp t qs), s) := by
    intro qs
    have hl := h.2.1
    induction qs with
    | nil =>
      intro k fu c hd hfu hk
      have hk : k + 0 = V.2.1.length := hk
      obtain ⟨fu, rfl⟩ : ∃ m, fu = m + 1 := ⟨fu - 1, by omega⟩
      rw [gX11_piecesOf_4, h.1, nI_int (by omega), nI_int (by omega), if_pos (by omega)]
      rfl
    | cons q qs ih =>
      intro k fu c hd hfu hk
      have hk : k + (qs.length + 1) = V.2.1.length := hk
      obtain ⟨fu, rfl⟩ : ∃ m, fu = m + 1 := ⟨fu - 1, by omega⟩
      obtain ⟨d1, d2, d3⟩ := drop_cons hd
      have hq : q ∈ V.2.1 := List.mem_of_getElem? d1
      have hq6 := (ho.2 q hq).2.2.1
      have hfu : qs.length + 1 < fu + 1 := hfu
      rw [gX11_piecesOf_4, h.1, nI_int (by omega), nI_int (by omega), if_neg (by omega), li_add, ix_nI (by omega) (by omega), (h.2.2 k q d1).2.2.1]
      unfold gX11_piecesOf_36
      by_cases e : q.2.2.1 = t
      · have hc : vcp t (q :: qs) = 1 + vcp t qs := by unfold vcp; rw [List.filter_cons_of_pos (by simp [e]), List.length_cons, Nat.add_comm]
        rw [if_neg (by rw [e]; simp), nI_1, nI_1, ih (k + 1) fu (c + 1) d2 (by omega) (by omega), hc, Nat.add_assoc]
      · have hc : vcp t (q :: qs) = vcp t qs := by unfold vcp; rw [List.filter_cons_of_neg (by simp [e])]
        rw [if_pos (fun x => e ((nI_inj (by omega) (by omega)).mp x)), Int32.add_zero, nI_1, ih (k + 1) fu c d2 (by omega) (by omega), hc]
  have := loop V.2.1 0 wt_N 0 rfl (by have := h.2.1; unfold wt_N; omega) (by omega)
  rw [Nat.zero_add] at this
  exact this
theorem vcw_le : ∀ {ps : List vP}, vcw t ps ≤ vall ps := by
  intro ps
  induction ps with
  | nil => exact Nat.le_refl _
  | cons q ps ih =>
    show (if q.2.2.1 = t then q.2.1 else 0) + vcw t ps ≤ q.2.1 + vall ps
    split <;> omega
theorem q_wordsOf (h : vr_P (s 111) V.2.1) (ho : vo 2048 V.2.1) (ht : t < 6) : gX11_wordsOf s (nI t) = some (nI (vcw t V.2.1), s) := by
  have loop : ∀ (qs : List vP) (k fu c : Nat), V.2.1.drop k = qs → qs.length < fu → k + qs.length = V.2.1.length → gX11_wordsOf_4 fu s (nI t) (nI c) (nI k) = some (nI (c + vcw t qs), s) := by
    intro qs
    have hl := h.2.1
    induction qs with
    | nil =>
      intro k fu c hd hfu hk
      have hk : k + 0 = V.2.1.length := hk
      obtain ⟨fu, rfl⟩ : ∃ m, fu = m + 1 := ⟨fu - 1, by omega⟩
      rw [gX11_wordsOf_4, h.1, nI_int (by omega), nI_int (by omega), if_pos (by omega)]
      rfl
    | cons q qs ih =>
      intro k fu c hd hfu hk
      have hk : k + (qs.length + 1) = V.2.1.length := hk
      obtain ⟨fu, rfl⟩ : ∃ m, fu = m + 1 := ⟨fu - 1, by omega⟩
      obtain ⟨d1, d2, d3⟩ := drop_cons hd
      have hq : q ∈ V.2.1 := List.mem_of_getElem? d1
      have hq6 := (ho.2 q hq).2.2.1
      have hfu : qs.length + 1 < fu + 1 := hfu
      rw [gX11_wordsOf_4, h.1, nI_int (by omega), nI_int (by omega), if_neg (by omega), li_add, ix_nI (by omega) (by omega), (h.2.2 k q d1).2.2.1, li_add, ix_nI (by omega) (by omega), (h.2.2 k q d1).2.1]
      unfold gX11_wordsOf_45
      by_cases e : q.2.2.1 = t
      · have hc : vcw t (q :: qs) = q.2.1 + vcw t qs := by rw [vcw, if_pos e]
        rw [if_neg (by rw [e]; simp), nI_add, nI_1, ih (k + 1) fu (c + q.2.1) d2 (by omega) (by omega), hc, Nat.add_assoc]
      · have hc : vcw t (q :: qs) = vcw t qs := by rw [vcw, if_neg e, Nat.zero_add]
        rw [if_pos (fun x => e ((nI_inj (by omega) (by omega)).mp x)), Int32.add_zero, nI_1, ih (k + 1) fu c d2 (by omega) (by omega), hc]
  have := loop V.2.1 0 wt_N 0 rfl (by have := h.2.1; unfold wt_N; omega) (by omega)
  rw [Nat.zero_add] at this
  exact this
theorem ok_rd {c : Nat} (ht : t < 7) (hc : (@OfNat.ofNat Nat c (instOfNatNat c)) ≤ 4066) : Ok (fun _ s' => RO s s') (wt_ix ((@OfNat.ofNat Int32 c Int32.instOfNat) + nI t) 4073 fun k => some (s 111 k, s)) := by
  rw [li_add, ix_nI (by omega) (by omega)]
  exact ok_some RO.refl
theorem k_task {x what : Int32} (h : RS s V) (hI : VI 2048 B V) : Ok (fun _ s' => RO s s') (gX11_task s x what) := by
  have ho := hI.J.2.1
  unfold gX11_task
  rw [q_isTask, cl_some, if_rbn]
  refine ok_if (fun c1 => ?_) (fun _ => ok_some RO.refl)
  obtain ⟨t, ht, rfl, etn⟩ := i_task c1
  refine ok_if (fun _ => ok_some RO.refl) (fun c2 => ?_)
  refine ok_if (fun _ => ok_rd (by omega) (by omega)) (fun _ => ?_)
  refine ok_if (fun _ => ok_rd (by omega) (by omega)) (fun _ => ?_)
  refine ok_if (fun _ => ok_rd (by omega) (by omega)) (fun _ => ?_)
  refine ok_if (fun _ => ok_rd (by omega) (by omega)) (fun _ => ?_)
  refine ok_if (fun _ => ok_rd (by omega) (by omega)) (fun _ => ?_)
  refine ok_if (fun _ => ok_rd (by omega) (by omega)) (fun _ => ?_)
  refine ok_if (fun _ => by rw [q_piecesOf h.2.2.1 ho ht, cl_some]; exact ok_some RO.refl) (fun _ => ?_)
  refine ok_if (fun _ => by rw [q_wordsOf h.2.2.1 ho ht, cl_some]; exact ok_some RO.refl) (fun _ => ?_)
  refine ok_if (fun _ => ok_rd (by omega) (by omega)) (fun _ => ?_)
  refine ok_if (fun _ => ok_rd (by omega) (by omega)) (fun _ => ?_)
  refine ok_if (fun _ => ok_rd (by omega) (by omega)) (fun _ => ?_)
  refine ok_if (fun _ => by
    rw [q_busy h ht, cl_some]
    exact ok_if (fun _ => ok_some RO.refl) (fun _ => ok_rd (by omega) (by omega))) (fun _ => ?_)
  refine ok_if (fun _ => ok_rd (by omega) (by omega)) (fun _ => ?_)
  refine ok_if (fun _ => ok_rd (by omega) (by omega)) (fun _ => ?_)
  refine ok_if (fun _ => ok_rd (by omega) (by omega)) (fun _ => ?_)
  refine ok_if (fun _ => ok_rd (by omega) (by omega)) (fun _ => ?_)
  refine ok_if (fun _ => ok_rd (by omega) (by omega)) (fun _ => ?_)
  refine ok_if (fun _ => ok_rd (by omega) (by omega)) (fun _ => ?_)
  refine ok_if (fun _ => ok_rd (by omega) (by omega)) (fun _ => ?_)
  exfalso
  omega
theorem k_count {x : Int32} : Ok (fun _ s' => RO s s') (gX11_count s x) := by
  unfold gX11_count
  rw [q_isIn, cl_some, if_rb]
  refine ok_if (fun c1 => ?_) (fun _ => ok_some RO.refl)
  obtain ⟨n, n1, rfl, n3, n4⟩ := i_nat (x := x) c1.1
  have c2 : (nI n).toInt ≤ 11 := c1.2
  rw [li_add, ix_nI (by omega) (by omega)]
  exact ok_some RO.refl
theorem k_deep {x : Int32} (h : RS s V) (hI : VI 2048 B V) : Ok (fun _ s' => RO s s') (gX11_deep s x) := by
  unfold gX11_deep
  rw [q_isTold, cl_some, if_rb]
  refine ok_if (fun c1 => ?_) (fun _ => ok_some RO.refl)
  obtain ⟨f, f10, rfl, f3, f4⟩ := tld_nat c1
  rw [q_deepOf (hI.2.1.ww h.prog) f10, cl_some]
  exact ok_some RO.refl
theorem k_need {x : Int32} (h : RS s V) (hI : VI 2048 B V) : Ok (fun _ s' => RO s s') (gX11_need s x) := by
  unfold gX11_need
  rw [q_isTold, cl_some, if_rb]
  refine ok_if (fun c1 => ?_) (fun _ => ok_some RO.refl)
  obtain ⟨f, f10, rfl, f3, f4⟩ := tld_nat c1
  obtain ⟨z, z1, z2, z3⟩ := hI.1.2.2.2.1
  rw [(q_need h hI.2.1 f10 z1 (by omega)).1, cl_some]
  exact ok_some RO.refl
theorem k_log {i what : Int32} (h : RS s V) (hI : VI 2048 B V) (hB : B < 2147483000) : Ok (fun _ s' => RO s s') (gX11_log s i what) := by
  obtain ⟨k, k1, k2⟩ := hI.2.2.2.2.1
  have h67 : s 111 2067 = nI k := by rw [h.se (by omega)]; exact k2
  have h26 : ∀ z, z ≤ 40 → Ok (fun _ s' => RO s s') (gX11_log_26 s i what (nI z)) := fun z hz => by
    unfold gX11_log_26
    rw [q_isIn, cl_some, if_rb]
    refine ok_if (fun c1 => ?_) (fun _ => ok_some RO.refl)
    rw [q_isIn, cl_some, if_rb]
    refine ok_if (fun c2 => ?_) (fun _ => ok_some RO.refl)
    obtain ⟨n, n1, rfl, n3, n4⟩ := i_nat (x := i) c1.1
    obtain ⟨m, m1, rfl, m3, m4⟩ := i_nat (x := what) c2.1
    have d2 : (nI m).toInt ≤ 3 := c2.2
    have d1 := c1.2
    by_cases e : z = 0
    · subst e
      have : (nI 0 - 1).toInt = -1 := by decide
      omega
    · rw [li_sub (by omega), n4] at d1
      rw [nI_int (by omega)] at d1
      rw [li_sub (by omega), nI_sub (by omega), li_mul, li_add, nI_add, ix_nI (by omega) (by omega)]
      exact ok_some RO.refl
  unfold gX11_log
  rw [h67, nI_int (by omega)]
  refine ok_if (fun _ => h26 40 (by omega)) (fun c => ?_)
  have c : ¬ (40 : Int) ≤ (k : Int) := c
  exact h26 k (by omega)
theorem k_gap_8 {l1 l2 : Int32} (h : vr_P (s 111) V.2.1) : ∀ (m k fu : Nat) (l3 l4 : Int32), k + m = V.2.1.length + 1 → m < fu → ∃ v, gX11_gap_8 fu s l1 l2 l3 l4 (nI k) = some (v, s) := by
  have hl := h.2.1
  intro m
  induction m with
  | zero =>
    intro k fu l3 l4 hk hfu
    obtain ⟨fu, rfl⟩ : ∃ m, fu = m + 1 := ⟨fu - 1, by omega⟩
    rw [gX11_gap_8, h.1, nI_int (by omega), nI_int (by omega), if_pos (by omega)]
    split
    · exact ⟨_, rfl⟩
    · exact ⟨_, rfl⟩
  | succ m ih =>
    intro k fu l3 l4 hk hfu
    obtain ⟨fu, rfl⟩ : ∃ m, fu = m + 1 := ⟨fu - 1, by omega⟩
    have h92 : ∀ l3 l4 l6 : Int32, ∃ v, gX11_gap_92 (gX11_gap_8 fu) s l1 l2 l3 l4 (nI k) l6 = some (v, s) := by
      intro l3 l4 l6
      unfold gX11_gap_92
      rw [h.1, nI_int (by omega), nI_int (by omega), nI_1]
      split
      · exact ih (k + 1) fu _ _ (by omega) (by omega)
      · rw [li_add, ix_nI (by omega) (by omega)]
        exact ih (k + 1) fu _ _ (by omega) (by omega)
    have h51 : ∀ z0 : Int32, ∃ v, gX11_gap_51 (gX11_gap_8 fu) s l1 l2 l3 l4 (nI k) z0 = some (v, s) := by
      intro z0
      unfold gX11_gap_51
      split
      · exact h92 _ _ _
      split
      · exact h92 _ _ _
      split
      · split
        · exact ⟨_, rfl⟩
        · exact ⟨_, rfl⟩
      · exact ⟨_, rfl⟩
    rw [gX11_gap_8, h.1, nI_int (by omega), nI_int (by omega), if_neg (by omega)]
    split
    · exact h51 _
    · rw [li_add, ix_nI (by omega) (by omega)]
      exact h51 _
theorem k_gap {i what : Int32} (h : vr_P (s 111) V.2.1) : ∃ v, gX11_gap s i what = some (v, s) := k_gap_8 h (V.2.1.length + 1) 0 wt_N 0 0 (by omega) (by have := h.2.1; unfold wt_N; omega)
/-- how many there are -/
theorem k_gapN_8 {l2 : Int32} (h : vr_P (s 111) V.2.1) : ∀ (m k fu j : Nat) (l4 : Int32), k + m = V.2.1.length + 1 → m < fu → j ≤ k → ∃ j', j' ≤ 257 ∧ gX11_gap_8 fu s (-1) l2 (nI j) l4 (nI k) = some (nI j', s) := by
  have hl := h.2.1
  intro m
  induction m with
  | zero =>
    intro k fu j l4 hk hfu hj
    obtain ⟨fu, rfl⟩ : ∃ m, fu = m + 1 := ⟨fu - 1, by omega⟩
    rw [gX11_gap_8, h.1, nI_int (by omega), nI_int (by omega), if_pos (by omega), if_neg (by simp)]
    exact ⟨j, by omega, rfl⟩
  | succ m ih =>
    intro k fu j l4 hk hfu hj
    obtain ⟨fu, rfl⟩ : ∃ m, fu = m + 1 := ⟨fu - 1, by omega⟩
    have h92 : ∀ (j : Nat) (l4 l6 : Int32), j ≤ k + 1 → ∃ j', j' ≤ 257 ∧ gX11_gap_92 (gX11_gap_8 fu) s (-1) l2 (nI j) l4 (nI k) l6 = some (nI j', s) := by
      intro j l4 l6 hj
      unfold gX11_gap_92
      rw [h.1, nI_int (by omega), nI_int (by omega), nI_1]
      split
      · exact ih (k + 1) fu j _ (by omega) (by omega) hj
      · rw [li_add, ix_nI (by omega) (by omega)]
        exact ih (k + 1) fu j _ (by omega) (by omega) hj
    have h51 : ∀ z0 : Int32, ∃ j', j' ≤ 257 ∧ gX11_gap_51 (gX11_gap_8 fu) s (-1) l2 (nI j) l4 (nI k) z0 = some (nI j', s) := by
      intro z0
      unfold gX11_gap_51
      split
      · exact h92 _ _ _ (by omega)
      · rw [if_pos (nI_m1 (by omega)), nI_1]
        exact h92 _ _ _ (by omega)
    rw [gX11_gap_8, h.1, nI_int (by omega), nI_int (by omega), if_neg (by omega)]
    split
    · exact h51 _
    · rw [li_add, ix_nI (by omega) (by omega)]
      exact h51 _
theorem k_greatest (h : vr_P (s 111) V.2.1) : ∃ v, gX11_greatestGap s = some (v, s) := by
  obtain ⟨j', hj, e⟩ := k_gapN_8 (l2 := 0) h (V.2.1.length + 1) 0 wt_N 0 0 (by omega) (by have := h.2.1; unfold wt_N; omega) (by omega)
  have e : gX11_gap s (-1) 0 = some (nI j', s) := e
  have loop : ∀ (m k fu : Nat) (l1 : Int32), (k + m = j' ∨ m = 0 ∧ j' ≤ k) → m < fu → k ≤ 1000 → ∃ v, gX11_greatestGap_4 fu s l1 (nI k) = some (v, s) := by
    intro m
    induction m with
    | zero =>
      intro k fu l1 hk hfu hkb
      obtain ⟨fu, rfl⟩ : ∃ m, fu = m + 1 := ⟨fu - 1, by omega⟩
      rw [gX11_greatestGap_4, e, cl_some, nI_int (by omega), nI_int (by omega), if_pos (by omega)]
      exact ⟨_, rfl⟩
    | succ m ih =>
      intro k fu l1 hk hfu hkb
      obtain ⟨fu, rfl⟩ : ∃ m, fu = m + 1 := ⟨fu - 1, by omega⟩
      obtain ⟨v, ev⟩ := k_gap (i := nI k) (what := 1) h
      rw [gX11_greatestGap_4, e, cl_some, nI_int (by omega), nI_int (by omega), if_neg (by omega), ev, cl_some, ev, cl_some]
      unfold gX11_greatestGap_34
      rw [nI_1]
      split
      · exact ih (k + 1) fu _ (by omega) (by omega) (by omega)
      · exact ih (k + 1) fu _ (by omega) (by omega) (by omega)
  exact loop j' 0 wt_N 0 (by omega) (by unfold wt_N; omega) (by omega)
theorem k_look {what : Int32} (h : RS s V) : Ok (fun _ s' => RO s s') (gX11_look s what) := by
  have hP := h.2.2.1
  have hl := hP.2.1
  have h74 : ∀ (m k fu : Nat) (l2 : Int32), k + m = V.2.1.length → m < fu → ∃ v, gX11_look_74 fu s l2 (nI k) = some (v, s) := by
    intro m
    induction m with
    | zero =>
      intro k fu l2 hk hfu
      obtain ⟨fu, rfl⟩ : ∃ m, fu = m + 1 := ⟨fu - 1, by omega⟩
      rw [gX11_look_74, hP.1, nI_int (by omega), nI_int (by omega), if_pos (by omega)]
      exact ⟨_, rfl⟩
    | succ m ih =>
      intro k fu l2 hk hfu
      obtain ⟨fu, rfl⟩ : ∃ m, fu = m + 1 := ⟨fu - 1, by omega⟩
      rw [gX11_look_74, hP.1, nI_int (by omega), nI_int (by omega), if_neg (by omega), li_add, ix_nI (by omega) (by omega), nI_1]
      exact ih (k + 1) fu _ (by omega) (by omega)
  have h123 : ∀ (m k fu : Nat) (l2 : Int32), k + m = 3 → m < fu → ∃ v, gX11_look_123 fu s l2 (nI k) = some (v, s) := by
    intro m
    induction m with
    | zero =>
      intro k fu l2 hk hfu
      obtain ⟨fu, rfl⟩ : ∃ m, fu = m + 1 := ⟨fu - 1, by omega⟩
      rw [gX11_look_123, nI_int (by omega), if_pos (by show (3 : Int) ≤ _; omega)]
      exact ⟨_, rfl⟩
    | succ m ih =>
      intro k fu l2 hk hfu
      obtain ⟨fu, rfl⟩ : ∃ m, fu = m + 1 := ⟨fu - 1, by omega⟩
      rw [gX11_look_123, nI_int (by omega), if_neg (by show ¬ (3 : Int) ≤ _; omega), li_add, ix_nI (by omega) (by omega)]
      unfold gX11_look_148
      rw [nI_1]
      split
      · exact ih (k + 1) fu _ (by omega) (by omega)
      · exact ih (k + 1) fu _ (by omega) (by omega)
  have hst : ∀ x : Int32, ∃ v, gX11_statesOf s x = some (v, s) := by
    intro x
    have loop : ∀ (m k fu : Nat) (l2 : Int32), k + m = 6 → m < fu → ∃ v, gX11_statesOf_4 fu s x l2 (nI k) = some (v, s) := by
      intro m
      induction m with
      | zero =>
        intro k fu l2 hk hfu
        obtain ⟨fu, rfl⟩ : ∃ m, fu = m + 1 := ⟨fu - 1, by omega⟩
        rw [gX11_statesOf_4, nI_int (by omega), if_pos (by show (6 : Int) ≤ _; omega)]
        exact ⟨_, rfl⟩
      | succ m ih =>
        intro k fu l2 hk hfu
        obtain ⟨fu, rfl⟩ : ∃ m, fu = m + 1 := ⟨fu - 1, by omega⟩
        rw [gX11_statesOf_4, nI_int (by omega), if_neg (by show ¬ (6 : Int) ≤ _; omega), li_add, ix_nI (by omega) (by omega)]
        unfold gX11_statesOf_30
        rw [nI_1]
        split
        · exact ih (k + 1) fu _ (by omega) (by omega)
        · exact ih (k + 1) fu _ (by omega) (by omega)
    exact loop 6 0 wt_N 0 (by omega) (by unfold wt_N; omega)
  have htd : ∀ x : Int32, ∃ v, gX11_told s x = some (v, s) := by
    intro x
    have loop : ∀ (m k fu : Nat) (l2 : Int32), k + m = 10 → m < fu → ∃ v, gX11_told_4 fu s x l2 (nI k) = some (v, s) := by
      intro m
      induction m with
      | zero =>
        intro k fu l2 hk hfu
        obtain ⟨fu, rfl⟩ : ∃ m, fu = m + 1 := ⟨fu - 1, by omega⟩
        rw [gX11_told_4, nI_int (by omega), if_pos (by show (10 : Int) ≤ _; omega)]
        exact ⟨_, rfl⟩
      | succ m ih =>
        intro k fu l2 hk hfu
        obtain ⟨fu, rfl⟩ : ∃ m, fu = m + 1 := ⟨fu - 1, by omega⟩
        rw [gX11_told_4, nI_int (by omega), if_neg (by show ¬ (10 : Int) ≤ _; omega), q_isTold, cl_some]
        unfold gX11_told_37
        rw [nI_1]
        split
        · exact ih (k + 1) fu _ (by omega) (by omega)
        split
        · exact ih (k + 1) fu _ (by omega) (by omega)
        · rw [li_add, ix_nI (by omega) (by omega)]
          exact ih (k + 1) fu _ (by omega) (by omega)
    exact loop 10 0 wt_N 0 (by omega) (by unfold wt_N; omega)
  have hw : ∀ x : Option (Int32 × wt_S), (∃ v, x = some (v, s)) → Ok (fun _ s' => RO s s') x := fun x ⟨v, e⟩ => ⟨v, s, e, RO.refl⟩
  have hw2 : ∀ x : Option (Int32 × wt_S), (∃ v, x = some (v, s)) → Ok (fun _ s' => RO s s') (wt_cl x fun v s' => some (v, s')) := fun x ⟨v, e⟩ => by rw [e, cl_some]; exact ok_some RO.refl
  unfold gX11_look
  rw [q_isIn, cl_some, if_rb]
  refine ok_if (fun c1 => ?_) (fun c1 => ?_)
  · obtain ⟨n, n1, rfl, n3, n4⟩ := i_nat (x := what) c1.1
    have c2 : (nI n).toInt ≤ 5 := c1.2
    rw [li_add, ix_nI (by omega) (by omega)]
    exact ok_some RO.refl
  refine ok_if (fun _ => ok_some RO.refl) (fun c2 => ?_)
  refine ok_if (fun _ => hw _ (h74 V.2.1.length 0 wt_N 0 (by omega) (by unfold wt_N; omega))) (fun _ => ?_)
  refine ok_if (fun _ => ok_some RO.refl) (fun _ => ?_)
  refine ok_if (fun _ => hw2 _ (k_greatest hP)) (fun _ => ?_)
  refine ok_if (fun _ => hw _ (h123 3 0 wt_N 0 (by omega) (by unfold wt_N; omega))) (fun _ => ?_)
  refine ok_if (fun _ => hw2 _ (hst 1)) (fun _ => ?_)
  refine ok_if (fun _ => hw2 _ (hst 2)) (fun _ => ?_)
  refine ok_if (fun _ => hw2 _ (htd 0)) (fun _ => ?_)
  refine ok_if (fun _ => hw2 _ (htd 1)) (fun _ => ?_)
  refine ok_if (fun _ => ok_some RO.refl) (fun _ => ?_)
  exfalso
  omega
theorem k_endless {f a what : Int32} (h : RS s V) (hI : VI 2048 B V) : Ok (fun _ s' => RS s' V ∧ RF s s') (gX11_endless s f a what) := by
  unfold gX11_endless gX11_endless_26
  rw [q_isTold, cl_some, if_rb]
  refine ok_if (fun c1 => ?_) (fun _ => ok_some ⟨h, RF.refl⟩)
  rw [q_isIn, cl_some, if_rb]
  refine ok_if (fun c2 => ?_) (fun _ => ok_some ⟨h, RF.refl⟩)
  obtain ⟨z, z1, z2, z3⟩ := hI.1.2.2.2.1
  obtain ⟨s', e1, e2, e3, -⟩ := e_run (a := a) h hI.2.1 ⟨z, z1, z3⟩ (h.prog.tl.mp c1)
  rw [e1, cl_some]
  refine ok_if (fun _ => ok_if (fun _ => ok_if (fun _ => ok_some ⟨e2, e3⟩) (fun _ => ok_some ⟨e2, e3⟩)) (fun _ => ok_some ⟨e2, e3⟩)) (fun _ => ok_some ⟨e2, e3⟩)
end
