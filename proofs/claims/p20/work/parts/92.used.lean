section
/-! ===== the reference: words used in a piece; piece; never ===== -/
theorem len_lt : ∀ (n : Nat) (ns : List Nat), ns.Nodup → (∀ x ∈ ns, x < n) → ns.length ≤ n := by
  intro n
  induction n with
  | zero =>
    intro ns _ h
    cases ns with
    | nil => exact Nat.le_refl _
    | cons a ns => exact absurd (h a (List.mem_cons_self ..)) (Nat.not_lt_zero _)
  | succ n ih =>
    intro ns hn h
    by_cases c : n ∈ ns
    · have h1 := ih (ns.erase n) (hn.erase n) (fun x hx => by
        have hx := (List.Nodup.mem_erase_iff hn).mp hx
        have := h x hx.2
        have := hx.1
        omega)
      rw [List.length_erase_of_mem c] at h1
      omega
    · have := ih ns hn (fun x hx => by
        have h1 := h x hx
        have : x ≠ n := fun e => c (e ▸ hx)
        omega)
      omega
section
variable {s : wt_S} {V : vV} {t B : Nat}
/-- pieces of a task without a spare are as many as their numbers say -/
theorem vcp_le {np : Nat} {ps : List vP} (hu : ps.Pairwise (fun p q => ¬ (p.2.2.1 = q.2.2.1 ∧ p.2.2.2 = q.2.2.2))) (hi : ∀ q ∈ ps, q.2.2.1 = t → q.2.2.2 < np) : vcp t ps ≤ np := by
  have h1 : ((ps.filter (fun q => decide (q.2.2.1 = t))).map (fun q => q.2.2.2)).length = vcp t ps := by unfold vcp; rw [List.length_map]
  rw [← h1]
  refine len_lt np _ ?_ (fun x hx => ?_)
  · unfold List.Nodup
    rw [List.pairwise_map]
    refine List.Pairwise.imp_of_mem ?_ (hu.sublist List.filter_sublist)
    intro a b ha hb hab e
    have ha : a.2.2.1 = t := by simpa using (List.mem_filter.mp ha).2
    have hb : b.2.2.1 = t := by simpa using (List.mem_filter.mp hb).2
    exact hab ⟨ha.trans hb.symm, e⟩
  · obtain ⟨q, q1, q2⟩ := List.mem_map.mp hx
    have h2 := List.mem_filter.mp q1
    have h3 : q.2.2.1 = t := by simpa using h2.2
    have := hi q h2.1 h3
    omega
theorem vud_0 {w : Nat → Int32} {fr : Nat → vF} {k : Nat} : ∀ {n : Nat}, (∀ i, i < n → (fr i).2.1 ≠ k) → vud w fr k n = 0 := by
  intro n
  induction n with
  | zero => intro _; rfl
  | succ n ih =>
    intro h
    rw [vud, ih (fun i hi => h i (by omega)), if_neg (h n (by omega))]
theorem vud_eq {w : Nat → Int32} {fr : Nat → vF} {k j : Nat} : ∀ {n : Nat}, j ≤ n → (∀ i, j ≤ i → i < n → (fr i).2.1 ≠ k) → vud w fr k n = vud w fr k j := by
  intro n
  induction n with
  | zero => intro h _; have : j = 0 := by omega
            subst this; rfl
  | succ n ih =>
    intro h h2
    by_cases e : j = n + 1
    · subst e; rfl
    · rw [vud, ih (by omega) (fun i h3 h4 => h2 i h3 (by omega)), if_neg (h2 n (by omega) (by omega)), Nat.add_zero]
theorem q_usedIn {np m x : Nat} {q : vP} (h : RS s V) (hI : VI 2048 B V) (ht : t < 6) (hb : vbz V.1 t) (hnp : V.1 (4066 + t) = nI np) (hn256 : np ≤ 256) (hx : V.2.1[x]? = some q) (hq1 : q.2.2.1 = t) (hq2 : q.2.2.2 = m) (hm : m < np) : gX11_usedIn s (nI t) (nI x) = some (nI (vud V.1 (V.2.2.2 t) m (V.2.2.1 t)), s) := by
  obtain ⟨np', z, z2, z3, k, l, hP, h0, -⟩ := hI.opn ht hb (by omega)
  obtain ⟨hj, hc, -, -, -, -, -, -, -⟩ := hP
  have hnp256 := hc.2.2.1
  have hnp' : np' = np := (nI_inj (by omega) (by omega)).mp (by rw [← hc.2.1, hnp])
  obtain ⟨d1, d2, d3, d4, d5⟩ := hc.2.2.2.2.2.2.1 h0
  have hN := hI.n ht
  have hxl := (List.getElem?_eq_some_iff.mp hx).1
  have hx256 := h.2.2.1.2.1
  obtain ⟨r1, r2, r3, r4⟩ := h.2.2.1.2.2 x q hx
  have hmem : q ∈ V.2.1 := List.mem_of_getElem? hx
  have hsm : m < np' := by omega
  have hat : vat V.2.1 t m = q.1 ∧ vln V.2.1 t m = q.2.1 := by
    obtain ⟨q', a1, a2, a3, a4, a5, -⟩ := vget (hc.2.2.2.1.1 m hsm)
    have : q' = q := vuniq hj.2.2.1 q' a1 q hmem (a2.trans hq1.symm) (a3.trans hq2.symm)
    subst this
    exact ⟨a4, a5⟩
  have hqo := hj.2.1.2 q hmem
  unfold gX11_usedIn
  rw [li_add, ix_nI (by omega) (by omega), r4, hq2, if_pos (fun e => by
    have := (nI_inj (a := m) (b := 1000) (by omega) (by omega)).mp e
    omega), ix_nI (by omega) (by omega), r4, hq2, li_add, ix_nI (by omega) (by omega), h.tk (c := 4066) (by omega) ht, hc.2.1, li_sub (by omega)]
  by_cases cm : m = np' - 1
  · have htop := hc.top
    have htv : vtop V t = q.1 + vud V.1 (V.2.2.2 t) m (V.2.2.1 t) := by rw [htop, ← cm, hat.1]
    rw [if_neg (by rw [cm]; simp), q_topOf h hj rfl hc ht, cl_some, li_add, ix_nI (by omega) (by omega), r1, htv, nI_sub (by omega), Nat.add_sub_cancel_left]
  · rw [if_pos (fun e => cm ((nI_inj (by omega) (by omega)).mp e)), li_add, ix_nI (by omega) (by omega), h.tk (c := 3982) (by omega) ht, d4, li_add, ix_nI (by omega) (by omega), h.tk (c := 3975) (by omega) ht, d5]
    have loop : ∀ (j fu : Nat), j < fu → j < V.2.2.1 t → (∀ i, j < i → i < V.2.2.1 t → (V.2.2.2 t i).2.1 ≠ m) → gX11_usedIn_83 fu s (nI x) (nI (vpl V t j)) (nI (V.2.2.2 t j).1) = some (nI (vud V.1 (V.2.2.2 t) m (V.2.2.1 t)), s) := by
      intro j
      induction j with
      | zero =>
        intro fu hfu hi hno
        obtain ⟨fu, rfl⟩ : ∃ m, fu = m + 1 := ⟨fu - 1, by omega⟩
        obtain ⟨y, qy, y1, y2, y3, y4, y5, y6⟩ := q_pcAt h hj ht hi
        obtain ⟨f1, f2, f3⟩ := hj.fit ht hi
        unfold vwd at f3
        rw [gX11_usedIn_83, y1, cl_some]
        by_cases e : y = x
        · subst e
          rw [y2] at hx
          cases hx
          have hpm : (V.2.2.2 t 0).2.1 = m := by rw [← y5]; exact hq2
          have hud : vud V.1 (V.2.2.2 t) m (V.2.2.1 t) = (V.2.2.2 t 0).2.2.1 + vwd V.1 (V.2.2.2 t 0).1 := by
            rw [vud_eq (j := 0 + 1) (by omega) (fun i h1 h2 => hno i (by omega) h2), ← hpm, d1.ud 0 hi]
          have hpl : vpl V t 0 = q.1 + (V.2.2.2 t 0).2.2.1 := by unfold vpl; rw [y6]
          rw [if_pos rfl, q_frameOf f1, cl_some, li_add, ix_nI (by omega) (by omega), r1, h.pr (c := 2228 + (V.2.2.2 t 0).1) (by omega), (hj.1.wd f1).1, nI_add, nI_sub (by omega), hud]
          congr 3
          omega
        · rw [if_neg (fun e2 => e ((nI_inj (by omega) (by omega)).mp e2)), ix_nI (by omega) (by omega), (h.wd hj rfl ht hi).1, if_pos rfl, if_neg (by simp)]
          have hpm : (V.2.2.2 t 0).2.1 ≠ m := fun e2 => e (vidx hj.2.1 y2 (by
            have : qy = q := vuniq hj.2.2.1 qy (List.mem_of_getElem? y2) q hmem (y4.trans hq1.symm) (by rw [y5, e2, hq2])
            rw [this]; exact hx))
          rw [vud_0 (fun i hi2 => by
            by_cases e0 : i = 0
            · subst e0; exact hpm
            · exact hno i (by omega) hi2)]
          rfl
      | succ j ih =>
        intro fu hfu hi hno
        obtain ⟨fu, rfl⟩ : ∃ m, fu = m + 1 := ⟨fu - 1, by omega⟩
        obtain ⟨y, qy, y1, y2, y3, y4, y5, y6⟩ := q_pcAt h hj ht hi
        obtain ⟨f1, f2, f3⟩ := hj.fit ht hi
        unfold vwd at f3
        rw [gX11_usedIn_83, y1, cl_some]
        by_cases e : y = x
        · subst e
          rw [y2] at hx
          cases hx
          have hpm : (V.2.2.2 t (j + 1)).2.1 = m := by rw [← y5]; exact hq2
          have hud : vud V.1 (V.2.2.2 t) m (V.2.2.1 t) = (V.2.2.2 t (j + 1)).2.2.1 + vwd V.1 (V.2.2.2 t (j + 1)).1 := by
            rw [vud_eq (j := j + 1 + 1) (by omega) (fun i h1 h2 => hno i (by omega) h2), ← hpm, d1.ud (j + 1) hi]
          have hpl : vpl V t (j + 1) = q.1 + (V.2.2.2 t (j + 1)).2.2.1 := by unfold vpl; rw [y6]
          rw [if_pos rfl, q_frameOf f1, cl_some, li_add, ix_nI (by omega) (by omega), r1, h.pr (c := 2228 + (V.2.2.2 t (j + 1)).1) (by omega), (hj.1.wd f1).1, nI_add, nI_sub (by omega), hud]
          congr 3
          omega
        · have hpm : (V.2.2.2 t (j + 1)).2.1 ≠ m := fun e2 => e (vidx hj.2.1 y2 (by
            have : qy = q := vuniq hj.2.2.1 qy (List.mem_of_getElem? y2) q hmem (y4.trans hq1.symm) (by rw [y5, e2, hq2])
            rw [this]; exact hx))
          have hlow : vpl V t j < 2048 := by
            have := (hj.fit ht (show j < V.2.2.1 t by omega)).2.2
            unfold vwd at this
            omega
          obtain ⟨w1, w2, -⟩ := h.wd hj rfl ht hi
          rw [if_neg (by omega), Nat.add_sub_cancel] at w1
          obtain ⟨b1, b2, -⟩ := d3.2.2.1 j hi
          obtain ⟨-, -, bb3, -⟩ := bk_at b1
          rw [if_neg (fun e2 => e ((nI_inj (by omega) (by omega)).mp e2)), ix_nI (by omega) (by omega), w1, if_pos (nI_m1 (by omega)), li_add2, ix_nI (by omega) (by omega), w2, ix_nI (by omega) (by omega), w1, bb3, b2]
          refine ih fu (by omega) (by omega) (fun i h1 h2 => ?_)
          by_cases e0 : i = j + 1
          · subst e0; exact hpm
          · exact hno i (by omega) h2
    exact loop (V.2.2.1 t - 1) wt_N (by unfold wt_N; omega) (by omega) (fun i h1 h2 => by omega)
end
end
section
/-! ===== the reference: piece, never ===== -/
section
variable {s : wt_S} {V : vV} {t B : Nat}
theorem vcp_0 {ps : List vP} (h : ∀ q ∈ ps, q.2.2.1 ≠ t) : vcp t ps = 0 := by
  unfold vcp
  rw [List.filter_eq_nil_iff.mpr (fun q hq => by simpa using h q hq)]
  rfl
theorem k_47 {n x : Nat} {what : Int32} {q : vP} (h : RS s V) (hI : VI 2048 B V) (ht : t < 6) (hn : n < 4294967296) (hx : vfi (vkey t n) V.2.1 0 = some x) (hxl : x < 256) (hu : ∃ v, gX11_usedIn s (nI t) (nI x) = some (v, s)) : Ok (fun _ s' => RO s s') (gX11_piece_47 s (nI t) what (nI t) (nI n)) := by
  unfold gX11_piece_47
  rw [q_pieceOf h.2.2.1 hI.J.2.1 ht hn, cl_some, hx, oI_some]
  obtain ⟨v, hv⟩ := hu
  refine ok_if (fun _ => ok_some RO.refl) (fun cw => ?_)
  refine ok_if (fun _ => ?_) (fun _ => ?_)
  · rw [li_add, ix_nI (by omega) (by omega)]; exact ok_some RO.refl
  refine ok_if (fun _ => ?_) (fun _ => ?_)
  · rw [li_add, ix_nI (by omega) (by omega)]; exact ok_some RO.refl
  refine ok_if (fun _ => ?_) (fun _ => ?_)
  · rw [hv, cl_some]; exact ok_some RO.refl
  refine ok_if (fun _ => ?_) (fun _ => ?_)
  · rw [li_add, ix_nI (by omega) (by omega)]; exact ok_if (fun _ => ok_some RO.refl) (fun _ => ok_some RO.refl)
  exfalso
  omega
theorem k_piece {x i what : Int32} (h : RS s V) (hI : VI 2048 B V) : Ok (fun _ s' => RO s s') (gX11_piece s x i what) := by
  have hj := hI.J
  unfold gX11_piece
  rw [q_isTask, cl_some, if_rb]
  refine ok_if (fun c1 => ?_) (fun _ => ok_some RO.refl)
  obtain ⟨t, ht, rfl, etn⟩ := i_task c1
  rw [q_piecesOf h.2.2.1 hj.2.1 ht, cl_some, q_isIn, cl_some, if_rbn]
  have hl := h.2.2.1.2.1
  have hvc : vcp t V.2.1 ≤ 256 := by
    have : vcp t V.2.1 ≤ V.2.1.length := List.length_filter_le ..
    omega
  refine ok_if (fun c2 => ?_) (fun _ => ok_some RO.refl)
  obtain ⟨i, i1, rfl, i3, i4⟩ := i_nat (x := i) c2.1
  have hic : i < vcp t V.2.1 := by
    have := c2.2
    by_cases e : vcp t V.2.1 = 0
    · rw [e, i4] at this
      have h2 : (nI 0 - 1).toInt = -1 := by decide
      omega
    · rw [li_sub (by omega), i4] at this
      rw [nI_int (by omega)] at this
      omega
  have hb : vbz V.1 t := by
    rcases hI.2.2.2.2.2 t ht with ⟨b, -⟩ | b
    · exact b
    · rw [vcp_0 b.2.2.2.2.2.2.2.2] at hic
      omega
  obtain ⟨np, z, z2, z3, k, l, hP, h0, -⟩ := hI.opn ht hb (by omega)
  obtain ⟨-, hc, -, -, -, -, -, -, -⟩ := hP
  have hnp := hc.2.2.1
  rw [li_add, ix_nI (by omega) (by omega), h.tk (c := 4066) (by omega) ht, hc.2.1, nI_int (by omega), nI_int (by omega)]
  refine ok_if (fun c3 => ?_) (fun c3 => ?_)
  · have hsp : ∃ q ∈ V.2.1, q.2.2.1 = t ∧ q.2.2.2 = 1000 := by
      apply Classical.byContradiction
      intro hno
      have := vcp_le (t := t) (np := np) hj.2.2.1 (fun q hq e => by
        rcases hc.2.2.2.1.2 q hq e with g | g
        · exact g
        · exact absurd ⟨q, hq, e, g⟩ hno)
      omega
    obtain ⟨x, q, e1, e2, e3, e4, e5, e6, e7, e8⟩ := vfi_some hsp
    refine k_47 (q := q) h hI ht (n := 1000) (by omega) e1 (by omega) ⟨0, ?_⟩
    unfold gX11_usedIn
    rw [li_add, ix_nI (by omega) (by omega), (h.2.2.1.2.2 x q e2).2.2.2, e6, if_neg (by simp [show nI 1000 = (1000 : Int32) from rfl])]
  · obtain ⟨x, q, e1, e2, e3, e4, e5, e6, e7, e8⟩ := vfi_some (hc.2.2.2.1.1 i (by omega))
    exact k_47 (q := q) h hI ht (n := i) (by omega) e1 (by omega) ⟨_, q_usedIn (m := i) h hI ht hb hc.2.1 (by omega) e2 e5 e6 (by omega)⟩
theorem VI.f54 (hI : VI 2048 B V) (ht : t < 6) : V.1 (3954 + t) = nI (V.2.2.1 t) := by
  rcases hI.2.2.2.2.2 t ht with ⟨-, n, np, e, c2, -⟩ | b
  · rw [e]; exact c2
  · rw [b.1]; exact b.2.1
theorem k_wrongW (h : RS s V) (hI : VI 2048 B V) (ht : t < 6) : Ok (fun _ s' => RO s s') (gX11_wrongWords s (nI t)) := by
  have hj := hI.J
  have hN := hI.n ht
  -- one frame's slots and what lies below it
  have h40 : ∀ (K : wt_S → Int32 → Int32 → Int32 → Option (Int32 × wt_S)) (i : Nat), i < V.2.2.1 t → (∀ (s' : wt_S) l2, RO s s' → Ok (fun _ s' => RO s s') (K s' (nI t) l2 (nI i + (-1)))) → ∀ (m k fu : Nat) (s1 : wt_S) (l2 : Int32), k + m = vsz V.1 (V.2.2.2 t i).1 → m < fu → RO s s1 → Ok (fun _ s' => RO s s') (gX11_wrongWords_40 K fu s1 (nI t) l2 (nI i) (nI (vpl V t i)) (nI (V.2.2.2 t i).1) (nI k)) := by
    intro K i hi hK m
    obtain ⟨f1, f2, f3⟩ := hj.fit ht hi
    obtain ⟨z1, z2⟩ := hj.1.sz f1
    unfold vwd at f3
    induction m with
    | zero =>
      intro k fu s1 l2 hk hfu hr
      obtain ⟨fu, rfl⟩ : ∃ m, fu = m + 1 := ⟨fu - 1, by omega⟩
      have h1 := h.ro hr
      rw [gX11_wrongWords_40, li_add, ix_nI (by omega) (by omega), h1.pr (c := 2228 + (V.2.2.2 t i).1) (by omega), z1, nI_int (by omega), nI_int (by omega), if_pos (by omega)]
      refine ok_if (fun ci => ?_) (fun ci => ?_)
      · have hi0 : i ≠ 0 := fun e => ci (by rw [e]; rfl)
        obtain ⟨s2, e1, e2, e3, e4, e5⟩ := q_looksAt h1 hI ht (show i - 1 < V.2.2.1 t by omega)
        have hr2 := hr.trans e2
        have h2 := h.ro hr2
        have fm := (hj.fit ht (show i - 1 < V.2.2.1 t by omega)).1
        obtain ⟨y, q, y1, y2, y3, -⟩ := q_pcAt h2 hj ht hi
        rw [li_sub (by omega), e1, cl_some, e4, q_frameOf fm, cl_some, y1, cl_some]
        unfold gX11_wrongWords_186 gX11_wrongWords_190 gX11_wrongWords_191
        refine ok_if (fun _ => hK _ _ hr2) (fun _ => ok_if (fun _ => hK _ _ hr2) (fun _ => ?_))
        rw [li_add, ix_nI (by omega) (by omega)]
        exact ok_if (fun _ => hK _ _ hr2) (fun _ => hK _ _ hr2)
      · exact hK _ _ hr
    | succ m ih =>
      intro k fu s1 l2 hk hfu hr
      obtain ⟨fu, rfl⟩ : ∃ m, fu = m + 1 := ⟨fu - 1, by omega⟩
      have h1 := h.ro hr
      rw [gX11_wrongWords_40, li_add, ix_nI (by omega) (by omega), h1.pr (c := 2228 + (V.2.2.2 t i).1) (by omega), z1, nI_int (by omega), nI_int (by omega), if_neg (by omega), q_isPointer f1, cl_some]
      unfold gX11_wrongWords_109 gX11_wrongWords_110
      rw [nI_1]
      refine ok_if (fun _ => ih (k + 1) fu s1 _ (by omega) (by omega) hr) (fun _ => ?_)
      rw [li_add2, nI_add, ix_nI (by omega) (by omega)]
      refine ok_if (fun _ => ih (k + 1) fu s1 _ (by omega) (by omega) hr) (fun _ => ?_)
      rw [ix_nI (by omega) (by omega)]
      refine ok_cl (k_pointed h1 hI ht (by omega)) (fun r s2 hr2 => ?_)
      exact ok_if (fun _ => ih (k + 1) fu s2 _ (by omega) (by omega) (hr.trans hr2)) (fun _ => ih (k + 1) fu s2 _ (by omega) (by omega) (hr.trans hr2))
  have loop : ∀ (m fu : Nat) (s1 : wt_S) (l2 : Int32), m < fu → m ≤ V.2.2.1 t → RO s s1 → Ok (fun _ s' => RO s s') (gX11_wrongWords_15 fu s1 (nI t) l2 (nI m + (-1))) := by
    intro m
    induction m with
    | zero =>
      intro fu s1 l2 hfu hm hr
      obtain ⟨fu, rfl⟩ : ∃ m, fu = m + 1 := ⟨fu - 1, by omega⟩
      rw [gX11_wrongWords_15, if_pos (by decide)]
      exact ok_some hr
    | succ m ih =>
      intro fu s1 l2 hfu hm hr
      obtain ⟨fu, rfl⟩ : ∃ m, fu = m + 1 := ⟨fu - 1, by omega⟩
      have h1 := h.ro hr
      obtain ⟨s2, e1, e2, e3, e4, e5⟩ := q_looksAt h1 hI ht (show m < V.2.2.1 t by omega)
      have f1 := (hj.fit ht (show m < V.2.2.1 t by omega)).1
      have z2 := (hj.1.sz f1).2
      rw [gX11_wrongWords_15, nI_pred2, nI_int (by omega), if_neg (by show ¬ _ < (0 : Int); omega), e1, cl_some, e3, e4]
      exact h40 (gX11_wrongWords_15 fu) m (by omega) (fun s' l hr' => ih fu s' l (by omega) (by omega) hr') (vsz V.1 (V.2.2.2 t m).1) 0 wt_N s2 l2 (by omega) (by unfold wt_N; omega) (hr.trans e2)
  unfold gX11_wrongWords
  rw [li_add, ix_nI (by omega) (by omega), h.tk (c := 3954) (by omega) ht, hI.f54 ht, i_sub1]
  exact loop (V.2.2.1 t) wt_N s 0 (by unfold wt_N; omega) (Nat.le_refl _) RO.refl
theorem k_wrongF (h : RS s V) (hI : VI 2048 B V) (ht : t < 6) : Ok (fun _ s' => RO s s') (gX11_wrongFrames s (nI t)) := by
  have hj := hI.J
  have hN := hI.n ht
  have h112 : ∀ (K : wt_S → Int32 → Int32 → Int32 → Option (Int32 × wt_S)) (i : Nat), i < V.2.2.1 t → (∀ (s' : wt_S) l2, RO s s' → Ok (fun _ s' => RO s s') (K s' (nI t) l2 (nI i + (-1)))) → ∀ (m k fu : Nat) (s1 : wt_S) (l2 z : Int32), k + m = vpl V t i + vwd V.1 (V.2.2.2 t i).1 → m < fu → RO s s1 → Ok (fun _ s' => RO s s') (gX11_wrongFrames_112 K fu s1 (nI t) l2 (nI i) (nI (vpl V t i + vwd V.1 (V.2.2.2 t i).1)) z (nI k)) := by
    intro K i hi hK m
    obtain ⟨f1, f2, f3⟩ := hj.fit ht hi
    induction m with
    | zero =>
      intro k fu s1 l2 z hk hfu hr
      obtain ⟨fu, rfl⟩ : ∃ m, fu = m + 1 := ⟨fu - 1, by omega⟩
      rw [gX11_wrongFrames_112, nI_int (by omega), nI_int (by omega), if_pos (by omega)]
      unfold gX11_wrongFrames_166
      exact ok_if (fun _ => hK _ _ hr) (fun _ => hK _ _ hr)
    | succ m ih =>
      intro k fu s1 l2 z hk hfu hr
      obtain ⟨fu, rfl⟩ : ∃ m, fu = m + 1 := ⟨fu - 1, by omega⟩
      rw [gX11_wrongFrames_112, nI_int (by omega), nI_int (by omega), if_neg (by omega)]
      unfold gX11_wrongFrames_134 gX11_wrongFrames_139
      rw [nI_1, ix_nI (by omega) (by omega), ix_nI (by omega) (by omega), ix_nI (by omega) (by omega), wr_eq, wr_eq]
      have hr2 := hr.trans (RO.u8 (s := s1) (k := k) (v := 1))
      exact ok_if (fun _ => ih (k + 1) fu _ _ _ (by omega) (by omega) hr2) (fun _ => ok_if (fun _ => ih (k + 1) fu _ _ _ (by omega) (by omega) hr2) (fun _ => ih (k + 1) fu _ _ _ (by omega) (by omega) hr2))
  have loop : ∀ (m fu : Nat) (s1 : wt_S) (l2 : Int32), m < fu → m ≤ V.2.2.1 t → RO s s1 → Ok (fun _ s' => RO s s') (gX11_wrongFrames_15 fu s1 (nI t) l2 (nI m + (-1))) := by
    intro m
    induction m with
    | zero =>
      intro fu s1 l2 hfu hm hr
      obtain ⟨fu, rfl⟩ : ∃ m, fu = m + 1 := ⟨fu - 1, by omega⟩
      rw [gX11_wrongFrames_15, if_pos (by decide)]
      exact ok_some hr
    | succ m ih =>
      intro fu s1 l2 hfu hm hr
      obtain ⟨fu, rfl⟩ : ∃ m, fu = m + 1 := ⟨fu - 1, by omega⟩
      have h1 := h.ro hr
      obtain ⟨s2, e1, e2, e3, e4, e5⟩ := q_looksAt h1 hI ht (show m < V.2.2.1 t by omega)
      have hr2 := hr.trans e2
      have h2 := h.ro hr2
      obtain ⟨f1, f2, f3⟩ := hj.fit ht (show m < V.2.2.1 t by omega)
      obtain ⟨w1, w2⟩ := hj.1.wd f1
      obtain ⟨y, q, y1, y2, y3, -⟩ := q_pcAt h2 hj ht (show m < V.2.2.1 t by omega)
      have key := h112 (gX11_wrongFrames_15 fu) m (by omega) (fun s' l hr' => ih fu s' l (by omega) (by omega) hr') (vwd V.1 (V.2.2.2 t m).1) (vpl V t m) wt_N s2
      rw [gX11_wrongFrames_15, nI_pred2, nI_int (by omega), if_neg (by show ¬ _ < (0 : Int); omega), e1, cl_some, e4, q_frameOf f1, cl_some, h2.pr (c := 2228 + (V.2.2.2 t m).1) (by omega), w1, e3, y1, cl_some, nI_add]
      unfold gX11_wrongFrames_99 gX11_wrongFrames_104
      rw [e3]
      have fin : ∀ z, Ok (fun _ s' => RO s s') (gX11_wrongFrames_112 (gX11_wrongFrames_15 fu) wt_N s2 (nI t) l2 (nI m) (nI (vpl V t m + vwd V.1 (V.2.2.2 t m).1)) z (nI (vpl V t m))) := fun z => key l2 z (by omega) (by unfold wt_N; omega) hr2
      refine ok_if (fun _ => fin _) (fun _ => ?_)
      rw [li_add, ix_nI (by omega) (by omega)]
      refine ok_if (fun _ => fin _) (fun _ => ?_)
      rw [li_add, ix_nI (by omega) (by omega), li_add, ix_nI (by omega) (by omega)]
      exact ok_if (fun _ => fin _) (fun _ => fin _)
  unfold gX11_wrongFrames
  rw [li_add, ix_nI (by omega) (by omega), h.tk (c := 3954) (by omega) ht, hI.f54 ht, i_sub1]
  exact loop (V.2.2.1 t) wt_N s 0 (by unfold wt_N; omega) (Nat.le_refl _) RO.refl
theorem k_never {what : Int32} (h : RS s V) (hI : VI 2048 B V) : Ok (fun _ s' => RO s s') (gX11_never s what) := by
  have h50 : ∀ (m k fu : Nat) (s1 : wt_S) (l2 : Int32), k + m = 6 → m < fu → RO s s1 → Ok (fun _ s' => RO s s') (gX11_never_50 fu s1 what l2 (nI k)) := by
    intro m
    induction m with
    | zero =>
      intro k fu s1 l2 hk hfu hr
      obtain ⟨fu, rfl⟩ : ∃ m, fu = m + 1 := ⟨fu - 1, by omega⟩
      rw [gX11_never_50, nI_int (by omega), if_pos (by show (6 : Int) ≤ _; omega)]
      exact ok_some hr
    | succ m ih =>
      intro k fu s1 l2 hk hfu hr
      obtain ⟨fu, rfl⟩ : ∃ m, fu = m + 1 := ⟨fu - 1, by omega⟩
      have h1 := h.ro hr
      rw [gX11_never_50, nI_int (by omega), if_neg (by show ¬ (6 : Int) ≤ _; omega)]
      unfold gX11_never_75
      rw [nI_1]
      exact ok_if (fun _ => ok_cl (k_wrongF h1 hI (by omega)) (fun r s2 hr2 => ih (k + 1) fu s2 _ (by omega) (by omega) (hr.trans hr2))) (fun _ => ok_cl (k_wrongW h1 hI (by omega)) (fun r s2 hr2 => ih (k + 1) fu s2 _ (by omega) (by omega) (hr.trans hr2)))
  have h26 : ∀ (m k fu : Nat) (s1 : wt_S), k + m = 2048 → m < fu → RO s s1 → Ok (fun _ s' => RO s s') (gX11_never_26 fu s1 what (nI k)) := by
    intro m
    induction m with
    | zero =>
      intro k fu s1 hk hfu hr
      obtain ⟨fu, rfl⟩ : ∃ m, fu = m + 1 := ⟨fu - 1, by omega⟩
      rw [gX11_never_26, nI_int (by omega), if_pos (by show (2048 : Int) ≤ _; omega)]
      exact h50 6 0 wt_N s1 0 (by omega) (by unfold wt_N; omega) hr
    | succ m ih =>
      intro k fu s1 hk hfu hr
      obtain ⟨fu, rfl⟩ : ∃ m, fu = m + 1 := ⟨fu - 1, by omega⟩
      rw [gX11_never_26, nI_int (by omega), if_neg (by show ¬ (2048 : Int) ≤ _; omega), ix_nI (by omega) (by omega), wr_eq, nI_1]
      exact ih (k + 1) fu _ (by omega) (by omega) (hr.trans RO.u8)
  unfold gX11_never
  refine ok_if (fun _ => ?_) (fun _ => ok_some RO.refl)
  rw [q_isIn, cl_some]
  exact ok_if (fun _ => h26 2048 0 wt_N s (by omega) (by unfold wt_N; omega) RO.refl) (fun _ => ok_some RO.refl)
end
end
section
/-! ===== no step changes what is told ===== -/
def Sd (t : Nat) (V : vV) : Prop := V.1 (3989 + t) = -1 ∨ ∃ k, k < 3 ∧ V.1 (3989 + t) = nI k
def PE (t : Nat) (V V' : vV) : Prop := vpe V.1 V'.1 ∧ Sd t V'
section
variable {t lim : Nat} {V V1 V2 : vV}
theorem PE.refl (h : Sd t V) : PE t V V := ⟨vpe.refl, h⟩
theorem PE.trans (h : PE t V V1) (h' : PE t V1 V2) : PE t V V2 := ⟨h.1.trans h'.1, h'.2⟩
theorem pe_vs {i : Nat} {v : Int32} (h : Sd t V) (hi : (i < 2228 ∨ 2898 ≤ i) ∧ i ≠ 2050 ∧ i ≠ 2051 ∧ i ≠ 3989 + t) : PE t V (vs V i v) := ⟨vpe.upd (by omega), by unfold Sd; rw [vs_ne (by omega)]; exact h⟩
theorem pe_m1 : PE t V (vs V (3989 + t) (-1)) := ⟨vpe.upd (by omega), Or.inl vs_at⟩
theorem pe_same (h : Sd t V) (e : V1.1 = V.1) : PE t V V1 := ⟨by rw [e]; exact vpe.refl, by unfold Sd; rw [e]; exact h⟩
theorem PE.s {i : Nat} {v : Int32} (h : PE t V V1) (hi : (i < 2228 ∨ 2898 ≤ i) ∧ i ≠ 2050 ∧ i ≠ 2051 ∧ i ≠ 3989 + t) : PE t V (vs V1 i v) := h.trans (pe_vs h.2 hi)
theorem PE.p {ps : List vP} (h : PE t V V1) : PE t V (vps V1 ps) := h.trans (pe_same h.2 rfl)
theorem PE.n {n : Nat} (h : PE t V V1) : PE t V (vnf V1 t n) := h.trans (pe_same h.2 rfl)
theorem PE.c {k : Nat} {v : Int32} (h : PE t V V1) (hk : k < 12) : PE t V (vcn V1 k v) := h.trans (pe_vs h.2 (by omega))
theorem PE.l (h : PE t V V1) : PE t V (vlg1 V1) := h.trans (pe_vs h.2 (by omega))
theorem PE.i {i : Nat} (h : PE t V V1) (hi : (i < 2228 ∨ 2898 ≤ i) ∧ i ≠ 2050 ∧ i ≠ 2051 ∧ i ≠ 3989 + t) : PE t V (vinc V1 i) := h.trans (pe_vs h.2 hi)
theorem pe_ga (h : Sd t V) : PE t V (vga V t) := by
  unfold vga
  dsimp only
  have h1 : PE t V (if V.1 (3989 + t) = -1 then vps V (V.2.1.filter (fun q => decide (q.2.2.1 ≠ t))) else vs (vps V (V.2.1.filter (fun q => decide (q.2.2.1 ≠ t)))) (3923 + (V.1 (3989 + t)).toInt.toNat) (-1)) := by
    split
    · exact pe_same h rfl
    · rename_i c
      obtain ⟨k, k1, k2⟩ := h.resolve_left c
      rw [k2, nI_int (by omega), Int.toNat_natCast]
      exact (pe_same (V1 := vps V (V.2.1.filter (fun q => decide (q.2.2.1 ≠ t)))) h rfl).trans (pe_vs (V := vps V (V.2.1.filter (fun q => decide (q.2.2.1 ≠ t)))) h (by omega))
  exact PE.s (PE.s (PE.n (PE.s (PE.s (PE.s (h1.trans pe_m1) (by omega)) (by omega)) (by omega))) (by omega)) (by omega)
theorem pe_lg (h : Sd t V) : PE t V (vlg1 V) := pe_vs h (by omega)
theorem pe_cn {k : Nat} {v : Int32} (h : Sd t V) (hk : k < 12) : PE t V (vcn V k v) := pe_vs h (by omega)
theorem pe_inc {i : Nat} (h : Sd t V) (hi : (i < 2228 ∨ 2898 ≤ i) ∧ i ≠ 2050 ∧ i ≠ 2051 ∧ i ≠ 3989 + t) : PE t V (vinc V i) := pe_vs h hi
theorem pe_out (h : Sd t V) : PE t V (vot V t) := by
  unfold vot
  have h1 := pe_ga h
  have h2 := h1.trans (pe_vs (i := 3926 + t) (v := 4) h1.2 (by omega))
  have h3 := h2.trans (pe_cn (k := 1) (v := 1) h2.2 (by omega))
  exact h3.trans (pe_lg h3.2)
theorem pe_sp (h : Sd t V) : PE t V (vsp V t) := by
  unfold vsp
  split
  · have h1 := pe_lg h
    exact h1.trans (pe_same h1.2 rfl)
  · exact PE.refl h
theorem pe_mv {g words : Nat} (h : Sd t V) : PE t V (vmv V t g words) := by
  unfold vmv
  dsimp only
  exact PE.c (PE.s (PE.p (PE.s (PE.refl h) (by omega))) (by omega)) (by omega)
theorem pe_spl {need : Nat} (h : Sd t V) : PE t V (vspl lim V t need).2 := by
  unfold vspl
  dsimp only
  split
  · exact PE.refl h
  · exact PE.i (PE.l (PE.c (PE.i (PE.p (PE.refl h)) (by omega)) (by omega))) (by omega)
theorem pe_gr {need : Nat} (h : Sd t V) : PE t V (vgr lim V t need).2 := by
  unfold vgr
  split
  · dsimp only
    split
    · exact PE.refl h
    · exact PE.l (PE.c (PE.i (pe_mv h) (by omega)) (by omega))
  · split
    · split
      · exact PE.i (PE.l (PE.c (PE.i (PE.p (PE.refl h)) (by omega)) (by omega))) (by omega)
      · exact (pe_sp h).trans (pe_spl (pe_sp h).2)
    · exact pe_spl h
theorem pe_rm {f : Nat} (h : Sd t V) : PE t V (vrm lim V t f).2 := by
  have h1 := pe_inc (i := 4003 + t) h (by omega)
  have h2 := h1.trans (pe_cn (k := 3) (v := 1) h1.2 (by omega))
  have h3 := h2.trans (pe_gr (lim := lim) (need := vnd V.1 f) h2.2)
  unfold vrm
  dsimp only
  split
  · exact h2
  · split
    · rename_i V2 e
      rw [e] at h3
      exact h3
    · rename_i V2 e
      rw [e] at h3
      exact h3.trans (pe_out h3.2)
theorem pe_pu {f bk : Nat} {a : Int32} {q : Option (Nat × Nat)} (h : Sd t V) : PE t V (vpu V t f bk a q) := by
  obtain ⟨w1, -⟩ := vpu_w (V := V) (t := t) (f := f) (bk := bk) (a := a) (q := q)
  exact ⟨fun i hi => w1 i (by omega) (by omega) (by omega) (by omega) (by omega) (by omega), by unfold Sd; rw [w1 _ (by omega) (by omega) (by omega) (by omega) (by omega) (by omega)]; exact h⟩
theorem pe_cl {f bk : Nat} {hh : Int32 × Option (Nat × Nat)} (h : Sd t V) : PE t V (vcl lim V t f bk hh) := by
  have h3 := pe_rm (lim := lim) (f := f) h
  unfold vcl
  split
  · have h1 := pe_cn (k := 11) (v := 1) h (by omega)
    exact h1.trans (pe_pu h1.2)
  · split
    · rename_i V1 e
      rw [e] at h3
      exact h3.trans (pe_pu h3.2)
    · rename_i V1 e
      rw [e] at h3
      exact h3
theorem pe_fr {i : Nat} {F : vF} (h : Sd t V) : PE t V (vfr V t i F) := pe_same h rfl
theorem pe_nu {i k : Nat} {v : Int32} (h : Sd t V) : PE t V (vnu V t i k v) := pe_same h rfl
theorem pe_po {i k : Nat} {q : Option (Nat × Nat)} (h : Sd t V) : PE t V (vpo V t i k q) := pe_same h rfl
theorem pe_fv {words : Int32} (h : Sd t V) (hn : V.1 (3989 + t) ≠ -1) : PE t V (vfv V t words) := by
  obtain ⟨k, k1, k2⟩ := h.resolve_left hn
  have h1 := pe_cn (k := 9) (v := 1) h (by omega)
  have h2 := h1.trans (pe_vs (i := 3996 + t) (v := V.1 (3996 + t) - words) h1.2 (by omega))
  unfold vfv
  dsimp only
  split
  · exact h2
  · rw [k2, nI_int (by omega), Int.toNat_natCast]
    exact (h2.trans (pe_vs (i := 3923 + k) (v := -1) h2.2 (by omega))).trans pe_m1
theorem pe_lv {F : vF} (h : Sd t V) : PE t V (vlv V t F) := by
  unfold vlv
  split
  · exact PE.refl h
  · have h1 := pe_vs (i := 4066 + t) (v := V.1 (4066 + t) - 1) h (by omega)
    dsimp only
    split
    · have h2 := h1.trans (pe_lg h1.2)
      exact h2.trans (pe_same h2.2 rfl)
    · have h2 := h1.trans (pe_sp h1.2)
      have h3 := h2.trans (pe_same (V1 := vps (vsp (vs V (4066 + t) (V.1 (4066 + t) - 1)) t) ((vsp (vs V (4066 + t) (V.1 (4066 + t) - 1)) t).2.1.map (fun p => if vkey t F.2.1 p then (p.1, p.2.1, p.2.2.1, 1000) else p))) h2.2 rfl)
      exact h3.trans (pe_lg h3.2)
theorem pe_dn {Z : (Nat → Int32) → Int32 → Int32 → Int32 → Bool} {v : Int32} (h : Sd t V) : PE t V (vdn Z V t v) := by
  have h1 := pe_vs (i := 3926 + t) (v := 3) h (by omega)
  have h2 := h1.trans (pe_vs (i := 3940 + t) (v := v) h1.2 (by omega))
  have h3 := h2.trans (pe_ga h2.2)
  have h4 := h3.trans (pe_cn (k := 0) (v := 1) h3.2 (by omega))
  have h5 := h4.trans (pe_lg h4.2)
  unfold vdn
  dsimp only
  split
  · exact h5.trans (pe_inc (i := 2066) h5.2 (by omega))
  · exact h5
theorem pe_rt {Z : (Nat → Int32) → Int32 → Int32 → Int32 → Bool} {v : Int32} (h : Sd t V) (hcb : 2048 ≤ (V.2.2.2 t (V.2.2.1 t - 1)).2.2.2.1 → V.1 (3989 + t) ≠ -1) : PE t V (vrt Z V t v) := by
  have h1 := pe_vs (i := 3961 + t) (v := V.1 (3961 + t) - (V.1 (2228 + (V.2.2.2 t (V.2.2.1 t - 1)).1) + 2)) h (by omega)
  have h2 := h1.trans (pe_vs (i := 3954 + t) (v := V.1 (3954 + t) - 1) h1.2 (by omega))
  have h3 := h2.trans (pe_same (V1 := vnf (vs (vs V (3961 + t) (V.1 (3961 + t) - (V.1 (2228 + (V.2.2.2 t (V.2.2.1 t - 1)).1) + 2))) (3954 + t) (V.1 (3954 + t) - 1)) t (V.2.2.1 t - 1)) h2.2 rfl)
  have e89 : (vnf (vs (vs V (3961 + t) (V.1 (3961 + t) - (V.1 (2228 + (V.2.2.2 t (V.2.2.1 t - 1)).1) + 2))) (3954 + t) (V.1 (3954 + t) - 1)) t (V.2.2.1 t - 1)).1 (3989 + t) = V.1 (3989 + t) := (vs_ne (by omega)).trans (vs_ne (by omega))
  unfold vrt
  dsimp only
  generalize vnf (vs (vs V (3961 + t) (V.1 (3961 + t) - (V.1 (2228 + (V.2.2.2 t (V.2.2.1 t - 1)).1) + 2))) (3954 + t) (V.1 (3954 + t) - 1)) t (V.2.2.1 t - 1) = V1 at *
  split
  · exact h3.trans (pe_dn h3.2)
  · have hlv : ∀ i, i = 3989 + t → (vlv V1 t (V.2.2.2 t (V.2.2.1 t - 1))).1 i = V1.1 i := fun i hi => by
      unfold vlv
      split
      · rfl
      · dsimp only
        split
        · show (vlg1 (vs V1 (4066 + t) (V1.1 (4066 + t) - 1))).1 i = _
          rw [vlg1_ne (by omega), vs_ne (by omega)]
        · rw [vlg1_ne (by omega)]
          show (vsp (vs V1 (4066 + t) (V1.1 (4066 + t) - 1)) t).1 i = _
          rw [vsp_w (by omega), vs_ne (by omega)]
    have h4 : PE t V (if V.1 (3933 + t) = 1 then vlv V1 t (V.2.2.2 t (V.2.2.1 t - 1)) else V1) ∧ (if V.1 (3933 + t) = 1 then vlv V1 t (V.2.2.2 t (V.2.2.1 t - 1)) else V1).1 (3989 + t) = V.1 (3989 + t) := by
      split
      · exact ⟨h3.trans (pe_lv h3.2), (hlv _ rfl).trans e89⟩
      · exact ⟨h3, e89⟩
    generalize (if V.1 (3933 + t) = 1 then vlv V1 t (V.2.2.2 t (V.2.2.1 t - 1)) else V1) = V2 at *
    obtain ⟨h4, e4⟩ := h4
    have h5 := h4.trans (pe_vs (i := 3982 + t) (v := nI (vpl V2 t (V.2.2.1 t - 1 - 1))) h4.2 (by omega))
    have h6 := h5.trans (pe_vs (i := 3975 + t) (v := nI ((V.2.2.2 t (V.2.2.1 t - 1)).2.2.2.1 % 1024 / 32)) h5.2 (by omega))
    have h7 := h6.trans (pe_vs (i := 3968 + t) (v := nI ((V.2.2.2 t (V.2.2.1 t - 1)).2.2.2.1 % 32)) h6.2 (by omega))
    have h8 := h7.trans (pe_nu (i := V.2.2.1 t - 1 - 1) (k := (V.1 (vco ((V.2.2.2 t (V.2.2.1 t - 1)).2.2.2.1 % 1024 / 32) ((V.2.2.2 t (V.2.2.1 t - 1)).2.2.2.1 % 32 - 1) + 3)).toInt.toNat) (v := v) h7.2)
    split
    · rename_i c
      refine h8.trans (pe_fv h8.2 ?_)
      show (vs (vs (vs V2 (3982 + t) _) (3975 + t) _) (3968 + t) _).1 (3989 + t) ≠ -1
      rw [vs_ne (by omega), vs_ne (by omega), vs_ne (by omega), e4]
      exact hcb c
    · exact h8
theorem pe_sd (hz : (V.1 2052).toInt.toNat ≤ 3) (h : Sd t V) (e : vsd V t = some V1) : PE t V V1 ∧ V1.1 (3989 + t) ≠ -1 := by
  unfold vsd at e
  split at e
  · split at e
    · cases e
    · rename_i k hk
      cases e
      have hk3 := vfs_lt hk
      have h1 := pe_vs (i := 3923 + k) (v := nI t) h (by omega)
      exact ⟨h1.trans ⟨vpe.upd (by omega), Or.inr ⟨k, by omega, vs_at⟩⟩, by rw [vs_at]; exact nI_m1 (by omega)⟩
  · rename_i c
    cases e
    exact ⟨PE.refl h, c⟩
theorem pe_fg {words f slot : Int32} (hz : (V.1 2052).toInt.toNat ≤ 3) (h : Sd t V) : PE t V (vfg lim V t words f slot) := by
  unfold vfg
  cases hsd : vsd V t with
  | none =>
    rw [vhs_0 hsd]
    have h1 := pe_vs (i := 3926 + t) (v := 2) h (by omega)
    have h2 := h1.trans (pe_vs (i := 3968 + t) (v := V.1 (3968 + t) - 1) h1.2 (by omega))
    exact h2.trans (pe_cn (k := 10) (v := 1) h2.2 (by omega))
  | some V1 =>
    obtain ⟨h0, hn0⟩ := pe_sd hz h hsd
    have h1 := h0.trans (pe_vs (i := 3926 + t) (v := 1) h0.2 (by omega))
    by_cases c : ((vs V1 (3926 + t) 1).1 (3996 + t) + words).toInt ≤ ((vs V1 (3926 + t) 1).1 2053).toInt
    · rw [vhs_1 hsd c]
      have h2 := h1.trans (pe_vs (i := 3996 + t) (v := (vs V1 (3926 + t) 1).1 (3996 + t) + words) h1.2 (by omega))
      dsimp only
      split
      · exact h2.trans (pe_cl h2.2)
      · have h3 := h2.trans (pe_nu (i := (vs (vs V1 (3926 + t) 1) (3996 + t) ((vs V1 (3926 + t) 1).1 (3996 + t) + words)).2.2.1 t - 1) (k := slot.toInt.toNat) (v := 3 * vnm (vlf (vs (vs V1 (3926 + t) 1) (3996 + t) ((vs V1 (3926 + t) 1).1 (3996 + t) + words)) t) slot + 1) h2.2)
        refine h3.trans (pe_fv h3.2 ?_)
        show (vs (vs V1 (3926 + t) 1) (3996 + t) _).1 (3989 + t) ≠ -1
        rw [vs_ne (by omega), vs_ne (by omega)]
        exact hn0
    · rw [vhs_2 hsd c]
      exact h1.trans (pe_out h1.2)
theorem pe_qu (h : Sd t V) : PE t V (vqu lim V t).2 := by
  unfold vqu
  split
  · exact pe_sp h
  split
  · exact PE.refl h
  split
  · exact PE.refl h
  · exact PE.l (PE.c (PE.i (pe_mv h) (by omega)) (by omega))
theorem pe_ln {l : Nat} {kind a b c : Int32} {Z : (Nat → Int32) → Int32 → Int32 → Int32 → Bool} (hz : (V.1 2052).toInt.toNat ≤ 3) (h : Sd t V) (hcb : 2048 ≤ (V.2.2.2 t (V.2.2.1 t - 1)).2.2.2.1 → V.1 (3989 + t) ≠ -1) : PE t V (vln1 lim Z V t l kind a b c) := by
  unfold vln1
  dsimp only
  by_cases c0 : kind = 0
  · rw [if_pos c0]; exact pe_nu h
  rw [if_neg c0]
  by_cases c1 : kind = 1
  · rw [if_pos c1]; exact pe_nu h
  rw [if_neg c1]
  by_cases c2 : kind = 2
  · rw [if_pos c2]; exact pe_nu h
  rw [if_neg c2]
  by_cases c3 : kind = 3
  · rw [if_pos c3]; exact pe_po h
  rw [if_neg c3]
  by_cases c4 : kind = 4
  · rw [if_pos c4]; exact pe_nu h
  rw [if_neg c4]
  by_cases c5 : kind = 5
  · rw [if_pos c5]
    cases (vlf V t).2.2.2.2.2 a.toInt.toNat with
    | none => exact PE.refl h
    | some q => exact pe_nu h
  rw [if_neg c5]
  by_cases c6 : kind = 6
  · rw [if_pos c6]
    by_cases ct : tld V.1 a
    · rw [if_pos ct]; exact pe_cl h
    · rw [if_neg ct]; exact pe_nu h
  rw [if_neg c6]
  by_cases c7 : kind = 7
  · rw [if_pos c7]
    by_cases ct : (vnm (vlf V t) a).toInt ≤ 0
    · rw [if_pos ct]; exact PE.refl h
    · rw [if_neg ct]; exact pe_vs h (by omega)
  rw [if_neg c7]
  by_cases c8 : kind = 8
  · rw [if_pos c8]; exact pe_rt h hcb
  rw [if_neg c8]
  by_cases c9 : kind = 9
  · rw [if_pos c9]; exact pe_fg hz h
  rw [if_neg c9]
  exact pe_qu h
theorem pe_st {B : Nat} {Z : (Nat → Int32) → Int32 → Int32 → Int32 → Bool} (hI : VI lim B V) (ht : t < 6) (hb : vbz V.1 t) (hlm : lim ≤ 10000) : vpe V.1 (vst lim Z V t).1 := by
  obtain ⟨np, z, z2, z3, k, l, hP, h0, -, -, ⟨s1, s2, s3⟩, -, -, hs, -, hcb⟩ := hI.opn ht hb hlm
  have h : Sd t V := hs
  have hcb' : 2048 ≤ (V.2.2.2 t (V.2.2.1 t - 1)).2.2.2.1 → V.1 (3989 + t) ≠ -1 := fun e e2 => by
    obtain ⟨ks, k1, k2⟩ := hcb e
    rw [e2] at k2
    exact absurd k2.symm (nI_m1 (by omega))
  have h1 := pe_inc (i := 3947 + t) h (by omega)
  have h2 := h1.trans (pe_cn (k := 2) (v := 1) h1.2 (by omega))
  have hz : ∀ V' : vV, (∀ i, i ≠ 3947 + t → i ≠ 2056 → i ≠ 3968 + t → V'.1 i = V.1 i) → ((V'.1 2052).toInt.toNat ≤ 3) := fun V' hv => by
    rw [hv 2052 (by omega) (by omega) (by omega), s1, nI_int (by omega)]
    show (z3 : Int).toNat ≤ 3
    omega
  have e1 : ∀ i, i ≠ 3947 + t → i ≠ 2056 → (vcn (vinc V (3947 + t)) 2 1).1 i = V.1 i := fun i g1 g2 => (vcn_ne (by omega)).trans (vinc_ne g1)
  have e12 : (vcn (vinc V (3947 + t)) 2 1).2 = V.2 := rfl
  unfold vst
  dsimp only
  generalize vcn (vinc V (3947 + t)) 2 1 = V1 at *
  split
  · have h3 := h2.trans (pe_vs (i := 3968 + t) (v := V1.1 (3968 + t) + 1) h2.2 (by omega))
    have e3 : ∀ i, i ≠ 3947 + t → i ≠ 2056 → i ≠ 3968 + t → (vs V1 (3968 + t) (V1.1 (3968 + t) + 1)).1 i = V.1 i := fun i g1 g2 g3 => (vs_ne g3).trans (e1 i g1 g2)
    have e32 : (vs V1 (3968 + t) (V1.1 (3968 + t) + 1)).2 = V.2 := e12
    generalize vs V1 (3968 + t) (V1.1 (3968 + t) + 1) = V3 at *
    exact (h3.trans (pe_ln (hz V3 e3) h3.2 (by rw [e32, e3 _ (by omega) (by omega) (by omega)]; exact hcb'))).1
  · exact (h2.trans (pe_rt h2.2 (by rw [e12, e1 _ (by omega) (by omega)]; exact hcb'))).1
end
end
section
/-! ===== the reference: image, land, alone ===== -/
theorem q_copies {r1 r2 : Nat} (hne : r1 ≠ r2) {s : wt_S} : ∃ g, gX11_copies r1 4073 r2 4073 s = some ((), wt_uf s r2 g) ∧ ∀ k, k < 4073 → g k = s r1 k := by
  have loop : ∀ (m k fu : Nat) (g : Nat → Int32), k + m = 4073 → m < fu → (∀ j, j < k → g j = s r1 j) → ∃ g', gX11_copies_2 r1 4073 r2 4073 fu (wt_uf s r2 g) (nI k) = some ((), wt_uf s r2 g') ∧ ∀ k, k < 4073 → g' k = s r1 k := by
    intro m
    induction m with
    | zero =>
      intro k fu g hk hfu hg
      obtain ⟨fu, rfl⟩ : ∃ m, fu = m + 1 := ⟨fu - 1, by omega⟩
      rw [gX11_copies_2, nI_int (by omega), if_pos (by show (4073 : Int) ≤ _; omega)]
      exact ⟨g, rfl, fun j hj => hg j (by omega)⟩
    | succ m ih =>
      intro k fu g hk hfu hg
      obtain ⟨fu, rfl⟩ : ∃ m, fu = m + 1 := ⟨fu - 1, by omega⟩
      rw [gX11_copies_2, nI_int (by omega), if_neg (by show ¬ (4073 : Int) ≤ _; omega), ix_nI (by omega) (by omega), ix_nI (by omega) (by omega), wr_eq, nI_1, u_uf, uf_uf, wt_uf_at, wt_uf_ne hne]
      refine ih (k + 1) fu _ (by omega) (by omega) (fun j hj => ?_)
      by_cases e : j = k
      · subst e; rw [mj_upd_self]
      · rw [mj_upd_ne e]; exact hg j (by omega)
  have := loop 4073 0 wt_N (s r2) (by omega) (by unfold wt_N; omega) (fun j hj => by omega)
  rw [uf_self] at this
  exact this
theorem RR.eq {w w' : Nat → Int32} {V : vV} (h : RR w V) (he : ∀ i, i < 4073 → w' i = w i) : RR w' V :=
  h.mk' (fun i hi => (he i (by unfold vtr at hi; omega)).trans (h.at hi)) (vr_P_eq (fun i h1 h2 => he i (by omega)) h.2.1) (fun p hp => he p (by omega)) (fun _ hm => hm)
/-- what else of the store stays behind a thought -/
def RH (s s' : wt_S) : Prop := (∀ c, c < 110 → s' c = s c) ∧ s' 113 = s 113 ∧ s' 110 4 = s 110 4
theorem RH.of {s s' : wt_S} (h : RF s s') : RH s s' := ⟨h.1, h.2.2.1, h.2.2.2.1⟩
theorem RH.trans {s s1 s2 : wt_S} (h : RH s s1) (h' : RH s1 s2) : RH s s2 := ⟨fun c hc => (h'.1 c hc).trans (h.1 c hc), h'.2.1.trans h.2.1, h'.2.2.trans h.2.2⟩
theorem RH.uf {s : wt_S} {f : Nat → Int32} {a : Nat} (ha : a = 111 ∨ a = 112 ∨ 114 ≤ a) : RH s (wt_uf s a f) :=
  ⟨fun c hc => wt_uf_ne (by omega), wt_uf_ne (by omega), by rw [wt_uf_ne (by omega)]⟩
section
variable {s : wt_S} {V Vk : vV} {t B : Nat}
/-- the reference, with its image -/
def RQ (B : Nat) (s : wt_S) (V Vk : vV) : Prop := RS s V ∧ VI 2048 B V ∧ (s 110 4 = 0 ∨ (s 110 4 = 1 ∧ RR (s 113) Vk ∧ VI 2048 B Vk))
theorem RQ.mk2 {B' : Nat} {s' : wt_S} {V' : vV} (h : RQ B s V Vk) (h1 : RS s' V') (h2 : VI 2048 B' V') (hB : B ≤ B') (h3 : RH s s') : RQ B' s' V' Vk := by
  refine ⟨h1, h2, ?_⟩
  rw [h3.2.2, h3.2.1]
  rcases h.2.2 with e | ⟨e1, e2, e3⟩
  · exact Or.inl e
  · exact Or.inr ⟨e1, e2, e3.mono hB⟩
theorem k_image {x : Int32} (h : RQ B s V Vk) : ∃ s' V' Vk', gX11_image s x = some ((if x ≠ 0 then 1 else s 110 4), s') ∧ RQ B s' V' Vk' ∧ s' 110 4 = (if x ≠ 0 then 1 else s 110 4) ∧ ∀ c, c < 110 → s' c = s c := by
  obtain ⟨h1, h2, h3⟩ := h
  unfold gX11_image gX11_image_13 gX11_image_42
  by_cases cx : x ≠ 0
  · obtain ⟨g, e1, e2⟩ := q_copies (r1 := 111) (r2 := 113) (by omega) (s := s)
    rw [if_pos cx, if_neg cx, e1, cl_some, wr_eq, if_pos cx]
    refine ⟨_, V, V, rfl, ⟨⟨?_, ?_⟩, h2, Or.inr ⟨wt_u_self, ?_, h2⟩⟩, wt_u_self, fun c hc => by rw [wt_u_ne (by omega), wt_uf_ne (by omega)]⟩
    · rw [wt_u_nk (by omega), wt_uf_ne (by omega)]; exact h1.1
    · rw [wt_u_ne (by omega), wt_uf_ne (by omega)]; exact h1.2
    · rw [wt_u_ne (by omega), wt_uf_at]
      exact h1.2.eq e2
  · have cx0 : x = 0 := by simpa using cx
    have hr : (if x ≠ 0 then (1 : Int32) else s 110 4) = s 110 4 := if_neg cx
    rw [hr, if_neg cx]
    rcases h3 with e | ⟨e, k1, k2⟩
    · rw [if_neg (by rw [e]; simp), e]
      exact ⟨s, V, Vk, rfl, ⟨h1, h2, Or.inl e⟩, e, fun _ _ => rfl⟩
    · obtain ⟨g, e1, e2⟩ := q_copies (r1 := 113) (r2 := 111) (by omega) (s := s)
      rw [if_pos (by rw [e]; decide), if_pos cx0, e1, cl_some, wr_eq, e]
      refine ⟨_, Vk, Vk, rfl, ⟨⟨?_, ?_⟩, k2, Or.inr ⟨wt_u_self, ?_, k2⟩⟩, wt_u_self, fun c hc => by rw [wt_u_ne (by omega), wt_uf_ne (by omega)]⟩
      · rw [wt_u_nk (by omega), wt_uf_ne (by omega)]; exact h1.1
      · rw [wt_u_ne (by omega), wt_uf_at]; exact k1.eq e2
      · rw [wt_u_ne (by omega), wt_uf_ne (by omega)]; exact k1
/-- back from a thought -/
theorem k_back {s1 s2 : wt_S} {V2 : vV} {v : Int32} (h : RS s V) {g : Nat → Int32} (hg : ∀ k, k < 4073 → g k = s 111 k) (e1 : s1 = wt_uf s 112 g) (h2 : RS s2 V2) (hf : RF s1 s2) : Ok (fun _ s' => RS s' V ∧ RH s s') (wt_cl (gX11_copies 112 4073 111 4073 s2) fun _ s3 => some (v, s3)) := by
  obtain ⟨g2, f1, f2⟩ := q_copies (r1 := 112) (r2 := 111) (by omega) (s := s2)
  rw [f1, cl_some]
  have h12 : s2 112 = g := by rw [hf.2.1, e1, wt_uf_at]
  refine ok_some ⟨⟨?_, ?_⟩, ?_⟩
  · rw [wt_uf_ne (by omega)]; exact h2.1
  · rw [wt_uf_at]
    exact h.2.eq (fun i hi => by rw [f2 i hi, h12, hg i hi])
  · have hh : RH s s1 := by rw [e1]; exact RH.uf (Or.inr (Or.inl rfl))
    exact hh.trans ((RH.of hf).trans (RH.uf (Or.inl rfl)))
theorem RS.a112 {g : Nat → Int32} (h : RS s V) : RS (wt_uf s 112 g) V := ⟨by rw [wt_uf_ne (by omega)]; exact h.1, by rw [wt_uf_ne (by omega)]; exact h.2⟩
theorem k_land {x n what : Int32} (h : RS s V) (hI : VI 2048 B V) (hB : B < 2147480000) : Ok (fun _ s' => RS s' V ∧ RH s s') (gX11_land s x n what) := by
  have r0 : RS s V ∧ RH s s := ⟨h, ⟨fun _ _ => rfl, rfl, rfl⟩⟩
  unfold gX11_land
  rw [q_isTask, cl_some, if_rb]
  refine ok_if (fun c1 => ?_) (fun _ => ok_some r0)
  obtain ⟨t, ht, rfl, etn⟩ := i_task c1
  rw [q_isIn, cl_some, if_rb]
  refine ok_if (fun c2 => ?_) (fun _ => ok_some r0)
  rw [q_isIn, cl_some, if_rbn]
  refine ok_if (fun c3 => ?_) (fun _ => ok_some r0)
  obtain ⟨m, m1, rfl, m3, m4⟩ := i_nat (x := n) (by have : (1 : Int) ≤ n.toInt := c2.1; omega)
  have hm : (nI m).toInt ≤ 200 := c2.2
  obtain ⟨g, e1, e2⟩ := q_copies (r1 := 111) (r2 := 112) (by omega) (s := s)
  obtain ⟨s2, f1, f2, f3, f4⟩ := q_runs (Z := vZ) hd_all ht m 0 wt_N B (wt_uf s 112 g) V (by unfold wt_N; omega) (by omega) h.a112 hI (by omega)
  rw [Nat.zero_add] at f1
  have f1 : gX11_runs (wt_uf s 112 g) (nI t) (nI m) = _ := f1
  rw [e1, cl_some, f1, cl_some]
  have fin : ∀ v, Ok (fun _ s' => RS s' V ∧ RH s s') (gX11_land_123 s2 v) := fun v => k_back h e2 rfl f2 f3
  refine ok_if (fun _ => ok_if (fun _ => ok_if (fun _ => ok_if (fun _ => ?_) (fun _ => ?_)) (fun _ => ?_)) (fun _ => ?_)) (fun _ => ?_)
  · rw [li_add, ix_nI (by omega) (by omega)]; exact fin _
  · rw [q_wordsOf f2.2.2.1 f4.J.2.1 ht, cl_some]; exact fin _
  · rw [li_add, ix_nI (by omega) (by omega)]; exact fin _
  · rw [li_add, ix_nI (by omega) (by omega)]; exact fin _
  · rw [li_add, ix_nI (by omega) (by omega)]; exact fin _
/-- a task is none any more -/
theorem vi_no (hI : VI 2048 B V) (ht : t < 6) : VI 2048 B (vcr (vga V t) t) := by
  obtain ⟨g1, g2⟩ := vga_is (hI.sid ht) ht
  refine hI.idl ht (vga_2 (V := V)) (fun i hi => ?_) (fun k hk => ?_) ?_ ⟨vcr_0 (c := 3954) ht (by omega) (by omega), vcr_0 (c := 4066) ht (by omega) (by omega), vcr_0 (c := 3961) ht (by omega) (by omega), vcr_f.1, vcr_f.2, vcr_0 (c := 3996) ht (by omega) (by omega), Or.inl (vcr_0 (c := 3926) ht (by omega) (by omega))⟩
  · rw [vcr_ne ht (by omega), g1 i (by omega)]
  · rw [vcr_ne ht (by omega), g2 k hk]
  · obtain ⟨k, k1, k2⟩ := hI.2.2.2.2.1
    exact ⟨k, k1, by rw [vcr_ne ht (by omega), g1 _ (by omega)]; exact k2⟩
theorem vno_by (hI : VI 2048 B V) (ht : t < 6) {j : Nat} (hj : j < 6) : vby (vcr (vga V t) t) j = (if j = t then false else vby V j) := by
  obtain ⟨g1, g2⟩ := vga_is (hI.sid ht) ht
  unfold vby
  by_cases e : j = t
  · subst e
    rw [if_pos rfl, vcr_0 (c := 3926) ht (by omega) (by omega)]
    decide
  · rw [if_neg e, vcr_ne ht (by omega), g1 _ (by omega)]
/-- the first words may be told anew before -/
theorem vno_se {x : Int32} (h : Sd t V) (ht : t < 6) : vcr (vga (vs V 2048 x) t) t = vs (vcr (vga V t) t) 2048 x := by
  have e89 : (vs V 2048 x).1 (3989 + t) = V.1 (3989 + t) := vs_ne (by omega)
  have hga : (vga (vs V 2048 x) t).1 = mj_upd (vga V t).1 2048 x := by
    funext i
    rw [vga_1, vga_1, e89]
    have hin : (if V.1 (3989 + t) = -1 then (vs V 2048 x).1 else mj_upd (vs V 2048 x).1 (3923 + (V.1 (3989 + t)).toInt.toNat) (-1)) i = mj_upd (if V.1 (3989 + t) = -1 then V.1 else mj_upd V.1 (3923 + (V.1 (3989 + t)).toInt.toNat) (-1)) 2048 x i := by
      by_cases c : V.1 (3989 + t) = -1
      · rw [if_pos c, if_pos c]
        rfl
      · rw [if_neg c, if_neg c]
        show mj_upd (mj_upd V.1 2048 x) _ (-1) i = _
        by_cases e : i = 2048
        · subst e
          rw [mj_upd_self, mj_upd_ne (by omega), mj_upd_self]
        · rw [mj_upd_ne e]
          by_cases e2 : i = 3923 + (V.1 (3989 + t)).toInt.toNat
          · subst e2; rw [mj_upd_self, mj_upd_self]
          · rw [mj_upd_ne e2, mj_upd_ne e2, mj_upd_ne e]
    by_cases e : i = 2048
    · subst e
      rw [mj_upd_self]
      rw [mj_upd_self] at hin
      rw [mj_upd_ne (by omega), mj_upd_ne (by omega), mj_upd_ne (by omega), mj_upd_ne (by omega), mj_upd_ne (by omega), mj_upd_ne (by omega)]
      exact hin
    · rw [mj_upd_ne e]
      rw [mj_upd_ne e] at hin
      by_cases i1 : i = 3975 + t
      · subst i1; rw [mj_upd_self, mj_upd_self]
      · rw [mj_upd_ne i1, mj_upd_ne i1]
        by_cases i2 : i = 3961 + t
        · subst i2; rw [mj_upd_self, mj_upd_self]
        · rw [mj_upd_ne i2, mj_upd_ne i2]
          by_cases i3 : i = 3954 + t
          · subst i3; rw [mj_upd_self, mj_upd_self]
          · rw [mj_upd_ne i3, mj_upd_ne i3]
            by_cases i4 : i = 4066 + t
            · subst i4; rw [mj_upd_self, mj_upd_self]
            · rw [mj_upd_ne i4, mj_upd_ne i4]
              by_cases i5 : i = 3996 + t
              · subst i5; rw [mj_upd_self, mj_upd_self]
              · rw [mj_upd_ne i5, mj_upd_ne i5]
                by_cases i6 : i = 3989 + t
                · subst i6; rw [mj_upd_self, mj_upd_self]
                · rw [mj_upd_ne i6, mj_upd_ne i6]; exact hin
  refine Prod.ext (funext fun i => ?_) ?_
  · show mj_upd (mj_upd (vck (vga (vs V 2048 x) t).1 t 0) (3989 + t) (-1)) (3975 + t) (-1) i = mj_upd (mj_upd (mj_upd (vck (vga V t).1 t 0) (3989 + t) (-1)) (3975 + t) (-1)) 2048 x i
    rw [hga]
    by_cases e : i = 2048
    · subst e
      rw [mj_upd_self, mj_upd_ne (by omega), mj_upd_ne (by omega)]
      unfold vck
      rw [if_neg (by omega), mj_upd_self]
    · rw [mj_upd_ne e]
      by_cases i1 : i = 3975 + t
      · subst i1; rw [mj_upd_self, mj_upd_self]
      · rw [mj_upd_ne i1, mj_upd_ne i1]
        by_cases i2 : i = 3989 + t
        · subst i2; rw [mj_upd_self, mj_upd_self]
        · rw [mj_upd_ne i2, mj_upd_ne i2]
          unfold vck
          rw [mj_upd_ne e]
  · show (vga (vs V 2048 x) t).2 = (vga V t).2
    rw [vga_2, vga_2]
    rfl
theorem vno_pe (h : Sd t V) (ht : t < 6) : vpe V.1 (vcr (vga V t) t).1 := (pe_ga h).1.trans (fun i hi => vcr_ne ht (by omega))
/-- all tasks go -/
theorem k_all {f a mode x : Int32} : ∀ (m k fu : Nat) (s : wt_S) (V : vV), k + m = 6 → m < fu → RS s (vs V 2048 x) → VI 2048 B V → (∀ j, j < k → vby V j = false) → ∃ s' V' fu', gX11_runsAlone_3 fu s f a mode (nI k) = gX11_runsAlone_3 (fu' + 1) s' f a mode (nI 6) ∧ RS s' (vs V' 2048 x) ∧ VI 2048 B V' ∧ (∀ j, j < 6 → vby V' j = false) ∧ vpe V.1 V'.1 ∧ RF s s' := by
  intro m
  induction m with
  | zero =>
    intro k fu s V hk hfu h hI hb
    obtain ⟨fu, rfl⟩ : ∃ m, fu = m + 1 := ⟨fu - 1, by omega⟩
    have : k = 6 := by omega
    subst this
    exact ⟨s, V, fu, rfl, h, hI, hb, vpe.refl, RF.refl⟩
  | succ m ih =>
    intro k fu s V hk hfu h hI hb
    obtain ⟨fu, rfl⟩ : ∃ m, fu = m + 1 := ⟨fu - 1, by omega⟩
    have hk6 : k < 6 := by omega
    have hsd := hI.sid hk6
    have hj : VJ 2048 (vs V 2048 x) := VJ.vs hI.J (by omega)
    obtain ⟨s1, a1, a2, a3⟩ := q_ga hj rfl h hk6 (by rw [vs_ne (by omega)]; exact hsd)
    have b2 := a2.cr (t := k) hk6
    rw [vno_se hsd hk6] at b2
    obtain ⟨s', V', fu', e1, e2, e3, e4, e5, e6⟩ := ih (k + 1) fu _ (vcr (vga V k) k) (by omega) (by omega) b2 (vi_no hI hk6) (fun j hj => by
      rw [vno_by hI hk6 (by omega)]
      by_cases e : j = k
      · rw [if_pos e]
      · rw [if_neg e]; exact hb j (by omega))
    refine ⟨s', V', fu', ?_, e2, e3, e4, (vno_pe hsd hk6).trans e5, RF.trans a3 (RF.trans RF.cr e6)⟩
    rw [gX11_runsAlone_3, nI_int (by omega), if_neg (by show ¬ (6 : Int) ≤ _; omega), a1, cl_some, q_clears hk6, cl_some, nI_1]
    exact e1
theorem vab_all : ∀ {r t : Nat}, (∀ j, t ≤ j → j < t + r → vby V j = false) → vab V r t = false := by
  intro r
  induction r with
  | zero => intro t _; rfl
  | succ r ih =>
    intro t h
    rw [vab, h t (Nat.le_refl _) (by omega), ih (fun j h1 h2 => h j (by omega) (by omega))]
    rfl
theorem k_52 : ∀ (m k fu B : Nat) (s : wt_S) (V : vV) (l4 : Int32), k + m = 2000 → m < fu → RS s V → VI 2048 B V → B + 4 * m < 2147483200 → Ok (fun _ s' => RF s s' ∧ ∃ V', RS s' V' ∧ VI 2048 (B + 4 * m) V' ∧ vpe V.1 V'.1) (gX11_runsAlone_52 fu s l4 (nI k)) := by
  intro m
  induction m with
  | zero =>
    intro k fu B s V l4 hk hfu h hI hB
    obtain ⟨fu, rfl⟩ : ∃ m, fu = m + 1 := ⟨fu - 1, by omega⟩
    rw [gX11_runsAlone_52, nI_int (by omega), if_pos (by show (2000 : Int) ≤ _; omega)]
    exact ok_some ⟨RF.refl, V, h, hI, vpe.refl⟩
  | succ m ih =>
    intro k fu B s V l4 hk hfu h hI hB
    obtain ⟨fu, rfl⟩ : ∃ m, fu = m + 1 := ⟨fu - 1, by omega⟩
    rw [gX11_runsAlone_52, nI_int (by omega), if_neg (by show ¬ (2000 : Int) ≤ _; omega), show (0 : Int32) = nI 0 from rfl, q_busy h (by omega), cl_some]
    show Ok _ (if rb (vby V 0 = true) = 0 then _ else _)
    rw [if_rb]
    refine ok_if (fun c => ?_) (fun _ => ok_some ⟨RF.refl, V, h, hI.mono (by omega), vpe.refl⟩)
    have hb := vby_iff.mp c
    obtain ⟨s1, e1, e2, e3⟩ := q_steps hd_all h hI (by omega) hb (by omega)
    have hI1 := vi_st (Z := vZ) hI (by omega) hb (by omega)
    have hpe := pe_st (Z := vZ) hI (by omega) hb (by omega)
    rw [e1, cl_some, q_wordsOf e2.2.2.1 hI1.J.2.1 (by omega), cl_some]
    unfold gX11_runsAlone_94
    rw [nI_1]
    have fin : ∀ l, Ok (fun _ s' => RF s s' ∧ ∃ V', RS s' V' ∧ VI 2048 (B + 4 * (m + 1)) V' ∧ vpe V.1 V'.1) (gX11_runsAlone_52 fu s1 l (nI (k + 1))) := fun l => ok_im (ih (k + 1) fu (B + 4) s1 (vst 2048 vZ V 0) l (by omega) (by omega) e2 hI1 (by omega)) (fun _ s' ⟨g1, V', g2, g3, g4⟩ => ⟨e3.trans g1, V', g2, g3.mono (by omega), hpe.trans g4⟩)
    exact ok_if (fun _ => fin _) (fun _ => fin _)
theorem vbg_pe {f : Nat} {a mode : Int32} (ht : t < 6) : vpe V.1 (vbg 2048 V t f a mode).2.1 := by
  unfold vbg
  split
  · exact vpe.refl
  · rename_i g _
    refine vpe.trans (w2 := (vb5 V t g (V.1 2048).toInt.toNat (nI f) a mode).1) (fun i hi => vb5_ne ht (by omega)) ?_
    refine (pe_cl (V := vb5 V t g (V.1 2048).toInt.toNat (nI f) a mode) (Or.inl ?_)).1
    rw [vb5_0 (c := 3989) (by omega)]
    exact vcr_f.2
theorem k_alone1 {f z : Nat} {a mode : Int32} (hf : f < 10) (hm : mode = 0 ∨ mode = 1) (hz : 8 ≤ z ∧ z ≤ 2048) (h : RS s (vs V 2048 (nI z))) (hI : VI 2048 B V) (hB : B < 2147400000) (hs1 : 1 ≤ vsz V.1 f) : Ok (fun _ s' => RF s s' ∧ ∃ V', RS s' V' ∧ VI 2048 (B + 8003) V' ∧ vpe V.1 V'.1) (gX11_runsAlone s (nI f) a mode) := by
  obtain ⟨s1, V1, fu', e1, e2, e3, e4, e5, e6⟩ := k_all (B := B) (f := nI f) (a := a) (mode := mode) (x := nI z) 6 0 wt_N s V (by omega) (by unfold wt_N; omega) h hI (fun j hj => by omega)
  have hno : vab V1 6 0 = false := vab_all (fun j h1 h2 => e4 j (by omega))
  have hpe2 : vpe V1.1 (vs V1 2048 (nI z)).1 := vpe.upd (by omega)
  have hI2 : VI 2048 B (vs V1 2048 (nI z)) := by
    refine e3.re2 hno rfl ?_ (e3.2.1.ww hpe2) (fun i h1 h2 => vs_ne (by omega))
    obtain ⟨i1, i2, i3, i4, i5, i6⟩ := e3.1
    unfold Ise
    rw [vs_at, vs_ne (by omega), vs_ne (by omega), vs_ne (by omega), vs_ne (by omega), vs_ne (by omega)]
    exact ⟨⟨z, rfl, by omega, by omega, by omega⟩, i2, i3, i4, i5, i6⟩
  have hid : Iid (vs V1 2048 (nI z)) 0 := hI2.idle (by omega) (by
    have := e4 0 (by omega)
    unfold vby at this ⊢
    rw [vs_ne (by omega)]
    exact this)
  have hpe1 := e5.trans hpe2
  have hs2 : 1 ≤ vsz (vs V1 2048 (nI z)).1 f := by rw [(hpe1.sz hf).1]; exact hs1
  have e2' : RS (wt_u s1 110 10 0) (vs V1 2048 (nI z)) := e2.o (by omega)
  obtain ⟨s2, f1, f2, f3⟩ := q_begins (a := a) e2' hI2 (by omega) (by omega) hid hf hs2 hm
  have hI3 := vi_bg (a := a) hI2 (by omega) (by omega) hid hf hs2 hm
  have f1 : gX11_begins (wt_u s1 110 10 0) 0 (nI f) a mode = _ := f1
  have hw : gX11_wordsOf s2 0 = _ := q_wordsOf (t := 0) f2.2.2.1 hI3.J.2.1 (by omega)
  have e1 : gX11_runsAlone s (nI f) a mode = _ := e1
  rw [e1, gX11_runsAlone_3, nI_int (by omega), if_pos (by decide), wr_eq, f1, cl_some, hw, cl_some]
  have hR : RF s s2 := e6.trans ((RF.uo (by omega) (by omega)).trans f3)
  exact ok_im (k_52 2000 0 wt_N (B + 3) s2 _ _ (by omega) (by unfold wt_N; omega) f2 hI3 (by omega)) (fun _ s' ⟨g1, V', g2, g3, g4⟩ => ⟨hR.trans g1, V', g2, g3.mono (by omega), hpe1.trans ((vbg_pe (by omega)).trans g4)⟩)
theorem k_alone {f a mode what : Int32} (h : RS s V) (hI : VI 2048 B V) (hB : B < 2147300000) : Ok (fun _ s' => RS s' V ∧ RH s s') (gX11_alone s f a mode what) := by
  have r0 : RS s V ∧ RH s s := ⟨h, ⟨fun _ _ => rfl, rfl, rfl⟩⟩
  unfold gX11_alone
  rw [q_isTold, cl_some, if_rb]
  refine ok_if (fun c1 => ?_) (fun _ => ok_some r0)
  obtain ⟨f, f10, rfl, f3, f4⟩ := tld_nat (h.prog.tl.mp c1)
  rw [q_isIn, cl_some, if_rb]
  refine ok_if (fun c2 => ?_) (fun _ => ok_some r0)
  have hm : mode = 0 ∨ mode = 1 := by
    obtain ⟨m, m1, m2, m3, m4⟩ := i_nat (x := mode) c2.1
    have c22 : mode.toInt ≤ 1 := c2.2
    have : m = 0 ∨ m = 1 := by omega
    rw [m2]
    rcases this with rfl | rfl
    · exact Or.inl rfl
    · exact Or.inr rfl
  rw [q_isIn, cl_some, if_rbn]
  refine ok_if (fun c3 => ?_) (fun _ => ok_some r0)
  obtain ⟨g, e1, e2⟩ := q_copies (r1 := 111) (r2 := 112) (by omega) (s := s)
  rw [e1, cl_some]
  have h1 : RS (wt_uf s 112 g) V := h.a112
  have fin : ∀ (s2 : wt_S) (V2 : vV) v, RS s2 V2 → RF (wt_uf s 112 g) s2 → Ok (fun _ s' => RS s' V ∧ RH s s') (gX11_alone_200 s2 v) := fun s2 V2 v g1 g2 => k_back h e2 rfl g1 g2
  refine ok_if (fun _ => ?_) (fun _ => ?_)
  · have step : ∀ (z fu B' : Nat) (s2 : wt_S) (V2 : vV) (l5 : Int32), (8 ≤ z ∧ z ≤ 64) → RS s2 V2 → VI 2048 B' V2 → B' < 2147400000 → vpe V.1 V2.1 → RF (wt_uf s 112 g) s2 → (∀ (s3 : wt_S) (V3 : vV) (l5 : Int32), RS s3 V3 → VI 2048 (B' + 8003) V3 → vpe V.1 V3.1 → RF (wt_uf s 112 g) s3 → Ok (fun _ s' => RS s' V ∧ RH s s') (gX11_alone_155 fu s3 (nI f) a mode l5 (nI (z / 2)))) → Ok (fun _ s' => RS s' V ∧ RH s s') (gX11_alone_155 (fu + 1) s2 (nI f) a mode l5 (nI z)) := by
      intro z fu B' s2 V2 l5 hz g1 g2 g3 g4 g5 hK
      rw [gX11_alone_155, nI_int (by omega), if_neg (by show ¬ _ < (8 : Int); omega), wr_eq]
      have q1 : RS (wt_u s2 111 2048 (nI z)) (vs V2 2048 (nI z)) := g1.u (Or.inl (by omega)) (Or.inl (by omega))
      unfold gX11_alone_191
      rw [nI_half (by omega)]
      refine ok_cl (k_alone1 (a := a) f10 hm (by omega) q1 g2 g3 (by rw [(g4.sz f10).1]; exact f4)) (fun r s3 ⟨k1, V3, k2, k3, k4⟩ => ?_)
      have hr : RF (wt_uf s 112 g) s3 := g5.trans ((RF.uf (Or.inl rfl)).trans k1)
      exact ok_if (fun _ => hK s3 V3 _ k2 k3 (g4.trans k4) hr) (fun _ => hK s3 V3 _ k2 k3 (g4.trans k4) hr)
    have hN : wt_N = 2099999995 + 1 + 1 + 1 + 1 + 1 := rfl
    rw [hN]
    refine step 64 _ B _ V _ (by omega) h1 hI (by omega) vpe.refl RF.refl (fun s3 V3 l3 a1 a2 a3 a4 => ?_)
    refine step 32 _ (B + 8003) s3 V3 _ (by omega) a1 a2 (by omega) a3 a4 (fun s4 V4 l4 b1 b2 b3 b4 => ?_)
    refine step 16 _ (B + 8003 + 8003) s4 V4 _ (by omega) b1 b2 (by omega) b3 b4 (fun s5 V5 l5 c1 c2 c3 c4 => ?_)
    refine step 8 _ (B + 8003 + 8003 + 8003) s5 V5 _ (by omega) c1 c2 (by omega) c3 c4 (fun s6 V6 l6 d1 d2 d3 d4 => ?_)
    rw [gX11_alone_155, nI_int (by omega), if_pos (by decide)]
    exact fin s6 V6 _ d1 d4
  · obtain ⟨z, z1, z2, z3, z4⟩ := hI.1.1
    have hvz : vs V 2048 (nI z) = V := by
      refine Prod.ext (funext fun i => ?_) rfl
      show mj_upd V.1 2048 (nI z) i = V.1 i
      by_cases e : i = 2048
      · subst e; rw [mj_upd_self, z1]
      · rw [mj_upd_ne e]
    refine ok_cl (k_alone1 (z := z) (a := a) (V := V) f10 hm ⟨z2, z3⟩ (by rw [hvz]; exact h1) hI (by omega) f4) (fun r s3 ⟨k1, V3, k2, k3, k4⟩ => ?_)
    unfold gX11_alone_146
    have fin3 := fun v => fin s3 V3 v k2 k1
    exact ok_if (fun _ => ok_if (fun _ => ok_if (fun _ => ok_if (fun _ => ok_if (fun _ => fin3 _) (fun _ => fin3 _)) (fun _ => fin3 _)) (fun _ => fin3 _)) (fun _ => fin3 _)) (fun _ => fin3 _)
end
end
section
/-! ===== parts of the memory are carried, frames turned ===== -/
theorem vgo_in : ∀ {pt : List vT}, pt.Pairwise (fun p q => p.1 + p.2.1 ≤ q.1 ∨ q.1 + q.2.1 ≤ p.1) → ∀ {q : vT}, q ∈ pt → ∀ {x : Nat}, q.1 ≤ x → x < q.1 + q.2.1 → vgo pt x = q.2.2 + (x - q.1) := by
  intro pt
  induction pt with
  | nil => intro _ q hq; cases hq
  | cons a pt ih =>
    intro hd q hq x h1 h2
    obtain ⟨d1, d2⟩ := List.pairwise_cons.mp hd
    by_cases c : vin x a = true
    · have ha : a.1 ≤ x ∧ x < a.1 + a.2.1 := by simpa [vin] using c
      have e : q = a := by
        rcases List.mem_cons.mp hq with e | e
        · exact e
        · have := d1 q e
          omega
      subst e
      unfold vgo
      rw [List.find?_cons_of_pos c]
    · have hq2 : q ∈ pt := by
        rcases List.mem_cons.mp hq with e | e
        · subst e
          exact absurd (by simp [vin]; omega) c
        · exact e
      have := ih d2 hq2 h1 h2
      unfold vgo at this ⊢
      rw [List.find?_cons_of_neg c]
      exact this
def PM (pt : List vT) (p p' wd : Nat) : Prop := ∃ q ∈ pt, q.1 ≤ p ∧ p + wd ≤ q.1 + q.2.1 ∧ p' = q.2.2 + (p - q.1)
section
variable {W w w1 : Nat → Int32} {n : Nat} {fr : Nat → vF} {pl pl' : Nat → Nat} {pt : List vT}
theorem c_mq (hc : ∀ q ∈ pt, ∀ j, j < q.2.1 → w1 (q.2.2 + j) = w (q.1 + j)) (hM : MR w W n fr pl) (hp : ∀ i, i < n → PM pt (pl i) (pl' i) (vwd W (fr i).1)) : vMQ w1 W n fr pl' pl := by
  intro i hi
  obtain ⟨q, q1, q2, q3, q4⟩ := hp i hi
  obtain ⟨-, a1, a2, a3⟩ := hM i hi
  unfold vwd at q3
  have e : ∀ j, j < vsz W (fr i).1 + 2 → w1 (pl' i + j) = w (pl i + j) := fun j hj => by
    rw [q4, Nat.add_assoc, hc q q1 _ (by omega)]
    congr 1
    omega
  refine ⟨?_, ?_, fun k hk => ?_⟩
  · have := e 0 (by omega)
    rw [Nat.add_zero, Nat.add_zero] at this
    rw [this]; exact a1
  · rw [e 1 (by omega)]; exact a2
  · rw [Nat.add_assoc, e (2 + k) (by omega), ← Nat.add_assoc]; exact a3 k hk
theorem c_go {s0 : wt_S} (h : PT s0 pt) (hb : ∀ q ∈ pt, q.1 < 100000 ∧ q.2.1 < 100000 ∧ q.2.2 < 100000) (hd : pt.Pairwise (fun p q => p.1 + p.2.1 ≤ q.1 ∨ q.1 + q.2.1 ≤ p.1)) (hp : ∀ i, i < n → pl i + vwd W (fr i).1 ≤ 2048 ∧ PM pt (pl i) (pl' i) (vwd W (fr i).1)) : GO s0 W n fr pl pl' := by
  intro w' i hi j hj
  obtain ⟨h0, q, q1, q2, q3, q4⟩ := hp i hi
  rw [q_goalOf h.uf hb (by omega), vgo_in hd q1 (by omega) (by omega), q4]
  congr 3
  omega
end
theorem vsum_0 {f : Nat → Nat} : ∀ {k : Nat}, (∀ j, j < k → f j = 0) → vsum f k = 0 := by
  intro k
  induction k with
  | zero => intro _; rfl
  | succ k ih => intro h; rw [vsum, ih (fun j hj => h j (by omega)), h k (by omega)]
section
variable {w : Nat → Int32} {ps : List vP} {t np n : Nat} {fr : Nat → vF}
theorem Geo.sum (h : Geo w ps t np n fr) : ∀ i, i < n → vus w fr i = vsum (fun j => vud w fr j n) (fr i).2.1 + (fr i).2.2.1 := by
  intro i
  induction i with
  | zero =>
    intro hi
    rw [h.2.1.1, vsum_0 (fun j hj => vud_0 (fun i' hi' => by
      have := h.mono (i := 0) (j := i') (by omega) hi'
      omega))]
    rfl
  | succ i ih =>
    intro hi
    have h1 := ih (by omega)
    rw [vus_1, h1]
    rcases h.2.2 i hi with ⟨e1, e2⟩ | ⟨e1, e2⟩
    · rw [e1, e2]; omega
    · have h2 := h.ud i (by omega)
      have h3 := vud_eq (w := w) (fr := fr) (k := (fr i).2.1) (j := i + 1) (n := n) (by omega) (fun i' h4 h5 => by
        have := h.mono (i := i + 1) (j := i') h4 h5
        omega)
      rw [e1, e2, vsum, h3, h2]
      omega
theorem Geo.sumn (h : Geo w ps t np (n + 1) fr) (hl : (fr n).2.1 + 1 = np) : vsum (fun j => vud w fr j (n + 1)) np = vus w fr (n + 1) := by
  have h1 := h.sum n (by omega)
  have h2 := h.ud n (by omega)
  rw [← hl, vsum, vus_1, h1, h2]
  omega
theorem Geo.udl (h : Geo w ps t np n fr) {k : Nat} : vud w fr k n ≤ vln ps t k := by
  by_cases c : ∃ i, i < n ∧ (fr i).2.1 = k
  · -- the last one there
    have : ∀ m, m ≤ n → (∃ i, i < m ∧ (fr i).2.1 = k) → (∀ i, m ≤ i → i < n → (fr i).2.1 ≠ k) → vud w fr k n ≤ vln ps t k := by
      intro m
      induction m with
      | zero => rintro _ ⟨i, hi, -⟩; omega
      | succ m ih =>
        intro hm ⟨i, hi, e⟩ hno
        by_cases em : (fr m).2.1 = k
        · rw [vud_eq (j := m + 1) hm (fun i h1 h2 => hno i h1 h2), ← em, h.ud m (by omega)]
          exact (h.1 m (by omega)).2
        · refine ih (by omega) ⟨i, ?_, e⟩ (fun i' h1 h2 => ?_)
          · by_cases e2 : i = m
            · subst e2; exact absurd e em
            · omega
          · by_cases e2 : i' = m
            · subst e2; exact em
            · exact hno i' (by omega) h2
    exact this n (Nat.le_refl _) c (fun i h1 h2 => by omega)
  · rw [vud_0 (fun i hi e => c ⟨i, hi, e⟩)]
    exact Nat.zero_le _
theorem Geo.udi (h : Geo w ps t np n fr) {i : Nat} (hi : i < n) : (fr i).2.2.1 + vwd w (fr i).1 ≤ vud w fr (fr i).2.1 n := by
  rw [← h.ud i hi]
  exact vud_mono (by omega)
end
/-! ### JOINED: the parts -/
def vjp (V : vV) (t g k : Nat) : List vT := (List.range k).map (fun m => (vat V.2.1 t m, vud V.1 (V.2.2.2 t) m (V.2.2.1 t), g + vsum (fun j => vud V.1 (V.2.2.2 t) j (V.2.2.1 t)) m))
section
variable {V : vV} {t g np words : Nat}
theorem vjp_s {k : Nat} : vjp V t g (k + 1) = vjp V t g k ++ [(vat V.2.1 t k, vud V.1 (V.2.2.2 t) k (V.2.2.1 t), g + vsum (fun j => vud V.1 (V.2.2.2 t) j (V.2.2.1 t)) k)] := by
  unfold vjp
  rw [List.range_succ, List.map_append]
  rfl
theorem vjp_len {k : Nat} : (vjp V t g k).length = k := by unfold vjp; rw [List.length_map, List.length_range]
theorem vjp_ok (hj : VJ 2048 V) (ht : t < 6) (hc : Ico V t np) (h0 : 0 < V.2.2.1 t) (hg : g + words ≤ 2048 ∧ ∀ q ∈ V.2.1, g + words ≤ q.1 ∨ q.1 + q.2.1 ≤ g) (hu : vus V.1 (V.2.2.2 t) (V.2.2.1 t) ≤ words) :
    CP (vjp V t g np) ∧ (vjp V t g np).Pairwise (fun p q => p.1 + p.2.1 ≤ q.1 ∨ q.1 + q.2.1 ≤ p.1) ∧ (∀ q ∈ vjp V t g np, q.1 < 100000 ∧ q.2.1 < 100000 ∧ q.2.2 < 100000 ∧ g ≤ q.2.2 ∧ q.2.2 + q.2.1 ≤ g + vus V.1 (V.2.2.2 t) (V.2.2.1 t)) ∧ ∀ i, i < V.2.2.1 t → PM (vjp V t g np) (vpl V t i) (g + vus V.1 (V.2.2.2 t) i) (vwd V.1 (V.2.2.2 t i).1) := by
  obtain ⟨d1, d2, d3, d4, d5⟩ := hc.2.2.2.2.2.2.1 h0
  obtain ⟨n, hn⟩ : ∃ n, V.2.2.1 t = n + 1 := ⟨V.2.2.1 t - 1, by omega⟩
  have hnp := hc.2.2.1
  have hsum : vsum (fun j => vud V.1 (V.2.2.2 t) j (V.2.2.1 t)) np = vus V.1 (V.2.2.2 t) (V.2.2.1 t) := by
    rw [hn] at d1 d2 ⊢
    rw [Nat.add_sub_cancel] at d2
    exact d1.sumn (by omega)
  generalize hU : vus V.1 (V.2.2.2 t) (V.2.2.1 t) = u at *
  have hpc : ∀ m, m < np → ∃ q ∈ V.2.1, q.2.2.1 = t ∧ q.2.2.2 = m ∧ vat V.2.1 t m = q.1 ∧ vud V.1 (V.2.2.2 t) m (V.2.2.1 t) ≤ q.2.1 ∧ q.1 + q.2.1 ≤ 2048 ∧ (g + words ≤ q.1 ∨ q.1 + q.2.1 ≤ g) := fun m hm => by
    obtain ⟨q, q1, q2, q3, q4, q5, -⟩ := vget (hc.2.2.2.1.1 m hm)
    have := d1.udl (k := m)
    rw [q5] at this
    exact ⟨q, q1, q2, q3, q4, this, (hj.2.1.2 q q1).2.1, hg.2 q q1⟩
  have hsm : ∀ m, m < np → vsum (fun j => vud V.1 (V.2.2.2 t) j (V.2.2.1 t)) m + vud V.1 (V.2.2.2 t) m (V.2.2.1 t) ≤ u := fun m hm => by
    have := vsum_mono (f := fun j => vud V.1 (V.2.2.2 t) j (V.2.2.1 t)) (show m + 1 ≤ np by omega)
    rw [vsum, hsum] at this
    exact this
  have hmem : ∀ q ∈ vjp V t g np, ∃ m, m < np ∧ q = (vat V.2.1 t m, vud V.1 (V.2.2.2 t) m (V.2.2.1 t), g + vsum (fun j => vud V.1 (V.2.2.2 t) j (V.2.2.1 t)) m) := fun q hq => by
    obtain ⟨m, m1, m2⟩ := List.mem_map.mp hq
    exact ⟨m, List.mem_range.mp m1, m2.symm⟩
  have hpw : ∀ {R : vT → vT → Prop}, (∀ a b, a < b → b < np → R (vat V.2.1 t a, vud V.1 (V.2.2.2 t) a (V.2.2.1 t), g + vsum (fun j => vud V.1 (V.2.2.2 t) j (V.2.2.1 t)) a) (vat V.2.1 t b, vud V.1 (V.2.2.2 t) b (V.2.2.1 t), g + vsum (fun j => vud V.1 (V.2.2.2 t) j (V.2.2.1 t)) b)) → (vjp V t g np).Pairwise R := fun {R} hR => by
    unfold vjp
    rw [List.pairwise_map]
    exact List.Pairwise.imp_of_mem (fun ha hb hab => hR _ _ hab (List.mem_range.mp hb)) List.pairwise_lt_range
  refine ⟨⟨fun q hq => ?_, hpw (fun a b hab hb => ?_)⟩, hpw (fun a b hab hb => ?_), fun q hq => ?_, fun i hi => ?_⟩
  · obtain ⟨m, m1, rfl⟩ := hmem q hq
    obtain ⟨p, p1, p2, p3, p4, p5, p6, p7⟩ := hpc m m1
    have := hsm m m1
    show vat V.2.1 t m + vud V.1 (V.2.2.2 t) m (V.2.2.1 t) ≤ 2048 ∧ g + vsum (fun j => vud V.1 (V.2.2.2 t) j (V.2.2.1 t)) m + vud V.1 (V.2.2.2 t) m (V.2.2.1 t) ≤ 2048 ∧ (g + vsum (fun j => vud V.1 (V.2.2.2 t) j (V.2.2.1 t)) m ≤ vat V.2.1 t m ∨ vat V.2.1 t m + vud V.1 (V.2.2.2 t) m (V.2.2.1 t) ≤ g + vsum (fun j => vud V.1 (V.2.2.2 t) j (V.2.2.1 t)) m ∨ _)
    rw [p4]
    omega
  · obtain ⟨p, p1, p2, p3, p4, p5, p6, p7⟩ := hpc b hb
    have h1 := hsm a (by omega)
    have h2 := vsum_mono (f := fun j => vud V.1 (V.2.2.2 t) j (V.2.2.1 t)) (show a + 1 ≤ b by omega)
    rw [vsum] at h2
    show (g + vsum (fun j => vud V.1 (V.2.2.2 t) j (V.2.2.1 t)) a + vud V.1 (V.2.2.2 t) a (V.2.2.1 t) ≤ vat V.2.1 t b ∨ vat V.2.1 t b + vud V.1 (V.2.2.2 t) b (V.2.2.1 t) ≤ g + vsum (fun j => vud V.1 (V.2.2.2 t) j (V.2.2.1 t)) a) ∧ (g + vsum (fun j => vud V.1 (V.2.2.2 t) j (V.2.2.1 t)) a + vud V.1 (V.2.2.2 t) a (V.2.2.1 t) ≤ g + vsum (fun j => vud V.1 (V.2.2.2 t) j (V.2.2.1 t)) b ∨ _)
    rw [p4]
    omega
  · obtain ⟨p, p1, p2, p3, p4, p5, p6, p7⟩ := hpc a (by omega)
    obtain ⟨q, q1, q2, q3, q4, q5, q6, q7⟩ := hpc b hb
    show vat V.2.1 t a + vud V.1 (V.2.2.2 t) a (V.2.2.1 t) ≤ vat V.2.1 t b ∨ vat V.2.1 t b + vud V.1 (V.2.2.2 t) b (V.2.2.1 t) ≤ vat V.2.1 t a
    rw [p4, q4]
    rcases vdisj2 hj.2.1 p1 q1 with e | e | e
    · subst e; omega
    · omega
    · omega
  · obtain ⟨m, m1, rfl⟩ := hmem q hq
    obtain ⟨p, p1, p2, p3, p4, p5, p6, p7⟩ := hpc m m1
    have := hsm m m1
    show vat V.2.1 t m < 100000 ∧ vud V.1 (V.2.2.2 t) m (V.2.2.1 t) < 100000 ∧ g + vsum (fun j => vud V.1 (V.2.2.2 t) j (V.2.2.1 t)) m < 100000 ∧ g ≤ g + vsum (fun j => vud V.1 (V.2.2.2 t) j (V.2.2.1 t)) m ∧ g + vsum (fun j => vud V.1 (V.2.2.2 t) j (V.2.2.1 t)) m + vud V.1 (V.2.2.2 t) m (V.2.2.1 t) ≤ g + u
    rw [p4]
    omega
  · have hi1 := (d1.1 i hi).1
    have h1 := d1.sum i hi
    have h2 := d1.udi hi
    refine ⟨_, List.mem_map.mpr ⟨(V.2.2.2 t i).2.1, List.mem_range.mpr hi1, rfl⟩, ?_, ?_, ?_⟩
    · show vat V.2.1 t (V.2.2.2 t i).2.1 ≤ vpl V t i
      unfold vpl
      omega
    · show vpl V t i + _ ≤ vat V.2.1 t (V.2.2.2 t i).2.1 + vud V.1 (V.2.2.2 t) (V.2.2.2 t i).2.1 (V.2.2.1 t)
      unfold vpl
      omega
    · show g + vus V.1 (V.2.2.2 t) i = g + vsum (fun j => vud V.1 (V.2.2.2 t) j (V.2.2.1 t)) (V.2.2.2 t i).2.1 + (vpl V t i - vat V.2.1 t (V.2.2.2 t i).2.1)
      rw [h1]
      unfold vpl
      omega
end
end
