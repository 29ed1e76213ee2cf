/-! ===== the reference: over the frames of a task ===== -/
theorem vidx {lim : Nat} {ps : List vP} (ho : vo lim ps) {x y : Nat} {q : vP} (hx : ps[x]? = some q) (hy : ps[y]? = some q) : x = y := by
  obtain ⟨x1, x2⟩ := List.getElem?_eq_some_iff.mp hx
  obtain ⟨y1, y2⟩ := List.getElem?_eq_some_iff.mp hy
  have hq := (ho.2 q (List.mem_of_getElem? hx)).1
  rcases Nat.lt_trichotomy x y with c | c | c
  · have := List.pairwise_iff_getElem.mp ho.1 x y x1 y1 c
    rw [x2, y2] at this
    omega
  · exact c
  · have := List.pairwise_iff_getElem.mp ho.1 y x y1 x1 c
    rw [x2, y2] at this
    omega
theorem vdisj2 {lim : Nat} {ps : List vP} (ho : vo lim ps) {p q : vP} (hp : p ∈ ps) (hq : q ∈ ps) : p = q ∨ p.1 + p.2.1 ≤ q.1 ∨ q.1 + q.2.1 ≤ p.1 := by
  obtain ⟨x, x1, x2⟩ := List.getElem_of_mem hp
  obtain ⟨y, y1, y2⟩ := List.getElem_of_mem hq
  rcases Nat.lt_trichotomy x y with c | c | c
  · have := List.pairwise_iff_getElem.mp ho.1 x y x1 y1 c
    rw [x2, y2] at this
    exact Or.inr (Or.inl this)
  · subst c
    exact Or.inl (x2.symm.trans y2)
  · have := List.pairwise_iff_getElem.mp ho.1 y x y1 x1 c
    rw [x2, y2] at this
    exact Or.inr (Or.inr this)
theorem vfi_in {lim : Nat} {ps : List vP} (ho : vo lim ps) {q : vP} (hq : q ∈ ps) {p : Nat} (h1 : q.1 ≤ p) (h2 : p < q.1 + q.2.1) : ∃ x, vfi (vhas p) ps 0 = some x ∧ ps[x]? = some q ∧ x < ps.length := by
  cases e : vfi (vhas p) ps 0 with
  | none =>
    have := vfi_none e q hq
    unfold vhas at this
    rw [decide_eq_false_iff_not] at this
    exact absurd ⟨h1, h2⟩ this
  | some x =>
    obtain ⟨q', a1, a2, a3⟩ := vfi_spec e
    rw [Nat.sub_zero] at a2
    unfold vhas at a3
    rw [decide_eq_true_iff] at a3
    have hq' : q' ∈ ps := List.mem_of_getElem? a2
    have : q' = q := by
      rcases vdisj2 ho hq' hq with c | c | c
      · exact c
      · omega
      · omega
    subst this
    exact ⟨x, rfl, a2, (List.getElem?_eq_some_iff.mp a2).1⟩
section
variable {s : wt_S} {V : vV} {t B : Nat}
theorem q_goesBack {j : Nat} (h : RS s V) (hj : VJ 2048 V) (ht : t < 6) (hi : j + 1 < V.2.2.1 t) (h1 : s 110 11 = nI (vpl V t (j + 1))) : ∃ s', gX11_goesBack s = some ((), s') ∧ RO s s' ∧ s' 110 11 = nI (vpl V t j) ∧ s' 110 12 = nI (V.2.2.2 t j).1 ∧ s' 110 13 = nI ((V.2.2.2 t (j + 1)).2.2.2.1 % 32) := by
  obtain ⟨np, -, -, a3⟩ := hj.geo ht (by omega)
  have hfit := (hj.fit ht hi).2.2
  unfold vwd at hfit
  obtain ⟨w1, w2, -⟩ := h.wd hj rfl ht hi
  rw [if_neg (by omega), Nat.add_sub_cancel] at w1
  obtain ⟨b1, b2, -⟩ := a3.2.2.1 j hi
  obtain ⟨-, -, bb3, bb4, -⟩ := bk_at b1
  unfold gX11_goesBack
  rw [h1, li_add2, ix_nI (by omega) (by omega), w2, wr_eq, wr_eq, bb3, bb4, wt_u_nk (show (11 : Nat) ≠ 13 by omega), wt_u_nk (show (11 : Nat) ≠ 12 by omega), h1, ix_nI (by omega) (by omega), wr_eq, wt_u_ne (show (111 : Nat) ≠ 110 by omega), wt_u_ne (show (111 : Nat) ≠ 110 by omega), w1, b2]
  refine ⟨_, rfl, (RO.uo (by omega) (by omega)).trans ((RO.uo (by omega) (by omega)).trans (RO.uo (by omega) (by omega))), wt_u_self, ?_, ?_⟩
  · rw [wt_u_nk (by omega), wt_u_nk (by omega), wt_u_self]
  · rw [wt_u_nk (by omega), wt_u_self]
/-- the line that comes next in a frame -/
def vnl (V : vV) (t i : Nat) : Int32 := if i + 1 = V.2.2.1 t then V.1 (3968 + t) else nI ((V.2.2.2 t (i + 1)).2.2.2.1 % 32)
theorem q_looksAt_55 {i : Nat} (hj : VJ 2048 V) (ht : t < 6) (hN : V.2.2.1 t ≤ 3334) : ∀ (m fu : Nat) (s : wt_S), m < fu → i + m < V.2.2.1 t → RS s V → s 110 11 = nI (vpl V t (i + m)) → s 110 12 = nI (V.2.2.2 t (i + m)).1 → s 110 13 = vnl V t (i + m) → ∃ s', gX11_looksAt_55 fu s (nI i) (nI (i + m)) = some ((), s') ∧ RO s s' ∧ s' 110 11 = nI (vpl V t i) ∧ s' 110 12 = nI (V.2.2.2 t i).1 ∧ s' 110 13 = vnl V t i := by
  intro m
  induction m with
  | zero =>
    intro fu s hfu hi h g1 g2 g3
    obtain ⟨fu, rfl⟩ : ∃ m, fu = m + 1 := ⟨fu - 1, by omega⟩
    rw [gX11_looksAt_55, nI_int (by omega), nI_int (by omega), if_pos (by omega)]
    exact ⟨s, rfl, RO.refl, g1, g2, g3⟩
  | succ m ih =>
    intro fu s hfu hi h g1 g2 g3
    obtain ⟨fu, rfl⟩ : ∃ m, fu = m + 1 := ⟨fu - 1, by omega⟩
    obtain ⟨s1, e1, e2, e3, e4, e5⟩ := q_goesBack (j := i + m) h hj ht (by omega) g1
    obtain ⟨s', f1, f2, f3⟩ := ih fu s1 (by omega) (by omega) (h.ro e2) e3 e4 (by unfold vnl; rw [if_neg (by omega)]; exact e5)
    rw [gX11_looksAt_55, nI_int (by omega), nI_int (by omega), if_neg (by omega), e1, cl_some, show i + (m + 1) = i + m + 1 by omega, nI_pred2, f1]
    exact ⟨s', rfl, e2.trans f2, f3⟩
theorem VI.n (hI : VI 2048 B V) (ht : t < 6) : V.2.2.1 t ≤ 700 := by
  by_cases c : V.2.2.1 t = 0
  · omega
  · obtain ⟨-, n, np, e, -, -, -, h2, -, h3, -, h4, -⟩ := hI.bz ht (by omega)
    have a1 := h3.all hI.2.2.1.1
    have a2 := vus3 (fun i hi => (h4.1 i hi).2)
    omega
theorem q_looksAt {i : Nat} (h : RS s V) (hI : VI 2048 B V) (ht : t < 6) (hi : i < V.2.2.1 t) : ∃ s', gX11_looksAt s (nI t) (nI i) = some ((), s') ∧ RO s s' ∧ s' 110 11 = nI (vpl V t i) ∧ s' 110 12 = nI (V.2.2.2 t i).1 ∧ s' 110 13 = vnl V t i := by
  have hN := hI.n ht
  obtain ⟨-, n, np, e, c2, -, -, -, -, -, -, -, -, c11, c12, -⟩ := hI.bz ht (by omega)
  unfold gX11_looksAt
  rw [li_add, ix_nI (by omega) (by omega), h.tk (c := 3982) (by omega) ht, c11, wr_eq, li_add, ix_nI (by omega) (by omega), wr_eq, li_add, ix_nI (by omega) (by omega), wr_eq, li_add, ix_nI (by omega) (by omega)]
  have e111 : ∀ (s : wt_S) k v, (wt_u s 110 k v) 111 = s 111 := fun s k v => wt_u_ne (by omega)
  simp only [e111]
  rw [h.tk (c := 3975) (by omega) ht, c12, h.tk (c := 3968) (by omega) ht, h.tk (c := 3954) (by omega) ht, c2, li_sub (by omega), Nat.add_sub_cancel]
  have hro : RO s (wt_u (wt_u (wt_u s 110 11 (nI (vpl V t n))) 110 12 (nI (V.2.2.2 t n).1)) 110 13 (V.1 (3968 + t))) := (RO.uo (by omega) (by omega)).trans ((RO.uo (by omega) (by omega)).trans (RO.uo (by omega) (by omega)))
  have hin : i + (n - i) = n := by omega
  obtain ⟨s', f1, f2, f3⟩ := q_looksAt_55 (i := i) hI.J ht (by omega) (n - i) wt_N _ (by unfold wt_N; omega) (by omega) (h.ro hro) (by rw [hin, wt_u_nk (by omega), wt_u_nk (by omega), wt_u_self]) (by rw [hin, wt_u_nk (by omega), wt_u_self]) (by rw [hin, wt_u_self]; unfold vnl; rw [if_pos (by omega)])
  rw [hin] at f1
  rw [f1]
  exact ⟨s', rfl, hro.trans f2, f3⟩
theorem q_isFrame {x i : Int32} (h : RS s V) (hI : VI 2048 B V) : gX11_isFrame s x i = some (rb ((0 ≤ x.toInt ∧ x.toInt ≤ 5) ∧ 0 ≤ i.toInt ∧ i.toInt.toNat < V.2.2.1 x.toInt.toNat), s) := by
  unfold gX11_isFrame
  rw [q_isTask, cl_some, if_rb]
  by_cases c1 : 0 ≤ x.toInt ∧ x.toInt ≤ 5
  · obtain ⟨t, ht, rfl, etn⟩ := i_task c1
    have hN := hI.n ht
    have h54 : V.1 (3954 + t) = nI (V.2.2.1 t) := by
      rcases hI.2.2.2.2.2 t ht with ⟨-, n, np, e, c2, -⟩ | b
      · rw [e]; exact c2
      · rw [b.1]; exact b.2.1
    rw [if_pos c1, li_add, ix_nI (by omega) (by omega), h.tk (c := 3954) (by omega) ht, h54, q_isIn, cl_some, if_rb]
    have hz : (nI (V.2.2.1 t) - 1).toInt = (V.2.2.1 t : Int) - 1 := by
      by_cases e : V.2.2.1 t = 0
      · rw [e]; decide
      · rw [li_sub (by omega), nI_int (by omega)]; omega
    rw [hz, etn]
    by_cases c2 : (0 : Int32).toInt ≤ i.toInt ∧ i.toInt ≤ (V.2.2.1 t : Int) - 1
    · have c3 : (0 : Int) ≤ i.toInt := c2.1
      rw [if_pos c2, rb_pos ⟨c1, c3, by omega⟩]
    · rw [if_neg c2, rb_neg (fun e => c2 ⟨e.2.1, by have := e.2.2; omega⟩)]
  · rw [if_neg c1, rb_neg (fun e => c1 e.1)]
/-- the piece of a frame -/
theorem q_pcAt {i : Nat} (h : RS s V) (hj : VJ 2048 V) (ht : t < 6) (hi : i < V.2.2.1 t) : ∃ x q, gX11_pieceAt s (nI (vpl V t i)) = some (nI x, s) ∧ V.2.1[x]? = some q ∧ x < 256 ∧ q.2.2.1 = t ∧ q.2.2.2 = (V.2.2.2 t i).2.1 ∧ q.1 = vat V.2.1 t (V.2.2.2 t i).2.1 := by
  obtain ⟨np, a1, a2, a3⟩ := hj.geo ht (by omega)
  obtain ⟨q, q1, q2, q3, q4, q5⟩ := a2.pc a1 hi
  have hfit := hj.2.1.2 q q1
  have hpl : vpl V t i = q.1 + (V.2.2.2 t i).2.2.1 := by unfold vpl; rw [q4]
  unfold vwd at q5
  obtain ⟨x, x1, x2, x3⟩ := vfi_in hj.2.1 q1 (p := vpl V t i) (by omega) (by omega)
  refine ⟨x, q, ?_, x2, by have := h.2.2.1.2.1; omega, q2, q3, q4.symm⟩
  rw [q_pieceAt h.2.2.1 hj.2.1 (by omega), x1]
  rfl
theorem k_frame {x i what : Int32} (h : RS s V) (hI : VI 2048 B V) : Ok (fun _ s' => RO s s') (gX11_frame s x i what) := by
  unfold gX11_frame
  rw [q_isFrame h hI, cl_some, if_rbn]
  refine ok_if (fun c => ?_) (fun _ => ok_some RO.refl)
  obtain ⟨c1, c2, c3⟩ := c
  obtain ⟨t, ht, rfl, etn⟩ := i_task c1
  obtain ⟨i, i1, rfl, i3, i4⟩ := i_nat (x := i) c2
  rw [etn, i3] at c3
  obtain ⟨s1, e1, e2, e3, e4, e5⟩ := q_looksAt h hI ht c3
  have h1 := h.ro e2
  have hfit := (hI.J.fit ht c3).2.2
  unfold vwd at hfit
  rw [e1, cl_some, e3]
  refine ok_if (fun _ => ok_some e2) (fun cw => ?_)
  refine ok_if (fun _ => ok_some e2) (fun _ => ?_)
  refine ok_if (fun _ => ok_some e2) (fun _ => ?_)
  refine ok_if (fun _ => ?_) (fun _ => ?_)
  · obtain ⟨y, q, y1, y2, y3, -⟩ := q_pcAt h1 hI.J ht c3
    rw [y1, cl_some, li_add, ix_nI (by omega) (by omega)]
    exact ok_some e2
  refine ok_if (fun _ => ?_) (fun _ => ?_)
  · rw [li_add2, ix_nI (by omega) (by omega)]
    exact ok_if (fun _ => ok_some e2) (fun _ => ok_some e2)
  refine ok_if (fun _ => ok_some e2) (fun _ => ?_)
  refine ok_if (fun _ => ?_) (fun _ => ?_)
  · rw [li_add2, ix_nI (by omega) (by omega)]
    exact ok_if (fun _ => ok_some e2) (fun _ => ok_some e2)
  refine ok_if (fun _ => ?_) (fun _ => ?_)
  · rw [ix_nI (by omega) (by omega)]
    exact ok_some e2
  refine ok_if (fun _ => ?_) (fun _ => ?_)
  · rw [li_add2, ix_nI (by omega) (by omega)]
    exact ok_some e2
  exfalso
  omega
theorem k_pointed {p : Int32} (h : RS s V) (hI : VI 2048 B V) (ht : t < 6) (hn : 0 < V.2.2.1 t) : Ok (fun _ s' => RO s s') (gX11_pointed s (nI t) p) := by
  have hN := hI.n ht
  have hj := hI.J
  obtain ⟨n, hn1⟩ : ∃ n, V.2.2.1 t = n + 1 := ⟨V.2.2.1 t - 1, by omega⟩
  have h54 : V.1 (3954 + t) = nI (n + 1) := by
    obtain ⟨-, m, np, e, c2, -⟩ := hI.bz ht hn
    rw [← hn1, e]; exact c2
  have loop : ∀ (m fu : Nat) (s : wt_S), m + 1 < fu → m < V.2.2.1 t → RS s V → s 110 11 = nI (vpl V t m) → s 110 12 = nI (V.2.2.2 t m).1 → Ok (fun _ s' => RO s s') (gX11_pointed_30 fu s p (nI m)) := by
    intro m
    induction m with
    | zero =>
      intro fu s hfu hm h g1 g2
      obtain ⟨fu, rfl⟩ : ∃ m, fu = m + 1 + 1 := ⟨fu - 2, by omega⟩
      have hf := (hj.fit ht hm).1
      rw [gX11_pointed_30, nI_int (by omega), if_neg (by decide), g2, li_add, ix_nI (by omega) (by omega), q_isIn, cl_some]
      refine ok_if (fun _ => ok_if (fun _ => ?_) (fun c => absurd (by decide) c)) (fun _ => ?_)
      · rw [show nI 0 + (-1) = (-1 : Int32) from by decide, gX11_pointed_30, if_pos (by decide)]
        exact ok_some RO.refl
      · rw [g2, li_add, ix_nI (by omega) (by omega)]
        unfold gX11_has
        exact ok_cl (ok_if (fun _ => ok_some (P := fun _ s' => RO s s') RO.refl) (fun _ => ok_some RO.refl)) (fun r s' hr => ok_if (fun _ => ok_some hr) (fun _ => ok_some hr))
    | succ m ih =>
      intro fu s hfu hm h g1 g2
      obtain ⟨fu, rfl⟩ : ∃ m, fu = m + 1 := ⟨fu - 1, by omega⟩
      have hf := (hj.fit ht hm).1
      rw [gX11_pointed_30, nI_int (by omega), if_neg (by show ¬ _ < (0 : Int); omega), g2, li_add, ix_nI (by omega) (by omega), q_isIn, cl_some]
      refine ok_if (fun _ => ok_if (fun c => absurd c (by show ¬ _ ≤ (0 : Int); omega)) (fun _ => ?_)) (fun _ => ?_)
      · obtain ⟨s1, e1, e2, e3, e4, e5⟩ := q_goesBack (j := m) h hj ht hm g1
        rw [e1, cl_some, nI_pred2]
        exact ok_im (ih fu s1 (by omega) (by omega) (h.ro e2) e3 e4) (fun _ _ hr => e2.trans hr)
      · rw [g2, li_add, ix_nI (by omega) (by omega)]
        unfold gX11_has
        exact ok_cl (ok_if (fun _ => ok_some (P := fun _ s' => RO s s') RO.refl) (fun _ => ok_some RO.refl)) (fun r s' hr => ok_if (fun _ => ok_some hr) (fun _ => ok_some hr))
  unfold gX11_pointed
  obtain ⟨s1, e1, e2, e3, e4, e5⟩ := q_looksAt h hI ht (show n < V.2.2.1 t by omega)
  have h1 := h.ro e2
  rw [li_add, ix_nI (by omega) (by omega), h.tk (c := 3954) (by omega) ht, h54, li_sub (by omega), Nat.add_sub_cancel, e1, cl_some, ix_nI (by omega) (by omega), h1.tk (c := 3954) (by omega) ht, h54, li_sub (by omega), Nat.add_sub_cancel]
  exact ok_im (loop n wt_N s1 (by unfold wt_N; omega) (by omega) h1 e3 e4) (fun _ _ hr => e2.trans hr)
theorem k_slot {x i sl what : Int32} (h : RS s V) (hI : VI 2048 B V) : Ok (fun _ s' => RO s s') (gX11_slot s x i sl what) := by
  unfold gX11_slot gX11_slot_19
  rw [q_isFrame h hI, cl_some, if_rb]
  refine ok_if (fun c => ?_) (fun _ => ok_some RO.refl)
  obtain ⟨c1, c2, c3⟩ := c
  obtain ⟨t, ht, rfl, etn⟩ := i_task c1
  obtain ⟨i, i1, rfl, i3, i4⟩ := i_nat (x := i) c2
  rw [etn, i3] at c3
  rw [q_isIn, cl_some, if_rbn]
  refine ok_if (fun cw => ?_) (fun _ => ok_some RO.refl)
  obtain ⟨s1, e1, e2, e3, e4, e5⟩ := q_looksAt h hI ht c3
  have h1 := h.ro e2
  have hfit := hI.J.fit ht c3
  have hft := hfit.1
  have hfit2 := hfit.2.2
  unfold vwd at hfit2
  have hp1 := hI.2.1.ww h1.prog
  rw [e1, cl_some, e4, q_isSlot hft, cl_some, if_rbn]
  refine ok_if (fun cs => ?_) (fun _ => ok_some e2)
  obtain ⟨k, k1, k2, k3⟩ := v2s_slt hp1 hft cs
  subst k1
  have k3' : k < vsz V.1 (V.2.2.2 t i).1 := by rw [(h1.prog.sz hft).1] at k3; exact k3
  have h121 : ∀ (s' : wt_S) z, RO s s' → Ok (fun _ s' => RO s s') (gX11_slot_121 s' what z) := fun s' z hr => by
    unfold gX11_slot_121
    exact ok_if (fun _ => ok_if (fun _ => ok_some hr) (fun _ => ok_some hr)) (fun _ => ok_some hr)
  rw [e3, li_add2, nI_add, ix_nI (by omega) (by omega), e4, q_isPointer hft, cl_some]
  unfold gX11_slot_120
  refine ok_if (fun _ => ok_if (fun _ => h121 s1 _ e2) (fun _ => ok_if (fun _ => h121 s1 _ e2) (fun _ => ?_))) (fun _ => ok_if (fun _ => ok_if (fun _ => ok_some e2) (fun _ => ok_some e2)) (fun _ => ok_some e2))
  exact ok_cl (k_pointed h1 hI ht (by omega)) (fun r s' hr => h121 s' r (e2.trans hr))
end
