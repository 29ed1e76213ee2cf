/-! ===== the reference: piece, never ===== -/
section
variable {s : wt_S} {V : vV} {t B : Nat}
theorem vcp_0 {ps : List vP} (h : ∀ q ∈ ps, q.2.2.1 ≠ t) : vcp t ps = 0 := by
  unfold vcp
  rw [List.filter_eq_nil_iff.mpr (fun q hq => by simpa using h q hq)]
  rfl
theorem k_47 {n x : Nat} {what : Int32} {q : vP} (h : RS s V) (hI : VI 2048 B V) (ht : t < 6) (hn : n < 4294967296) (hx : vfi (vkey t n) V.2.1 0 = some x) (hxl : x < 256) (hu : ∃ v, gX11_usedIn s (nI t) (nI x) = some (v, s)) : Ok (fun _ s' => RO s s') (gX11_piece_47 s (nI t) what (nI t) (nI n)) := by
  unfold gX11_piece_47
  rw [q_pieceOf h.2.2.1 hI.J.2.1 ht hn, cl_some, hx, oI_some]
  obtain ⟨v, hv⟩ := hu
  refine ok_if (fun _ => ok_some RO.refl) (fun cw => ?_)
  refine ok_if (fun _ => ?_) (fun _ => ?_)
  · rw [li_add, ix_nI (by omega) (by omega)]; exact ok_some RO.refl
  refine ok_if (fun _ => ?_) (fun _ => ?_)
  · rw [li_add, ix_nI (by omega) (by omega)]; exact ok_some RO.refl
  refine ok_if (fun _ => ?_) (fun _ => ?_)
  · rw [hv, cl_some]; exact ok_some RO.refl
  refine ok_if (fun _ => ?_) (fun _ => ?_)
  · rw [li_add, ix_nI (by omega) (by omega)]; exact ok_if (fun _ => ok_some RO.refl) (fun _ => ok_some RO.refl)
  exfalso
  omega
theorem k_piece {x i what : Int32} (h : RS s V) (hI : VI 2048 B V) : Ok (fun _ s' => RO s s') (gX11_piece s x i what) := by
  have hj := hI.J
  unfold gX11_piece
  rw [q_isTask, cl_some, if_rb]
  refine ok_if (fun c1 => ?_) (fun _ => ok_some RO.refl)
  obtain ⟨t, ht, rfl, etn⟩ := i_task c1
  rw [q_piecesOf h.2.2.1 hj.2.1 ht, cl_some, q_isIn, cl_some, if_rbn]
  have hl := h.2.2.1.2.1
  have hvc : vcp t V.2.1 ≤ 256 := by
    have : vcp t V.2.1 ≤ V.2.1.length := List.length_filter_le ..
    omega
  refine ok_if (fun c2 => ?_) (fun _ => ok_some RO.refl)
  obtain ⟨i, i1, rfl, i3, i4⟩ := i_nat (x := i) c2.1
  have hic : i < vcp t V.2.1 := by
    have := c2.2
    by_cases e : vcp t V.2.1 = 0
    · rw [e, i4] at this
      have h2 : (nI 0 - 1).toInt = -1 := by decide
      omega
    · rw [li_sub (by omega), i4] at this
      rw [nI_int (by omega)] at this
      omega
  have hb : vbz V.1 t := by
    rcases hI.2.2.2.2.2 t ht with ⟨b, -⟩ | b
    · exact b
    · rw [vcp_0 b.2.2.2.2.2.2.2.2] at hic
      omega
  obtain ⟨np, z, z2, z3, k, l, hP, h0, -⟩ := hI.opn ht hb (by omega)
  obtain ⟨-, hc, -, -, -, -, -, -, -⟩ := hP
  have hnp := hc.2.2.1
  rw [li_add, ix_nI (by omega) (by omega), h.tk (c := 4066) (by omega) ht, hc.2.1, nI_int (by omega), nI_int (by omega)]
  refine ok_if (fun c3 => ?_) (fun c3 => ?_)
  · have hsp : ∃ q ∈ V.2.1, q.2.2.1 = t ∧ q.2.2.2 = 1000 := by
      apply Classical.byContradiction
      intro hno
      have := vcp_le (t := t) (np := np) hj.2.2.1 (fun q hq e => by
        rcases hc.2.2.2.1.2 q hq e with g | g
        · exact g
        · exact absurd ⟨q, hq, e, g⟩ hno)
      omega
    obtain ⟨x, q, e1, e2, e3, e4, e5, e6, e7, e8⟩ := vfi_some hsp
    refine k_47 (q := q) h hI ht (n := 1000) (by omega) e1 (by omega) ⟨0, ?_⟩
    unfold gX11_usedIn
    rw [li_add, ix_nI (by omega) (by omega), (h.2.2.1.2.2 x q e2).2.2.2, e6, if_neg (by simp [show nI 1000 = (1000 : Int32) from rfl])]
  · obtain ⟨x, q, e1, e2, e3, e4, e5, e6, e7, e8⟩ := vfi_some (hc.2.2.2.1.1 i (by omega))
    exact k_47 (q := q) h hI ht (n := i) (by omega) e1 (by omega) ⟨_, q_usedIn (m := i) h hI ht hb hc.2.1 (by omega) e2 e5 e6 (by omega)⟩
theorem VI.f54 (hI : VI 2048 B V) (ht : t < 6) : V.1 (3954 + t) = nI (V.2.2.1 t) := by
  rcases hI.2.2.2.2.2 t ht with ⟨-, n, np, e, c2, -⟩ | b
  · rw [e]; exact c2
  · rw [b.1]; exact b.2.1
theorem k_wrongW (h : RS s V) (hI : VI 2048 B V) (ht : t < 6) : Ok (fun _ s' => RO s s') (gX11_wrongWords s (nI t)) := by
  have hj := hI.J
  have hN := hI.n ht
  -- one frame's slots and what lies below it
  have h40 : ∀ (K : wt_S → Int32 → Int32 → Int32 → Option (Int32 × wt_S)) (i : Nat), i < V.2.2.1 t → (∀ (s' : wt_S) l2, RO s s' → Ok (fun _ s' => RO s s') (K s' (nI t) l2 (nI i + (-1)))) → ∀ (m k fu : Nat) (s1 : wt_S) (l2 : Int32), k + m = vsz V.1 (V.2.2.2 t i).1 → m < fu → RO s s1 → Ok (fun _ s' => RO s s') (gX11_wrongWords_40 K fu s1 (nI t) l2 (nI i) (nI (vpl V t i)) (nI (V.2.2.2 t i).1) (nI k)) := by
    intro K i hi hK m
    obtain ⟨f1, f2, f3⟩ := hj.fit ht hi
    obtain ⟨z1, z2⟩ := hj.1.sz f1
    unfold vwd at f3
    induction m with
    | zero =>
      intro k fu s1 l2 hk hfu hr
      obtain ⟨fu, rfl⟩ : ∃ m, fu = m + 1 := ⟨fu - 1, by omega⟩
      have h1 := h.ro hr
      rw [gX11_wrongWords_40, li_add, ix_nI (by omega) (by omega), h1.pr (c := 2228 + (V.2.2.2 t i).1) (by omega), z1, nI_int (by omega), nI_int (by omega), if_pos (by omega)]
      refine ok_if (fun ci => ?_) (fun ci => ?_)
      · have hi0 : i ≠ 0 := fun e => ci (by rw [e]; rfl)
        obtain ⟨s2, e1, e2, e3, e4, e5⟩ := q_looksAt h1 hI ht (show i - 1 < V.2.2.1 t by omega)
        have hr2 := hr.trans e2
        have h2 := h.ro hr2
        have fm := (hj.fit ht (show i - 1 < V.2.2.1 t by omega)).1
        obtain ⟨y, q, y1, y2, y3, -⟩ := q_pcAt h2 hj ht hi
        rw [li_sub (by omega), e1, cl_some, e4, q_frameOf fm, cl_some, y1, cl_some]
        unfold gX11_wrongWords_186 gX11_wrongWords_190 gX11_wrongWords_191
        refine ok_if (fun _ => hK _ _ hr2) (fun _ => ok_if (fun _ => hK _ _ hr2) (fun _ => ?_))
        rw [li_add, ix_nI (by omega) (by omega)]
        exact ok_if (fun _ => hK _ _ hr2) (fun _ => hK _ _ hr2)
      · exact hK _ _ hr
    | succ m ih =>
      intro k fu s1 l2 hk hfu hr
      obtain ⟨fu, rfl⟩ : ∃ m, fu = m + 1 := ⟨fu - 1, by omega⟩
      have h1 := h.ro hr
      rw [gX11_wrongWords_40, li_add, ix_nI (by omega) (by omega), h1.pr (c := 2228 + (V.2.2.2 t i).1) (by omega), z1, nI_int (by omega), nI_int (by omega), if_neg (by omega), q_isPointer f1, cl_some]
      unfold gX11_wrongWords_109 gX11_wrongWords_110
      rw [nI_1]
      refine ok_if (fun _ => ih (k + 1) fu s1 _ (by omega) (by omega) hr) (fun _ => ?_)
      rw [li_add2, nI_add, ix_nI (by omega) (by omega)]
      refine ok_if (fun _ => ih (k + 1) fu s1 _ (by omega) (by omega) hr) (fun _ => ?_)
      rw [ix_nI (by omega) (by omega)]
      refine ok_cl (k_pointed h1 hI ht (by omega)) (fun r s2 hr2 => ?_)
      exact ok_if (fun _ => ih (k + 1) fu s2 _ (by omega) (by omega) (hr.trans hr2)) (fun _ => ih (k + 1) fu s2 _ (by omega) (by omega) (hr.trans hr2))
  have loop : ∀ (m fu : Nat) (s1 : wt_S) (l2 : Int32), m < fu → m ≤ V.2.2.1 t → RO s s1 → Ok (fun _ s' => RO s s') (gX11_wrongWords_15 fu s1 (nI t) l2 (nI m + (-1))) := by
    intro m
    induction m with
    | zero =>
      intro fu s1 l2 hfu hm hr
      obtain ⟨fu, rfl⟩ : ∃ m, fu = m + 1 := ⟨fu - 1, by omega⟩
      rw [gX11_wrongWords_15, if_pos (by decide)]
      exact ok_some hr
    | succ m ih =>
      intro fu s1 l2 hfu hm hr
      obtain ⟨fu, rfl⟩ : ∃ m, fu = m + 1 := ⟨fu - 1, by omega⟩
      have h1 := h.ro hr
      obtain ⟨s2, e1, e2, e3, e4, e5⟩ := q_looksAt h1 hI ht (show m < V.2.2.1 t by omega)
      have f1 := (hj.fit ht (show m < V.2.2.1 t by omega)).1
      have z2 := (hj.1.sz f1).2
      rw [gX11_wrongWords_15, nI_pred2, nI_int (by omega), if_neg (by show ¬ _ < (0 : Int); omega), e1, cl_some, e3, e4]
      exact h40 (gX11_wrongWords_15 fu) m (by omega) (fun s' l hr' => ih fu s' l (by omega) (by omega) hr') (vsz V.1 (V.2.2.2 t m).1) 0 wt_N s2 l2 (by omega) (by unfold wt_N; omega) (hr.trans e2)
  unfold gX11_wrongWords
  rw [li_add, ix_nI (by omega) (by omega), h.tk (c := 3954) (by omega) ht, hI.f54 ht, i_sub1]
  exact loop (V.2.2.1 t) wt_N s 0 (by unfold wt_N; omega) (Nat.le_refl _) RO.refl
theorem k_wrongF (h : RS s V) (hI : VI 2048 B V) (ht : t < 6) : Ok (fun _ s' => RO s s') (gX11_wrongFrames s (nI t)) := by
  have hj := hI.J
  have hN := hI.n ht
  have h112 : ∀ (K : wt_S → Int32 → Int32 → Int32 → Option (Int32 × wt_S)) (i : Nat), i < V.2.2.1 t → (∀ (s' : wt_S) l2, RO s s' → Ok (fun _ s' => RO s s') (K s' (nI t) l2 (nI i + (-1)))) → ∀ (m k fu : Nat) (s1 : wt_S) (l2 z : Int32), k + m = vpl V t i + vwd V.1 (V.2.2.2 t i).1 → m < fu → RO s s1 → Ok (fun _ s' => RO s s') (gX11_wrongFrames_112 K fu s1 (nI t) l2 (nI i) (nI (vpl V t i + vwd V.1 (V.2.2.2 t i).1)) z (nI k)) := by
    intro K i hi hK m
    obtain ⟨f1, f2, f3⟩ := hj.fit ht hi
    induction m with
    | zero =>
      intro k fu s1 l2 z hk hfu hr
      obtain ⟨fu, rfl⟩ : ∃ m, fu = m + 1 := ⟨fu - 1, by omega⟩
      rw [gX11_wrongFrames_112, nI_int (by omega), nI_int (by omega), if_pos (by omega)]
      unfold gX11_wrongFrames_166
      exact ok_if (fun _ => hK _ _ hr) (fun _ => hK _ _ hr)
    | succ m ih =>
      intro k fu s1 l2 z hk hfu hr
      obtain ⟨fu, rfl⟩ : ∃ m, fu = m + 1 := ⟨fu - 1, by omega⟩
      rw [gX11_wrongFrames_112, nI_int (by omega), nI_int (by omega), if_neg (by omega)]
      unfold gX11_wrongFrames_134 gX11_wrongFrames_139
      rw [nI_1, ix_nI (by omega) (by omega), ix_nI (by omega) (by omega), ix_nI (by omega) (by omega), wr_eq, wr_eq]
      have hr2 := hr.trans (RO.u8 (s := s1) (k := k) (v := 1))
      exact ok_if (fun _ => ih (k + 1) fu _ _ _ (by omega) (by omega) hr2) (fun _ => ok_if (fun _ => ih (k + 1) fu _ _ _ (by omega) (by omega) hr2) (fun _ => ih (k + 1) fu _ _ _ (by omega) (by omega) hr2))
  have loop : ∀ (m fu : Nat) (s1 : wt_S) (l2 : Int32), m < fu → m ≤ V.2.2.1 t → RO s s1 → Ok (fun _ s' => RO s s') (gX11_wrongFrames_15 fu s1 (nI t) l2 (nI m + (-1))) := by
    intro m
    induction m with
    | zero =>
      intro fu s1 l2 hfu hm hr
      obtain ⟨fu, rfl⟩ : ∃ m, fu = m + 1 := ⟨fu - 1, by omega⟩
      rw [gX11_wrongFrames_15, if_pos (by decide)]
      exact ok_some hr
    | succ m ih =>
      intro fu s1 l2 hfu hm hr
      obtain ⟨fu, rfl⟩ : ∃ m, fu = m + 1 := ⟨fu - 1, by omega⟩
      have h1 := h.ro hr
      obtain ⟨s2, e1, e2, e3, e4, e5⟩ := q_looksAt h1 hI ht (show m < V.2.2.1 t by omega)
      have hr2 := hr.trans e2
      have h2 := h.ro hr2
      obtain ⟨f1, f2, f3⟩ := hj.fit ht (show m < V.2.2.1 t by omega)
      obtain ⟨w1, w2⟩ := hj.1.wd f1
      obtain ⟨y, q, y1, y2, y3, -⟩ := q_pcAt h2 hj ht (show m < V.2.2.1 t by omega)
      have key := h112 (gX11_wrongFrames_15 fu) m (by omega) (fun s' l hr' => ih fu s' l (by omega) (by omega) hr') (vwd V.1 (V.2.2.2 t m).1) (vpl V t m) wt_N s2
      rw [gX11_wrongFrames_15, nI_pred2, nI_int (by omega), if_neg (by show ¬ _ < (0 : Int); omega), e1, cl_some, e4, q_frameOf f1, cl_some, h2.pr (c := 2228 + (V.2.2.2 t m).1) (by omega), w1, e3, y1, cl_some, nI_add]
      unfold gX11_wrongFrames_99 gX11_wrongFrames_104
      rw [e3]
      have fin : ∀ z, Ok (fun _ s' => RO s s') (gX11_wrongFrames_112 (gX11_wrongFrames_15 fu) wt_N s2 (nI t) l2 (nI m) (nI (vpl V t m + vwd V.1 (V.2.2.2 t m).1)) z (nI (vpl V t m))) := fun z => key l2 z (by omega) (by unfold wt_N; omega) hr2
      refine ok_if (fun _ => fin _) (fun _ => ?_)
      rw [li_add, ix_nI (by omega) (by omega)]
      refine ok_if (fun _ => fin _) (fun _ => ?_)
      rw [li_add, ix_nI (by omega) (by omega), li_add, ix_nI (by omega) (by omega)]
      exact ok_if (fun _ => fin _) (fun _ => fin _)
  unfold gX11_wrongFrames
  rw [li_add, ix_nI (by omega) (by omega), h.tk (c := 3954) (by omega) ht, hI.f54 ht, i_sub1]
  exact loop (V.2.2.1 t) wt_N s 0 (by unfold wt_N; omega) (Nat.le_refl _) RO.refl
theorem k_never {what : Int32} (h : RS s V) (hI : VI 2048 B V) : Ok (fun _ s' => RO s s') (gX11_never s what) := by
  have h50 : ∀ (m k fu : Nat) (s1 : wt_S) (l2 : Int32), k + m = 6 → m < fu → RO s s1 → Ok (fun _ s' => RO s s') (gX11_never_50 fu s1 what l2 (nI k)) := by
    intro m
    induction m with
    | zero =>
      intro k fu s1 l2 hk hfu hr
      obtain ⟨fu, rfl⟩ : ∃ m, fu = m + 1 := ⟨fu - 1, by omega⟩
      rw [gX11_never_50, nI_int (by omega), if_pos (by show (6 : Int) ≤ _; omega)]
      exact ok_some hr
    | succ m ih =>
      intro k fu s1 l2 hk hfu hr
      obtain ⟨fu, rfl⟩ : ∃ m, fu = m + 1 := ⟨fu - 1, by omega⟩
      have h1 := h.ro hr
      rw [gX11_never_50, nI_int (by omega), if_neg (by show ¬ (6 : Int) ≤ _; omega)]
      unfold gX11_never_75
      rw [nI_1]
      exact ok_if (fun _ => ok_cl (k_wrongF h1 hI (by omega)) (fun r s2 hr2 => ih (k + 1) fu s2 _ (by omega) (by omega) (hr.trans hr2))) (fun _ => ok_cl (k_wrongW h1 hI (by omega)) (fun r s2 hr2 => ih (k + 1) fu s2 _ (by omega) (by omega) (hr.trans hr2)))
  have h26 : ∀ (m k fu : Nat) (s1 : wt_S), k + m = 2048 → m < fu → RO s s1 → Ok (fun _ s' => RO s s') (gX11_never_26 fu s1 what (nI k)) := by
    intro m
    induction m with
    | zero =>
      intro k fu s1 hk hfu hr
      obtain ⟨fu, rfl⟩ : ∃ m, fu = m + 1 := ⟨fu - 1, by omega⟩
      rw [gX11_never_26, nI_int (by omega), if_pos (by show (2048 : Int) ≤ _; omega)]
      exact h50 6 0 wt_N s1 0 (by omega) (by unfold wt_N; omega) hr
    | succ m ih =>
      intro k fu s1 hk hfu hr
      obtain ⟨fu, rfl⟩ : ∃ m, fu = m + 1 := ⟨fu - 1, by omega⟩
      rw [gX11_never_26, nI_int (by omega), if_neg (by show ¬ (2048 : Int) ≤ _; omega), ix_nI (by omega) (by omega), wr_eq, nI_1]
      exact ih (k + 1) fu _ (by omega) (by omega) (hr.trans RO.u8)
  unfold gX11_never
  refine ok_if (fun _ => ?_) (fun _ => ok_some RO.refl)
  rw [q_isIn, cl_some]
  exact ok_if (fun _ => h26 2048 0 wt_N s (by omega) (by unfold wt_N; omega) RO.refl) (fun _ => ok_some RO.refl)
end
