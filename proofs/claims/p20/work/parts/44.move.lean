section
/-! ===== the reference moves a copied stack ===== -/
theorem oI_some {x : Nat} : oI (some x) = nI x := rfl
theorem oI_none : oI none = -1 := rfl
theorem q_part {s : wt_S} {pt : List vT} {a b c : Nat} (h : PT s pt) (hl : pt.length < 256) : ∃ s', gX11_part s (nI a) (nI b) (nI c) = some ((), s') ∧ PT s' (pt ++ [(a, b, c)]) ∧ s' 111 = s 111 ∧ RF s s' := by
  obtain ⟨h1, h2, h3⟩ := h
  refine ⟨wt_u (wt_u (wt_u (wt_u s 115 pt.length (nI a)) 116 pt.length (nI b)) 117 pt.length (nI c)) 110 9 (nI pt.length + 1), ?_, ⟨?_, ?_, ?_⟩, ?_, ?_⟩
  · unfold gX11_part
    simp only [wr_eq]
    rw [h1, ix_nI (by omega) (by omega), wt_u_ne (by omega), h1, ix_nI (by omega) (by omega), wt_u_ne (by omega), wt_u_ne (by omega), h1, ix_nI (by omega) (by omega), wt_u_ne (by omega), wt_u_ne (by omega), wt_u_ne (by omega), h1]
  · rw [wt_u_self, List.length_append, nI_1]
    rfl
  · rw [List.length_append]; show pt.length + 1 ≤ 256; omega
  · intro k q hk
    by_cases e : k < pt.length
    · rw [List.getElem?_append_left e] at hk
      obtain ⟨a1, a2, a3⟩ := h3 k q hk
      refine ⟨?_, ?_, ?_⟩
      · rw [wt_u_ne (by omega), wt_u_ne (by omega), wt_u_ne (by omega), wt_u_nk (by omega)]; exact a1
      · rw [wt_u_ne (by omega), wt_u_ne (by omega), wt_u_nk (by omega), wt_u_ne (by omega)]; exact a2
      · rw [wt_u_ne (by omega), wt_u_nk (by omega), wt_u_ne (by omega), wt_u_ne (by omega)]; exact a3
    · rw [List.getElem?_append_right (by omega)] at hk
      have hk2 : k = pt.length := by
        have := (List.getElem?_eq_some_iff.mp hk).1
        simp at this
        omega
      subst hk2
      rw [Nat.sub_self] at hk
      cases hk
      refine ⟨?_, ?_, ?_⟩
      · rw [wt_u_ne (by omega), wt_u_ne (by omega), wt_u_ne (by omega), wt_u_self]
      · rw [wt_u_ne (by omega), wt_u_ne (by omega), wt_u_self]
      · rw [wt_u_ne (by omega), wt_u_self]
  · rw [wt_u_ne (by omega), wt_u_ne (by omega), wt_u_ne (by omega), wt_u_ne (by omega)]
  · refine ⟨fun c hc => ?_, ?_, ?_, ?_, ?_⟩
    · rw [wt_u_ne (by omega), wt_u_ne (by omega), wt_u_ne (by omega), wt_u_ne (by omega)]
    · rw [wt_u_ne (by omega), wt_u_ne (by omega), wt_u_ne (by omega), wt_u_ne (by omega)]
    · rw [wt_u_ne (by omega), wt_u_ne (by omega), wt_u_ne (by omega), wt_u_ne (by omega)]
    · rw [wt_u_nk (by omega), wt_u_ne (by omega), wt_u_ne (by omega), wt_u_ne (by omega)]
    · rw [wt_u_nk (by omega), wt_u_ne (by omega), wt_u_ne (by omega), wt_u_ne (by omega)]
theorem PT.nil {s : wt_S} : PT (wt_u s 110 9 0) [] := ⟨wt_u_self, by decide, fun k q h => by simp at h⟩
theorem RS.o {s : wt_S} {V : vV} {k : Nat} {v : Int32} (h : RS s V) (hk : k ≠ 5) : RS (wt_u s 110 k v) V := by
  refine ⟨?_, ?_⟩
  · rw [wt_u_nk (by omega)]; exact h.1
  · rw [wt_u_ne (by omega)]; exact h.2
/-- a store with the reference's row, after other cells of its own have changed -/
theorem RS.of {s s' : wt_S} {V : vV} (h : RS s V) (hf : RF s s') (he : s' 111 = s 111) : RS s' V := ⟨hf.2.2.2.2.trans h.1, by rw [he]; exact h.2⟩
theorem vmv_1 {V : vV} {t g words : Nat} : (vmv V t g words).1 = mj_upd (mj_upd (mj_upd V.1 (3982 + t) (if V.2.2.1 t = 0 then V.1 (3982 + t) else nI (g + (V.2.2.2 t (V.2.2.1 t - 1)).2.2.1))) (4017 + t) (mj_upd V.1 (3982 + t) (if V.2.2.1 t = 0 then V.1 (3982 + t) else nI (g + (V.2.2.2 t (V.2.2.1 t - 1)).2.2.1)) (4017 + t) + mj_upd V.1 (3982 + t) (if V.2.2.1 t = 0 then V.1 (3982 + t) else nI (g + (V.2.2.2 t (V.2.2.1 t - 1)).2.2.1)) (3961 + t))) 2059 (mj_upd (mj_upd V.1 (3982 + t) (if V.2.2.1 t = 0 then V.1 (3982 + t) else nI (g + (V.2.2.2 t (V.2.2.1 t - 1)).2.2.1))) (4017 + t) (mj_upd V.1 (3982 + t) (if V.2.2.1 t = 0 then V.1 (3982 + t) else nI (g + (V.2.2.2 t (V.2.2.1 t - 1)).2.2.1)) (4017 + t) + mj_upd V.1 (3982 + t) (if V.2.2.1 t = 0 then V.1 (3982 + t) else nI (g + (V.2.2.2 t (V.2.2.1 t - 1)).2.2.1)) (3961 + t)) 2059 + mj_upd V.1 (3982 + t) (if V.2.2.1 t = 0 then V.1 (3982 + t) else nI (g + (V.2.2.2 t (V.2.2.1 t - 1)).2.2.1)) (3961 + t)) := rfl
theorem vmv_2 {V : vV} {t g words : Nat} : (vmv V t g words).2 = (vins (g, words, t, 0) (V.2.1.filter (fun q => !vkey t 0 q)), V.2.2) := rfl
theorem vmv_w {V : vV} {t g words : Nat} : vpe V.1 (vmv V t g words).1 := by
  intro i hi
  rw [vmv_1, mj_upd_ne (by omega), mj_upd_ne (by omega), mj_upd_ne (by omega)]
/-- pieces behind a move -/
theorem vmv_at {V : vV} {t g words : Nat} {lim : Nat} (hj : VJ lim V) : vat (vmv V t g words).2.1 t 0 = g ∧ vln (vmv V t g words).2.1 t 0 = words ∧ ∀ t' n, ¬ (t' = t ∧ n = 0) → vat (vmv V t g words).2.1 t' n = vat V.2.1 t' n ∧ vln (vmv V t g words).2.1 t' n = vln V.2.1 t' n := by
  rw [vmv_2]
  have e : (vins (g, words, t, 0) (V.2.1.filter (fun q => !vkey t 0 q))).find? (vkey t 0) = some (g, words, t, 0) := vfind_ins_eq (by simp [vkey]) (fun p hp => by simpa using (List.mem_filter.mp hp).2)
  refine ⟨?_, ?_, fun t' n hn => ?_⟩
  · unfold vat; show (match (vins (g, words, t, 0) (V.2.1.filter (fun q => !vkey t 0 q))).find? (vkey t 0) with | some q => q.1 | none => 0) = g; rw [e]
  · unfold vln; show (match (vins (g, words, t, 0) (V.2.1.filter (fun q => !vkey t 0 q))).find? (vkey t 0) with | some q => q.2.1 | none => 0) = words; rw [e]
  · refine vat_eq ((vfind_ins_ne (by simp [vkey]; omega)).trans (vfind_filter (fun q hq hk => ?_)))
    have : q.2.2.1 = t' ∧ q.2.2.2 = n := by simpa [vkey] using hk
    simp [vkey]
    omega
theorem vo_mv {V : vV} {t g words : Nat} {lim : Nat} (hj : VJ lim V) (ht : t < 6) (hw : 1 ≤ words) (hg : g + words ≤ lim ∧ ∀ q ∈ V.2.1, g + words ≤ q.1 ∨ q.1 + q.2.1 ≤ g) : vo lim (vmv V t g words).2.1 ∧ (vmv V t g words).2.1.Pairwise (fun p q => ¬ (p.2.2.1 = q.2.2.1 ∧ p.2.2.2 = q.2.2.2)) := by
  rw [vmv_2]
  constructor
  · exact vo_ins (vo_sub hj.2.1 List.filter_sublist) ⟨hw, hg.1, ht, by show 0 < 4294967296; omega⟩ (fun p hp => hg.2 p (List.mem_filter.mp hp).1)
  · refine vkeys_pw (fun p q h e => h ⟨e.1.symm, e.2.symm⟩) (hj.2.2.1.sublist List.filter_sublist) (fun p hp e => ?_)
    have h1 := (List.mem_filter.mp hp).2
    have e : t = p.2.2.1 ∧ 0 = p.2.2.2 := e
    simp [vkey] at h1
    omega
theorem q_moves {s : wt_S} {V : vV} {t words : Nat} (h : RS s V) (hj : VJ 2048 V) (hc : Ico V t 1) (ht : t < 6) (hw : 1 ≤ words ∧ words < 1000000) (hu : vus V.1 (V.2.2.2 t) (V.2.2.1 t) ≤ words) :
    (vgap 2048 0 V.2.1 words = none → gX11_moves s (nI t) (nI words) = some (0, s)) ∧ ∀ g, vgap 2048 0 V.2.1 words = some g → ∃ s', gX11_moves s (nI t) (nI words) = some (1, s') ∧ RS s' (vmv V t g words) ∧ RF s s' := by
  have hn := hc.n hj (by omega)
  have hgf := q_gapFor (words := words) h.2.2.1 hj.2.1 hw.2
  constructor
  · intro e
    unfold gX11_moves
    rw [hgf, e, cl_some]
    show (if (-1 : Int32) ≠ -1 then _ else _) = _
    rw [if_neg (by simp)]
  intro g e
  have hg := vgap0 hj.2.1 e
  obtain ⟨x, q, x1, x2, x3, x4, x5, x6, x7, x8⟩ := vfi_some (hc.2.2.2.1.1 0 (by omega))
  have hl := h.2.2.1.2.1
  have hq := hj.2.1.2 q x4
  obtain ⟨r1, r2, r3, r4⟩ := h.2.2.1.2.2 x q x2
  have hpo := q_pieceOf (t := t) (number := 0) h.2.2.1 hj.2.1 ht (by omega)
  rw [x1] at hpo
  -- the part
  have e5 : (wt_u s 110 9 0) 111 = s 111 := wt_u_ne (by omega)
  obtain ⟨s8, p1, p2, p3, p4⟩ := q_part (a := q.1) (b := q.2.1) (c := g) (PT.nil (s := s)) (by simp)
  have p3 : s8 111 = s 111 := p3.trans e5
  have hu2 := hn.2
  generalize hU : vus V.1 (V.2.2.2 t) (V.2.2.1 t) = u at hu hu2
  have hus : V.1 (3961 + t) = nI u := by rw [hc.2.2.2.2.2.1, hU]
  have hPT : PT (wt_u s8 116 0 (nI u)) [(q.1, u, g)] := by
    refine ⟨by rw [wt_u_ne (by omega)]; exact p2.1, by simp, fun k p hk => ?_⟩
    have hk0 : k = 0 := by have := (List.getElem?_eq_some_iff.mp hk).1; simp at this; omega
    subst hk0
    cases hk
    have := p2.2.2 0 (q.1, q.2.1, g) rfl
    rw [wt_u_ne (by omega), wt_u_self, wt_u_ne (by omega)]
    exact ⟨this.1, rfl, this.2.2⟩
  have hlen : u ≤ q.2.1 := by
    by_cases c : V.2.2.1 t = 0
    · rw [← hU, c, vus]; omega
    · obtain ⟨gg, -⟩ := hc.2.2.2.2.2.2.1 (by omega)
      have h1 := gg.one (V.2.2.1 t - 1) (by omega)
      have h2 := (gg.1 (V.2.2.1 t - 1) (by omega))
      obtain ⟨h3, h4⟩ := h2
      rw [h1, show (V.2.2.2 t (V.2.2.1 t - 1)).2.1 = 0 by omega, x8] at h4
      have : vus V.1 (V.2.2.2 t) (V.2.2.1 t) = vus V.1 (V.2.2.2 t) (V.2.2.1 t - 1) + vwd V.1 (V.2.2.2 t (V.2.2.1 t - 1)).1 := by
        have : V.2.2.1 t = (V.2.2.1 t - 1) + 1 := by omega
        rw [this, vus, Nat.add_sub_cancel]
      omega
  have hgq := hg.2 q x4
  obtain ⟨w1, c1, c2, c3⟩ := q_carries hPT ⟨fun p hp => by
    rw [List.mem_singleton.mp hp]
    exact ⟨by show q.1 + u ≤ 2048; omega, by show g + u ≤ 2048; omega, Or.inr (by show q.1 + u ≤ g ∨ g + u ≤ q.1; omega)⟩, List.pairwise_singleton _ _⟩
  have ew : (wt_u s8 116 0 (nI u)) 111 = s 111 := by rw [wt_u_ne (by omega)]; exact p3
  rw [ew] at c2 c3
  have c2 : ∀ j, j < u → w1 (g + j) = s 111 (q.1 + j) := c2 _ (List.mem_singleton.mpr rfl)
  have c3 : ∀ x, (x < g ∨ g + u ≤ x) → w1 x = s 111 x := fun x hx => c3 x (fun p hp => by rw [List.mem_singleton.mp hp]; exact hx)
  -- the turning
  have hturn : ∃ w2, gX11_turns (wt_uf (wt_u s8 116 0 (nI u)) 111 w1) (nI t) = some ((), wt_uf (wt_u s8 116 0 (nI u)) 111 w2) ∧ (∀ x, 2048 ≤ x → x ≠ 3982 + t → w2 x = s 111 x) ∧ w2 (3982 + t) = (if V.2.2.1 t = 0 then V.1 (3982 + t) else nI (g + (V.2.2.2 t (V.2.2.1 t - 1)).2.2.1)) ∧ (∀ x, x < 2048 → (x < g ∨ g + u ≤ x) → w2 x = s 111 x) ∧ vMQ w2 V.1 (V.2.2.1 t) (V.2.2.2 t) (fun i => g + (V.2.2.2 t i).2.2.1) (fun i => g + (V.2.2.2 t i).2.2.1) := by
    have hGO0 : ∀ w' p, p < 100000 → gX11_goalOf (wt_uf (wt_uf (wt_u s8 116 0 (nI u)) 111 w1) 111 w') (nI p) = some (nI (vgo [(q.1, u, g)] p), wt_uf (wt_uf (wt_u s8 116 0 (nI u)) 111 w1) 111 w') := fun w' p hp => q_goalOf hPT.uf.uf (fun z hz => by rw [List.mem_singleton.mp hz]; exact ⟨by show q.1 < 100000; omega, by show u < 100000; omega, by show g < 100000; omega⟩) hp
    by_cases c : V.2.2.1 t = 0
    · have hat := (hc.2.2.2.2.2.2.2 c).2
      have hu0 : u = 0 := by rw [← hU, c, vus]
      refine ⟨w1, ?_, fun x hx _ => c3 x (by omega), ?_, fun x hx hx2 => c3 x hx2, fun i hi => absurd hi (by omega)⟩
      · have g0 := hGO0 w1 0 (by omega)
        rw [uf_uf] at g0
        have hv : vgo [(q.1, u, g)] 0 = 0 := by
          unfold vgo
          rw [List.find?_cons_of_neg (by simp [vin]; omega)]
          rfl
        rw [hv] at g0
        unfold gX11_turns
        rw [li_add, ix_nI (by omega) (by omega), wt_uf_at, c3 _ (by omega), h.tk (c := 3982) (by omega) ht, hat, show (0 : Int32) = nI 0 from rfl, g0, cl_some, ix_nI (by omega) (by omega), wr_eq, u_uf, wt_uf_at, uf_uf, ix_nI (by omega) (by omega), li_add, ix_nI (by omega) (by omega), wt_uf_at, mj_upd_self, mj_upd_ne (by omega), c3 _ (by omega), h.tk (c := 3975) (by omega) ht, show wt_N = 2099999999 + 1 from rfl, gX11_turns_49, li_add, ix_nI (by omega) (by omega), wt_uf_at, mj_upd_ne (by omega), c3 _ (by omega), h.tk (c := 3954) (by omega) ht, hc.1, c, if_pos (Int.le_refl _)]
        have : mj_upd w1 (3982 + t) (nI 0) = w1 := by
          funext y
          by_cases ey : y = 3982 + t
          · subst ey
            rw [mj_upd_self, c3 _ (by omega), h.tk (c := 3982) (by omega) ht, hat]
            rfl
          · rw [mj_upd_ne ey]
        rw [this]
      · rw [if_pos c, c3 _ (by omega), h.tk (c := 3982) (by omega) ht]
    · obtain ⟨gg, gp, ff, ga, gb⟩ := hc.2.2.2.2.2.2.1 (by omega)
      have hpn : ∀ i, i < V.2.2.1 t → (V.2.2.2 t i).2.1 = 0 := fun i hi => by have := (gg.1 i hi).1; omega
      have hof : ∀ i, i < V.2.2.1 t → (V.2.2.2 t i).2.2.1 + vwd V.1 (V.2.2.2 t i).1 ≤ u := fun i hi => by
        rw [gg.one i hi, ← hU]
        have := vus_mono (w := V.1) (fr := V.2.2.2 t) (show i + 1 ≤ V.2.2.1 t by omega)
        rw [vus] at this
        exact this
      have hpl : ∀ i, i < V.2.2.1 t → vpl V t i = q.1 + (V.2.2.2 t i).2.2.1 := fun i hi => by unfold vpl; rw [hpn i hi, x7]
      have hTH : TH V.1 (V.2.2.1 t) (V.2.2.2 t) (fun i => g + (V.2.2.2 t i).2.2.1) (vpl V t) (fun i => g + (V.2.2.2 t i).2.2.1) 2048 := by
        refine ⟨hj.1, fun i hi => ⟨(ff.1 i hi).1, ?_⟩, fun i j hi hj2 hne => ?_, fun i hi k hk hb q hq => ?_, fun i hi => ?_, fun i hi => (hj.fit ht hi).2.2⟩
        · have := hof i hi
          show g + (V.2.2.2 t i).2.2.1 + _ ≤ 2048
          omega
        · show g + (V.2.2.2 t i).2.2.1 + _ ≤ g + (V.2.2.2 t j).2.2.1 ∨ g + (V.2.2.2 t j).2.2.1 + _ ≤ g + (V.2.2.2 t i).2.2.1
          have := hj.dj ht ht hi hj2 (fun e => hne e.2)
          rw [hpl i hi, hpl j hj2] at this
          omega
        · obtain ⟨a1, a2, -⟩ := ff.2.2.2.2.2 i hi k hk hb q hq
          exact ⟨a1, a2⟩
        · obtain ⟨b1, b2, -⟩ := ff.2.2.1 i hi
          exact ⟨b1, b2⟩
      have hGO : GO (wt_uf (wt_u s8 116 0 (nI u)) 111 w1) V.1 (V.2.2.1 t) (V.2.2.2 t) (vpl V t) (fun i => g + (V.2.2.2 t i).2.2.1) := by
        intro w' i hi j hj2
        have := hof i hi
        rw [hpl i hi, hGO0 w' _ (by omega)]
        have hv : vgo [(q.1, u, g)] (q.1 + (V.2.2.2 t i).2.2.1 + j) = g + (V.2.2.2 t i).2.2.1 + j := by
          unfold vgo
          rw [List.find?_cons_of_pos (by simp [vin]; omega)]
          show g + (q.1 + (V.2.2.2 t i).2.2.1 + j - q.1) = _
          omega
        rw [hv]
      have hMQ : vMQ w1 V.1 (V.2.2.1 t) (V.2.2.2 t) (fun i => g + (V.2.2.2 t i).2.2.1) (vpl V t) := by
        intro i hi
        obtain ⟨a1, a2, a3⟩ := h.wd hj rfl ht hi
        rw [hpl i hi] at a1 a2 a3
        have ho := hof i hi
        unfold vwd at ho
        refine ⟨?_, ?_, fun k hk => ?_⟩
        · show w1 (g + (V.2.2.2 t i).2.2.1) = _
          rw [c2 _ (by omega)]; exact a1
        · show w1 (g + (V.2.2.2 t i).2.2.1 + 1) = _
          rw [Nat.add_assoc, c2 _ (by omega), ← Nat.add_assoc]; exact a2
        · show w1 (g + (V.2.2.2 t i).2.2.1 + 2 + k) = _
          rw [Nat.add_assoc, Nat.add_assoc, c2 _ (by omega), ← Nat.add_assoc, ← Nat.add_assoc]; exact a3 k hk
      obtain ⟨w2, d1, d2, d3, d4, d5⟩ := q_turns (s := wt_uf (wt_u s8 116 0 (nI u)) 111 w1) hTH hGO ht ⟨by omega, by omega⟩ (by rw [wt_uf_at, c3 _ (by omega), h.tk (c := 3954) (by omega) ht]; exact hc.1) (by rw [wt_uf_at, c3 _ (by omega), h.tk (c := 3982) (by omega) ht]; exact ga) (by rw [wt_uf_at, c3 _ (by omega), h.tk (c := 3975) (by omega) ht]; exact gb)
        (fun f hf => by rw [wt_uf_at, c3 _ (by omega), c3 _ (by omega), h.pr (by omega), h.pr (by omega)]; exact ⟨rfl, rfl⟩) (by rw [wt_uf_at]; exact hMQ)
      rw [wt_uf_at] at d4 d5
      refine ⟨w2, by rw [d1, uf_uf], fun x hx hx2 => by rw [d4 x hx hx2, c3 x (by omega)], by rw [if_neg c]; exact d3, fun x hx hx2 => ?_, d2⟩
      rw [d5 x hx (fun j hj2 => by have := hof j hj2; show x < g + (V.2.2.2 t j).2.2.1 ∨ g + (V.2.2.2 t j).2.2.1 + _ ≤ x; omega), c3 x hx2]
  obtain ⟨w2, d1, d2, d3, d4, d5⟩ := hturn
  -- pieces
  have hP2 : vr_P w2 V.2.1 := vr_P_eq (fun i h1 h2 => d2 i (by omega) (by omega)) h.2.2.1
  obtain ⟨w3, f1, f2, f3⟩ := q_gives (s := wt_uf (wt_u s8 116 0 (nI u)) 111 w2) (ps := V.2.1) (k0 := x) (by rw [wt_uf_at]; exact hP2) x3
  have hfe := vfi_erase hj.2.2.1 x1
  rw [Nat.sub_zero] at hfe
  rw [hfe] at f2
  have hlf : (V.2.1.filter (fun q => !vkey t 0 q)).length < 256 := by
    rw [← hfe, List.length_eraseIdx_of_lt x3]; omega
  obtain ⟨w4, g1, g2, g3⟩ := q_takes (s := wt_uf (wt_u s8 116 0 (nI u)) 111 w3) (ps := V.2.1.filter (fun q => !vkey t 0 q)) (t := t) (a := g) (words := words) (number := 0) (by rw [wt_uf_at]; exact f2) (vo_sub hj.2.1 List.filter_sublist) hlf (by omega)
  rw [wt_uf_at] at f3 g3
  have h4 : ∀ i, vout i → w4 i = w2 i := fun i hi => by rw [g3 i hi, f3 i hi]
  have hF : RF s (wt_u s8 116 0 (nI u)) := by
    refine RF.trans (RF.trans (RF.uo (by omega) (by omega)) p4) ⟨fun c hc => wt_u_ne (by omega), wt_u_ne (by omega), wt_u_ne (by omega), by rw [wt_u_ne (by omega)], by rw [wt_u_ne (by omega)]⟩
  have hfin : RR (mj_upd (mj_upd w4 (4017 + t) (w4 (4017 + t) + w4 (3961 + t))) 2059 (mj_upd w4 (4017 + t) (w4 (4017 + t) + w4 (3961 + t)) 2059 + mj_upd w4 (4017 + t) (w4 (4017 + t) + w4 (3961 + t)) (3961 + t))) (vmv V t g words) := by
    have hsc : ∀ i, vtr i → w4 i = mj_upd V.1 (3982 + t) (if V.2.2.1 t = 0 then V.1 (3982 + t) else nI (g + (V.2.2.2 t (V.2.2.1 t - 1)).2.2.1)) i := fun i hi => by
      have ho := vtr_out hi
      rw [h4 i ho.1]
      by_cases ei : i = 3982 + t
      · subst ei; rw [mj_upd_self]; exact d3
      · rw [mj_upd_ne ei, d2 i ho.2 ei, h.2.at hi]
    have t1 := hsc (4017 + t) (vtt (by omega) ht)
    have t2 := hsc (3961 + t) (vtt (by omega) ht)
    refine ⟨fun i hi => ?_, vr_P_upd (Or.inl (by omega)) (vr_P_upd (Or.inr (by omega)) g2), w4, fun p hp => by rw [mj_upd_ne (by omega), mj_upd_ne (by omega)], ?_⟩
    · rw [vmv_1, t1, t2]
      rw [show mj_upd w4 (4017 + t) _ 2059 = mj_upd (mj_upd V.1 (3982 + t) (if V.2.2.1 t = 0 then V.1 (3982 + t) else nI (g + (V.2.2.2 t (V.2.2.1 t - 1)).2.2.1))) (4017 + t) _ 2059 from mj_upd_eq2 (Or.inr (hsc 2059 (Or.inl (by omega)))), show mj_upd w4 (4017 + t) _ (3961 + t) = mj_upd V.1 (3982 + t) (if V.2.2.1 t = 0 then V.1 (3982 + t) else nI (g + (V.2.2.2 t (V.2.2.1 t - 1)).2.2.1)) (3961 + t) by rw [mj_upd_ne (by omega), t2]]
      exact mj_upd_eq2 (Or.inr (mj_upd_eq2 (Or.inr (hsc i hi))))
    · intro t' ht'
      refine MR_w (w := V.1) (fun i h1 h2 => vmv_w i (Or.inl (by omega))) ?_
      obtain ⟨v1, -, v3⟩ := vmv_at (t := t) (g := g) (words := words) hj
      by_cases et : t' = t
      · subst et
        intro i hi
        have hi : i < V.2.2.1 t' := hi
        obtain ⟨gg, gp, ff, ga, gb⟩ := hc.2.2.2.2.2.2.1 (by omega)
        have hpl2 : ∀ i, i < V.2.2.1 t' → vpl (vmv V t' g words) t' i = g + (V.2.2.2 t' i).2.2.1 := fun i hi => by
          have := (gg.1 i hi).1
          unfold vpl
          show vat (vmv V t' g words).2.1 t' (V.2.2.2 t' i).2.1 + (V.2.2.2 t' i).2.2.1 = _
          rw [show (V.2.2.2 t' i).2.1 = 0 by omega, v1]
        obtain ⟨m1, m2, m3⟩ := d5 i hi
        have hfit := hg.1
        have hof : (V.2.2.2 t' i).2.2.1 + vwd V.1 (V.2.2.2 t' i).1 ≤ u := by
          rw [gg.one i hi, ← hU]
          have := vus_mono (w := V.1) (fr := V.2.2.2 t') (show i + 1 ≤ V.2.2.1 t' by omega)
          rw [vus] at this
          exact this
        unfold vwd at hof
        rw [hpl2 i hi]
        refine ⟨(ff.1 i hi).1, ?_, ?_, fun k hk => ?_⟩
        · rw [h4 _ (Or.inl (by omega)), m1]
          by_cases e0 : i = 0
          · rw [if_pos e0, if_pos e0]
          · rw [if_neg e0, if_neg e0, hpl2 (i - 1) (by omega)]
        · rw [h4 _ (Or.inl (by omega))]; exact m2
        · have hk : k < vsz V.1 (V.2.2.2 t' i).1 := hk
          rw [h4 _ (Or.inl (by omega)), m3 k hk]
          show vsw V.1 (fun i => g + (V.2.2.2 t' i).2.2.1) (V.2.2.2 t' i) k = vsw V.1 (vpl (vmv V t' g words) t') (V.2.2.2 t' i) k
          unfold vsw
          by_cases cb : bt (V.1 (2238 + (V.2.2.2 t' i).1)) k
          · rw [if_pos cb, if_pos cb]
            cases eq : (V.2.2.2 t' i).2.2.2.2.2 k with
            | none => rfl
            | some z =>
              have := (ff.2.2.2.2.2 i hi k hk cb z eq).1
              show nI (g + (V.2.2.2 t' z.1).2.2.1 + 2 + z.2) = nI (vpl (vmv V t' g words) t' z.1 + 2 + z.2)
              rw [hpl2 z.1 (by omega)]
          · rw [if_neg cb, if_neg cb]
      · have hM : MR (s 111) V.1 (V.2.2.1 t') (V.2.2.2 t') (vpl V t') := fun i hi => ⟨(hj.fit ht' hi).1, h.wd hj rfl ht' hi⟩
        have hM2 : MR w4 V.1 (V.2.2.1 t') (V.2.2.2 t') (vpl V t') := fun i hi => by
          obtain ⟨m0, m1, m2, m3⟩ := hM i hi
          obtain ⟨np, a1, a2, -⟩ := hj.geo ht' (by omega)
          obtain ⟨p, b1, b2, b3, b4, b5⟩ := a2.pc a1 hi
          have hgp := hg.2 p b1
          have hpp := hj.2.1.2 p b1
          have hvp : vpl V t' i = p.1 + (V.2.2.2 t' i).2.2.1 := by unfold vpl; rw [b4]
          unfold vwd at b5
          refine ⟨m0, ?_, ?_, fun k hk => ?_⟩
          · rw [h4 _ (Or.inl (by omega)), d4 _ (by omega) (by omega)]; exact m1
          · rw [h4 _ (Or.inl (by omega)), d4 _ (by omega) (by omega)]; exact m2
          · rw [h4 _ (Or.inl (by omega)), d4 _ (by omega) (by omega)]; exact m3 k hk
        refine hM2.pl (fun i hi => ?_) (fun i hi k hk hb z hz => ?_)
        · unfold vpl
          show vat (vmv V t g words).2.1 t' (V.2.2.2 t' i).2.1 + _ = _
          rw [(v3 t' (V.2.2.2 t' i).2.1 (fun e => et e.1)).1]
          rfl
        · obtain ⟨np, -, -, a3⟩ := hj.geo ht' (by have : i < V.2.2.1 t' := hi; omega)
          exact (a3.2.2.2.2.2 i hi k hk hb z hz).1
  refine ⟨_, ?_, h.of (s' := wt_u s8 116 0 (nI u)) hF ew |>.uf hfin, RF.trans hF (RF.uf (Or.inl rfl))⟩
  unfold gX11_moves
  rw [hgf, e, cl_some, oI_some, if_pos (nI_m1 (by omega)), show gX11_pieceOf s (nI t) 0 = some (oI (some x), s) from hpo, cl_some, oI_some, wr_eq, li_add, ix_nI (by omega) (by omega), li_add, ix_nI (by omega) (by omega)]
  rw [show (wt_u s 110 9 0) 111 = s 111 from wt_u_ne (by omega), r1, r2, p1, cl_some, li_add, ix_nI (by omega) (by omega), wr_eq, p3, h.tk (c := 3961) (by omega) ht, hus, c1, cl_some, d1, cl_some, f1, cl_some, uf_uf, show gX11_takes (wt_uf (wt_u s8 116 0 (nI u)) 111 w3) (nI t) (nI g) (nI words) 0 = _ from g1, cl_some, uf_uf, li_add, ix_nI (by omega) (by omega), ix_nI (by omega) (by omega), ix_nI (by omega) (by omega), wr_eq, u_uf, wt_uf_at, uf_uf, ix_nI (by omega) (by omega), wt_uf_at, show (5 : Int32) = nI 5 from rfl, q_counts0 (by rw [wt_uf_ne (by omega)]; exact (h.of hF ew).1) (by omega), cl_some, u_uf, wt_uf_at, uf_uf]
end
section
/-! ===== how deep a function is: the reference ===== -/
theorem nI_or (a b : Nat) : nI a ||| nI b = nI (a ||| b) := by
  apply Int32.toBitVec_inj.mp
  show BitVec.ofNat 32 a ||| BitVec.ofNat 32 b = BitVec.ofNat 32 (a ||| b)
  rw [BitVec.ofNat_or]
theorem bt_all : ∀ a b : Fin 32, ∀ k : Fin 10, bt (nI (32 * a.val + b.val)) k.val ↔ (32 * a.val + b.val).testBit k.val = true := by decide +kernel
theorem bt_nI {S k : Nat} (h : S < 1024) (hk : k < 10) : bt (nI S) k ↔ S.testBit k = true := by
  have := bt_all ⟨S / 32, by omega⟩ ⟨S % 32, by omega⟩ ⟨k, hk⟩
  rw [show 32 * (S / 32) + S % 32 = S by omega] at this
  exact this
theorem sh_all : ∀ g : Fin 10, (1 : Int32) <<< (nI g.val &&& 31) = nI (2 ^ g.val) := by decide +kernel
/-- a function calls another one -/
def vE (w : Nat → Int32) (f g : Nat) : Prop := ∃ k, k < vli w f ∧ tld w (vcal w f k) ∧ (vcal w f k).toInt.toNat = g
def vPn (w : Nat → Int32) : Nat → Nat → Nat → Prop
  | 0, f, g => vE w f g
  | n + 1, f, g => ∃ h, vE w f h ∧ vPn w n h g
def vR (w : Nat → Int32) (f g : Nat) : Prop := ∃ n, vPn w n f g
def vcb (w : Nat → Int32) (f : Nat) : Nat → Nat
  | 0 => 0
  | k + 1 => if tld w (vcal w f k) then vcb w f k ||| 2 ^ (vcal w f k).toInt.toNat else vcb w f k
theorem vE_lt {w : Nat → Int32} {f g : Nat} (h : vE w f g) : g < 10 := by
  obtain ⟨k, -, h1, h2⟩ := h
  have := h1.1
  omega
theorem vcb_bit {w : Nat → Int32} {f g : Nat} : ∀ {n : Nat}, (vcb w f n).testBit g = true ↔ ∃ k, k < n ∧ tld w (vcal w f k) ∧ (vcal w f k).toInt.toNat = g := by
  intro n
  induction n with
  | zero => unfold vcb; simp
  | succ n ih =>
    unfold vcb
    by_cases c : tld w (vcal w f n)
    · rw [if_pos c, Nat.testBit_or, Bool.or_eq_true, ih, Nat.testBit_two_pow]
      constructor
      · rintro (⟨k, h1, h2, h3⟩ | h)
        · exact ⟨k, by omega, h2, h3⟩
        · exact ⟨n, by omega, c, by simpa using h⟩
      · rintro ⟨k, h1, h2, h3⟩
        by_cases e : k = n
        · subst e; exact Or.inr (by simpa using h3)
        · exact Or.inl ⟨k, by omega, h2, h3⟩
    · rw [if_neg c, ih]
      constructor
      · rintro ⟨k, h1, h2, h3⟩; exact ⟨k, by omega, h2, h3⟩
      · rintro ⟨k, h1, h2, h3⟩
        by_cases e : k = n
        · subst e; exact absurd h2 c
        · exact ⟨k, by omega, h2, h3⟩
theorem vcb_lt {w : Nat → Int32} {f : Nat} : ∀ {n : Nat}, vcb w f n < 1024 := by
  intro n
  induction n with
  | zero => unfold vcb; omega
  | succ n ih =>
    unfold vcb
    split
    · rename_i c
      have h2 : 2 ^ (vcal w f n).toInt.toNat < 2 ^ 10 := Nat.pow_lt_pow_right (by omega) (by have := c.1; omega)
      exact Nat.or_lt_two_pow (n := 10) ih h2
    · exact ih
section
variable {s : wt_S} {w : Nat → Int32}
theorem q_calledBy_loop {f : Nat} (hp : Ipr (s 111)) (hf : f < 10) : ∀ (m k fu : Nat), k + m = vli (s 111) f → m < fu → gX11_calledBy_4 fu s (nI f) (nI (vcb (s 111) f k)) (nI k) = some (nI (vcb (s 111) f (vli (s 111) f)), s) := by
  have hli := hp.li hf
  intro m
  induction m with
  | zero =>
    intro k fu hk hfu
    obtain ⟨fu, rfl⟩ : ∃ m, fu = m + 1 := ⟨fu - 1, by omega⟩
    obtain rfl : k = vli (s 111) f := by omega
    rw [gX11_calledBy_4, li_add, ix_nI (by omega) (by omega), hli.1, if_pos (Int.le_refl _)]
  | succ m ih =>
    intro k fu hk hfu
    obtain ⟨fu, rfl⟩ : ∃ m, fu = m + 1 := ⟨fu - 1, by omega⟩
    have next := ih (k + 1) fu (by omega) (by omega)
    have hst : ∀ z, z = vcal (s 111) f k → gX11_calledBy_75 (gX11_calledBy_4 fu) s (nI f) (nI (vcb (s 111) f k)) (nI k) z = some (nI (vcb (s 111) f (vli (s 111) f)), s) := by
      intro z hz
      unfold gX11_calledBy_75
      rw [q_isTold, cl_some, if_rb, nI_1]
      rw [vcb] at next
      by_cases c : tld (s 111) z
      · rw [if_pos c]
        rw [if_pos (hz ▸ c), ← hz] at next
        obtain ⟨g, hg, rfl⟩ := nI_ex c.1.1
        have hg10 := c.1.2
        rw [nI_int hg] at hg10 next
        rw [sh_all ⟨g, by omega⟩, nI_or]
        exact next
      · rw [if_neg c]
        rw [if_neg (hz ▸ c)] at next
        exact next
    rw [gX11_calledBy_4, li_add, ix_nI (by omega) (by omega), hli.1, nI_int (by omega), nI_int (by omega), if_neg (by omega), q_codeAt, cl_some, ix_nI (by omega) (by omega)]
    have hv : vcal (s 111) f k = if s 111 (2258 + 4 * (16 * f + k)) = 6 then s 111 (2258 + 4 * (16 * f + k) + 1) else if s 111 (2258 + 4 * (16 * f + k)) = 9 then s 111 (2258 + 4 * (16 * f + k) + 2) else -1 := rfl
    by_cases c6 : s 111 (2258 + 4 * (16 * f + k)) = 6
    · rw [if_pos c6] at hv
      rw [if_neg (by simp [c6]), li_add2, ix_nI (by omega) (by omega)]
      exact hst _ hv.symm
    · rw [if_neg c6] at hv
      rw [if_pos c6, ix_nI (by omega) (by omega)]
      by_cases c9 : s 111 (2258 + 4 * (16 * f + k)) = 9
      · rw [if_pos c9] at hv
        rw [if_neg (by simp [c9]), li_add2, ix_nI (by omega) (by omega)]
        exact hst _ hv.symm
      · rw [if_neg c9] at hv
        rw [if_pos c9]
        exact hst _ hv.symm
theorem q_calledBy {f : Nat} (hp : Ipr (s 111)) (hf : f < 10) : gX11_calledBy s (nI f) = some (nI (vcb (s 111) f (vli (s 111) f)), s) :=
  q_calledBy_loop hp hf (vli (s 111) f) 0 wt_N (by omega) (by have := (hp.li hf).2; unfold wt_N; omega)
def vC (w : Nat → Int32) (f : Nat) : Nat := vcb w f (vli w f)
theorem vC_bit {f g : Nat} : (vC w f).testBit g = true ↔ vE w f g := vcb_bit
/-- a set and all that its functions call -/
def vun (w : Nat → Int32) (S T : Nat) : Nat → Nat
  | 0 => T
  | g + 1 => if S.testBit g then vun w S T g ||| vC w g else vun w S T g
theorem vun_bit {S T h : Nat} : ∀ {n : Nat}, (vun w S T n).testBit h = true ↔ T.testBit h = true ∨ ∃ g, g < n ∧ S.testBit g = true ∧ vE w g h := by
  intro n
  induction n with
  | zero => unfold vun; simp
  | succ n ih =>
    unfold vun
    by_cases c : S.testBit n = true
    · rw [if_pos c, Nat.testBit_or, Bool.or_eq_true, ih, vC_bit]
      constructor
      · rintro ((h | ⟨g, h1, h2, h3⟩) | h)
        · exact Or.inl h
        · exact Or.inr ⟨g, by omega, h2, h3⟩
        · exact Or.inr ⟨n, by omega, c, h⟩
      · rintro (h | ⟨g, h1, h2, h3⟩)
        · exact Or.inl (Or.inl h)
        · by_cases e : g = n
          · subst e; exact Or.inr h3
          · exact Or.inl (Or.inr ⟨g, by omega, h2, h3⟩)
    · rw [if_neg c, ih]
      constructor
      · rintro (h | ⟨g, h1, h2, h3⟩)
        · exact Or.inl h
        · exact Or.inr ⟨g, by omega, h2, h3⟩
      · rintro (h | ⟨g, h1, h2, h3⟩)
        · exact Or.inl h
        · by_cases e : g = n
          · subst e; exact absurd h2 c
          · exact Or.inr ⟨g, by omega, h2, h3⟩
theorem vun_lt {S T : Nat} (hT : T < 1024) : ∀ {n : Nat}, vun w S T n < 1024 ∧ T ≤ vun w S T n := by
  intro n
  induction n with
  | zero => unfold vun; omega
  | succ n ih =>
    unfold vun
    split
    · exact ⟨Nat.or_lt_two_pow (n := 10) ih.1 vcb_lt, Nat.le_trans ih.2 Nat.left_le_or⟩
    · exact ih
theorem q_reachedBy_18 {K : wt_S → Int32 → Int32 → Option (Int32 × wt_S)} {S T : Nat} (hp : Ipr (s 111)) (hS : S < 1024) : ∀ (m g fu : Nat), g + m = 10 → m < fu → gX11_reachedBy_18 K fu s (nI (vun (s 111) S T g)) (nI S) (nI g) = K s (nI (vun (s 111) S T 10)) (nI S) := by
  intro m
  induction m with
  | zero =>
    intro g fu hg hfu
    obtain ⟨fu, rfl⟩ : ∃ m, fu = m + 1 := ⟨fu - 1, by omega⟩
    obtain rfl : g = 10 := by omega
    rw [gX11_reachedBy_18, if_pos (by decide)]
  | succ m ih =>
    intro g fu hg hfu
    obtain ⟨fu, rfl⟩ : ∃ m, fu = m + 1 := ⟨fu - 1, by omega⟩
    have next := ih (g + 1) fu (by omega) (by omega)
    rw [vun] at next
    rw [gX11_reachedBy_18, nI_int (by omega), if_neg (by show ¬ (10 : Int) ≤ g; omega), q_has, cl_some, if_rb, nI_1]
    by_cases c : S.testBit g = true
    · rw [if_pos ((bt_nI hS (by omega)).mpr c), q_calledBy hp (by omega), cl_some, nI_or]
      rw [if_pos c] at next
      exact next
    · rw [if_neg (fun q => c ((bt_nI hS (by omega)).mp q))]
      rw [if_neg c] at next
      exact next
theorem vR.step {f g h : Nat} (h1 : vR w f g) (h2 : vE w g h) : vR w f h := by
  obtain ⟨n, hn⟩ := h1
  have : ∀ n f, vPn w n f g → vPn w (n + 1) f h := by
    intro n
    induction n with
    | zero => intro f hf; exact ⟨g, hf, h2⟩
    | succ n ih =>
      intro f hf
      obtain ⟨x, x1, x2⟩ := hf
      exact ⟨x, x1, ih x x2⟩
  exact ⟨n + 1, this n f hn⟩
theorem vR.closed {f : Nat} {S : Nat} (h1 : ∀ g, vE w f g → S.testBit g = true) (h2 : ∀ g, S.testBit g = true → ∀ h, vE w g h → S.testBit h = true) {g : Nat} (h : vR w f g) : S.testBit g = true := by
  obtain ⟨n, hn⟩ := h
  have : ∀ n x, S.testBit x = true → vPn w n x g → S.testBit g = true := by
    intro n
    induction n with
    | zero => intro x hx hg; exact h2 x hx g hg
    | succ n ih =>
      intro x hx hg
      obtain ⟨y, y1, y2⟩ := hg
      exact ih y (h2 x hx y y1) y2
  cases n with
  | zero => exact h1 g hn
  | succ n =>
    obtain ⟨y, y1, y2⟩ := hn
    exact this n y (h1 y y1) y2
theorem vR_lt {f g : Nat} (h : vR w f g) : g < 10 := by
  obtain ⟨n, hn⟩ := h
  have : ∀ n f, vPn w n f g → g < 10 := by
    intro n
    induction n with
    | zero => intro f h; exact vE_lt h
    | succ n ih => intro f ⟨x, _, x2⟩; exact ih x x2
  exact this n f hn
theorem q_reachedBy_8 {f : Nat} (hp : Ipr (s 111)) : ∀ (m U T fu : Nat), 1024 - U ≤ m → m < fu → U < 1024 → T < 1024 → (U = 0 ∨ U ≤ T) → (∀ g, vE (s 111) f g → T.testBit g = true) → (∀ g, T.testBit g = true → vR (s 111) f g) → (∀ g, U.testBit g = true → ∀ h, vE (s 111) g h → T.testBit h = true) → (∀ g, U.testBit g = true → T.testBit g = true) → ∃ R, R < 1024 ∧ gX11_reachedBy_8 fu s (nI T) (nI U) = some (nI R, s) ∧ ∀ g, R.testBit g = true ↔ vR (s 111) f g := by
  intro m
  induction m with
  | zero => intro U T fu hm _ hU; omega
  | succ m ih =>
    intro U T fu hm hfu hU hT hle h1 h2 h3 h4
    obtain ⟨fu, rfl⟩ : ∃ m, fu = m + 1 := ⟨fu - 1, by omega⟩
    by_cases c : U = T
    · subst c
      refine ⟨U, hU, ?_, fun g => ⟨h2 g, fun h => vR.closed h1 h3 h⟩⟩
      rw [gX11_reachedBy_8, if_pos rfl]
    · have hlt := vun_lt (w := s 111) (S := T) (T := T) hT (n := 10)
      obtain ⟨R, r1, r2, r3⟩ := ih T (vun (s 111) T T 10) fu (by omega) (by omega) hT hlt.1 (Or.inr hlt.2) (fun g hg => vun_bit.mpr (Or.inl (h1 g hg))) (fun g hg => by
        rcases vun_bit.mp hg with h | ⟨x, x1, x2, x3⟩
        · exact h2 g h
        · exact (h2 x x2).step x3) (fun g hg x hx => vun_bit.mpr (Or.inr ⟨g, vR_lt (h2 g hg), hg, hx⟩)) (fun g hg => vun_bit.mpr (Or.inl hg))
      refine ⟨R, r1, ?_, r3⟩
      rw [gX11_reachedBy_8, if_neg (fun e => c ((nI_inj (by omega) (by omega)).mp e))]
      exact (q_reachedBy_18 (T := T) hp hT 10 0 wt_N (by omega) (by unfold wt_N; omega)).trans r2
theorem q_reachedBy {f : Nat} (hp : Ipr (s 111)) (hf : f < 10) : ∃ R, R < 1024 ∧ gX11_reachedBy s (nI f) = some (nI R, s) ∧ ∀ g, R.testBit g = true ↔ vR (s 111) f g := by
  obtain ⟨R, r1, r2, r3⟩ := q_reachedBy_8 (f := f) hp 1024 0 (vC (s 111) f) wt_N (by omega) (by unfold wt_N; omega) (by omega) vcb_lt (Or.inl rfl) (fun g hg => vC_bit.mpr hg) (fun g hg => ⟨0, vC_bit.mp hg⟩) (fun g hg => by simp at hg) (fun g hg => by simp at hg)
  refine ⟨R, r1, ?_, r3⟩
  unfold gX11_reachedBy
  rw [q_calledBy hp hf, cl_some]
  exact r2
/-- without an end -/
def vEnd (w : Nat → Int32) (f : Nat) : Prop := vR w f f ∨ ∃ g, vR w f g ∧ vR w g g
theorem q_isEndlessOne {f : Nat} (hp : Ipr (s 111)) (hf : f < 10) : (vEnd (s 111) f → gX11_isEndlessOne s (nI f) = some (1, s)) ∧ (¬ vEnd (s 111) f → gX11_isEndlessOne s (nI f) = some (0, s)) := by
  obtain ⟨R, r1, r2, r3⟩ := q_reachedBy hp hf
  have loop : ∀ (m g fu : Nat), g + m = 10 → m < fu → ((∃ h, g ≤ h ∧ h < 10 ∧ vR (s 111) f h ∧ vR (s 111) h h) → gX11_isEndlessOne_18 fu s (nI R) (nI g) = some (1, s)) ∧ ((¬ ∃ h, g ≤ h ∧ h < 10 ∧ vR (s 111) f h ∧ vR (s 111) h h) → gX11_isEndlessOne_18 fu s (nI R) (nI g) = some (0, s)) := by
    intro m
    induction m with
    | zero =>
      intro g fu hg hfu
      obtain ⟨fu, rfl⟩ : ∃ m, fu = m + 1 := ⟨fu - 1, by omega⟩
      obtain rfl : g = 10 := by omega
      rw [gX11_isEndlessOne_18, if_pos (by decide)]
      exact ⟨fun ⟨h, h1, h2, _⟩ => by omega, fun _ => rfl⟩
    | succ m ih =>
      intro g fu hg hfu
      obtain ⟨fu, rfl⟩ : ∃ m, fu = m + 1 := ⟨fu - 1, by omega⟩
      obtain ⟨i1, i2⟩ := ih (g + 1) fu (by omega) (by omega)
      rw [gX11_isEndlessOne_18, nI_int (by omega), if_neg (by show ¬ (10 : Int) ≤ g; omega), q_has, cl_some, if_rb, nI_1]
      by_cases c : vR (s 111) f g
      · obtain ⟨R2, a1, a2, a3⟩ := q_reachedBy (f := g) hp (by omega)
        rw [if_pos ((bt_nI r1 (by omega)).mpr ((r3 g).mpr c)), a2, cl_some, q_has, cl_some, if_rb]
        by_cases c2 : vR (s 111) g g
        · rw [if_pos ((bt_nI a1 (by omega)).mpr ((a3 g).mpr c2))]
          exact ⟨fun _ => rfl, fun h => absurd ⟨g, Nat.le_refl _, by omega, c, c2⟩ h⟩
        · rw [if_neg (fun q => c2 ((a3 g).mp ((bt_nI a1 (by omega)).mp q)))]
          refine ⟨fun ⟨h, h1, h2, h3, h4⟩ => i1 ⟨h, ?_, h2, h3, h4⟩, fun h => i2 (fun ⟨x, x1, x2⟩ => h ⟨x, by omega, x2⟩)⟩
          by_cases e : h = g
          · subst e; exact absurd h4 c2
          · omega
      · rw [if_neg (fun q => c ((r3 g).mp ((bt_nI r1 (by omega)).mp q)))]
        refine ⟨fun ⟨h, h1, h2, h3, h4⟩ => i1 ⟨h, ?_, h2, h3, h4⟩, fun h => i2 (fun ⟨x, x1, x2⟩ => h ⟨x, by omega, x2⟩)⟩
        by_cases e : h = g
        · subst e; exact absurd h3 c
        · omega
  obtain ⟨l1, l2⟩ := loop 10 0 wt_N (by omega) (by unfold wt_N; omega)
  have e0 : gX11_isEndlessOne s (nI f) = if bt (nI R) f then some (1, s) else gX11_isEndlessOne_18 wt_N s (nI R) (nI 0) := by
    unfold gX11_isEndlessOne
    rw [r2, cl_some, q_has, cl_some, if_rb]
    rfl
  have hb := bt_nI r1 hf
  rw [e0]
  by_cases c : vR (s 111) f f
  · rw [if_pos (hb.mpr ((r3 f).mpr c))]
    exact ⟨fun _ => rfl, fun h => absurd (Or.inl c) h⟩
  · rw [if_neg (fun q => c ((r3 f).mp (hb.mp q)))]
    refine ⟨fun h => l1 ?_, fun h => l2 (fun ⟨g, _, _, g1, g2⟩ => h (Or.inr ⟨g, g1, g2⟩))⟩
    rcases h with h | ⟨g, g1, g2⟩
    · exact absurd h c
    · exact ⟨g, Nat.zero_le _, vR_lt g1, g1, g2⟩
end
/-! ### depth -/
theorem vdl_spec {w : Nat → Int32} {D : Nat → Option Nat} {f : Nat} : ∀ {n : Nat}, (vdl w D f n = none ↔ ∃ k, k < n ∧ tld w (vcal w f k) ∧ D (vcal w f k).toInt.toNat = none) ∧ ∀ m, vdl w D f n = some m → (∀ k, k < n → tld w (vcal w f k) → ∃ d, D (vcal w f k).toInt.toNat = some d ∧ d ≤ m) ∧ (m = 0 ∨ ∃ k, k < n ∧ tld w (vcal w f k) ∧ D (vcal w f k).toInt.toNat = some m) := by
  intro n
  induction n with
  | zero =>
    rw [vdl]
    refine ⟨by simp, fun m hm => ?_⟩
    cases hm
    exact ⟨fun k hk => absurd hk (by omega), Or.inl rfl⟩
  | succ n ih =>
    rw [vdl_succ]
    cases e : vdl w D f n with
    | none =>
      obtain ⟨k, k1, k2, k3⟩ := ih.1.mp e
      refine ⟨⟨fun _ => ⟨k, by omega, k2, k3⟩, fun _ => rfl⟩, fun m hm => (by cases hm)⟩
    | some m0 =>
      obtain ⟨h1, h2⟩ := ih.2 m0 e
      rw [Option.bind_some]
      have h0 : ¬ ∃ k, k < n ∧ tld w (vcal w f k) ∧ D (vcal w f k).toInt.toNat = none := fun q => by rw [ih.1.mpr q] at e; cases e
      by_cases c : tld w (vcal w f n)
      · rw [if_pos c]
        cases e2 : D (vcal w f n).toInt.toNat with
        | none =>
          refine ⟨⟨fun _ => ⟨n, by omega, c, e2⟩, fun _ => rfl⟩, fun m hm => (by cases hm)⟩
        | some d =>
          refine ⟨⟨fun q => (by cases q), fun ⟨k, k1, k2, k3⟩ => ?_⟩, fun m hm => ?_⟩
          · by_cases ek : k = n
            · subst ek; rw [e2] at k3; cases k3
            · exact absurd ⟨k, by omega, k2, k3⟩ h0
          · have hm : max m0 d = m := Option.some.inj hm
            refine ⟨fun k hk ht => ?_, ?_⟩
            · by_cases ek : k = n
              · subst ek; exact ⟨d, e2, hm ▸ Nat.le_max_right m0 d⟩
              · obtain ⟨d', d1, d2⟩ := h1 k (by omega) ht
                exact ⟨d', d1, Nat.le_trans d2 (hm ▸ Nat.le_max_left m0 d)⟩
            · by_cases em : m0 ≤ d
              · exact Or.inr ⟨n, by omega, c, by rw [e2, ← hm, Nat.max_eq_right em]⟩
              · rw [Nat.max_eq_left (by omega)] at hm
                rcases h2 with h2 | ⟨k, k1, k2, k3⟩
                · exact Or.inl (hm ▸ h2)
                · exact Or.inr ⟨k, by omega, k2, by rw [k3, hm]⟩
      · rw [if_neg c]
        refine ⟨⟨fun q => (by cases q), fun ⟨k, k1, k2, k3⟩ => ?_⟩, fun m hm => ?_⟩
        · by_cases ek : k = n
          · subst ek; exact absurd k2 c
          · exact absurd ⟨k, by omega, k2, k3⟩ h0
        · have hm : m0 = m := Option.some.inj hm
          subst hm
          refine ⟨fun k hk ht => ?_, ?_⟩
          · by_cases ek : k = n
            · subst ek; exact absurd ht c
            · exact h1 k (by omega) ht
          · rcases h2 with h2 | ⟨k, k1, k2, k3⟩
            · exact Or.inl h2
            · exact Or.inr ⟨k, by omega, k2, k3⟩
section
variable {w : Nat → Int32}
theorem vdp_spec {m f : Nat} : (vdp w (m + 1) f = none ↔ ∃ g, vE w f g ∧ vdp w m g = none) ∧ ∀ d, vdp w (m + 1) f = some d → ∃ M, d = vwd w f + M ∧ (∀ g, vE w f g → ∃ d', vdp w m g = some d' ∧ d' ≤ M) ∧ (M = 0 ∨ ∃ g, vE w f g ∧ vdp w m g = some M) := by
  rw [vdp_succ]
  obtain ⟨h1, h2⟩ := vdl_spec (w := w) (D := vdp w m) (f := f) (n := vli w f)
  constructor
  · rw [Option.map_eq_none_iff, h1]
    constructor
    · rintro ⟨k, k1, k2, k3⟩; exact ⟨_, ⟨k, k1, k2, rfl⟩, k3⟩
    · rintro ⟨g, ⟨k, k1, k2, rfl⟩, k3⟩; exact ⟨k, k1, k2, k3⟩
  · intro d hd
    obtain ⟨M, m1, m2⟩ := Option.map_eq_some_iff.mp hd
    obtain ⟨a1, a2⟩ := h2 M m1
    refine ⟨M, m2.symm, ?_, ?_⟩
    · rintro g ⟨k, k1, k2, rfl⟩; exact a1 k k1 k2
    · rcases a2 with a2 | ⟨k, k1, k2, k3⟩
      · exact Or.inl a2
      · exact Or.inr ⟨_, ⟨k, k1, k2, rfl⟩, k3⟩
theorem vdp_mono : ∀ {m f d : Nat}, vdp w m f = some d → vdp w (m + 1) f = some d := by
  intro m
  induction m with
  | zero => intro f d h; rw [vdp] at h; cases h
  | succ m ih =>
    intro f d h
    obtain ⟨M, e, h1, h2⟩ := vdp_spec.2 d h
    cases hv : vdp w (m + 1 + 1) f with
    | none =>
      obtain ⟨g, g1, g2⟩ := vdp_spec.1.mp hv
      obtain ⟨d', d1, -⟩ := h1 g g1
      rw [ih d1] at g2
      cases g2
    | some d2 =>
      obtain ⟨M2, e2, h3, h4⟩ := vdp_spec.2 d2 hv
      have hM : M = M2 := by
        apply Nat.le_antisymm
        · rcases h2 with h2 | ⟨g, g1, g2⟩
          · omega
          · obtain ⟨d', d1, d3⟩ := h3 g g1
            rw [ih g2] at d1
            cases d1
            exact d3
        · rcases h4 with h4 | ⟨g, g1, g2⟩
          · omega
          · obtain ⟨d', d1, d3⟩ := h1 g g1
            rw [ih d1] at g2
            cases g2
            exact d3
      rw [e, e2, hM]
theorem vdp_path : ∀ {n m f g : Nat}, vPn w n f g → m ≤ n + 1 → vdp w m f = none := by
  intro n
  induction n with
  | zero =>
    intro m f g h hm
    cases m with
    | zero => rw [vdp]
    | succ m =>
      obtain rfl : m = 0 := by omega
      exact vdp_spec.1.mpr ⟨g, h, by rw [vdp]⟩
  | succ n ih =>
    intro m f g h hm
    obtain ⟨x, x1, x2⟩ := h
    cases m with
    | zero => rw [vdp]
    | succ m => exact vdp_spec.1.mpr ⟨x, x1, ih x2 (by omega)⟩
theorem vPn_app : ∀ {n m f g h : Nat}, vPn w n f g → vPn w m g h → vPn w (n + m + 1) f h := by
  intro n
  induction n with
  | zero => intro m f g h h1 h2; rw [Nat.zero_add]; exact ⟨g, h1, h2⟩
  | succ n ih =>
    intro m f g h h1 h2
    obtain ⟨x, x1, x2⟩ := h1
    rw [show n + 1 + m + 1 = (n + m + 1) + 1 by omega]
    exact ⟨x, x1, ih x2 h2⟩
theorem vEnd_none {f : Nat} (h : vEnd w f) (m : Nat) : vdp w m f = none := by
  have cyc : ∀ g, vR w g g → ∀ k, ∃ n, k ≤ n ∧ vPn w n g g := by
    intro g hg k
    induction k with
    | zero => obtain ⟨n, hn⟩ := hg; exact ⟨n, Nat.zero_le _, hn⟩
    | succ k ih =>
      obtain ⟨n, n1, n2⟩ := ih
      obtain ⟨n0, hn0⟩ := hg
      exact ⟨n + n0 + 1, by omega, vPn_app n2 hn0⟩
  rcases h with h | ⟨g, ⟨n0, g1⟩, g2⟩
  · obtain ⟨n, n1, n2⟩ := cyc f h m
    exact vdp_path n2 (by omega)
  · obtain ⟨n, n1, n2⟩ := cyc g g2 m
    exact vdp_path (vPn_app g1 n2) (by omega)
theorem nodup_lt : ∀ {n : Nat} {l : List Nat}, l.Nodup → (∀ x ∈ l, x < n) → l.length ≤ n := by
  intro n
  induction n with
  | zero =>
    intro l _ h
    cases l with
    | nil => simp
    | cons a l => exact absurd (h a (List.mem_cons_self ..)) (by omega)
  | succ n ih =>
    intro l hd h
    have h1 := ih (l := l.erase n) (hd.erase n) (fun x hx => by
      have := h x (List.mem_of_mem_erase hx)
      have hne : x ≠ n := fun e => by subst e; exact absurd hx (by rw [hd.mem_erase_iff]; simp)
      omega)
    by_cases c : n ∈ l
    · rw [List.length_erase_of_mem c] at h1
      omega
    · rw [List.erase_of_not_mem c] at h1
      omega
/-- a way of so many calls, as a list -/
theorem vdp_way : ∀ {m f : Nat}, vdp w m f = none → ∃ l : List Nat, l.length = m ∧ (∀ x ∈ l, x < 10 ∧ vR w f x) ∧ (l.Pairwise (fun x y => vR w x y)) := by
  intro m
  induction m with
  | zero => intro f _; exact ⟨[], rfl, fun x hx => (by cases hx), List.Pairwise.nil⟩
  | succ m ih =>
    intro f h
    obtain ⟨g, g1, g2⟩ := vdp_spec.1.mp h
    obtain ⟨l, l1, l2, l3⟩ := ih g2
    refine ⟨g :: l, by rw [List.length_cons, l1], fun x hx => ?_, List.pairwise_cons.mpr ⟨fun x hx => (l2 x hx).2, l3⟩⟩
    rcases List.mem_cons.mp hx with e | hx
    · subst e; exact ⟨vE_lt g1, 0, g1⟩
    · obtain ⟨n, hn⟩ := (l2 x hx).2
      exact ⟨(l2 x hx).1, n + 1, g, g1, hn⟩
theorem pw_dup {R : Nat → Nat → Prop} : ∀ {l : List Nat}, l.Pairwise R → ¬ l.Nodup → ∃ x ∈ l, R x x := by
  intro l
  induction l with
  | nil => intro _ h; exact absurd List.nodup_nil h
  | cons a l ih =>
    intro hp hd
    obtain ⟨h1, h2⟩ := List.pairwise_cons.mp hp
    by_cases c : a ∈ l
    · exact ⟨a, List.mem_cons_self .., h1 a c⟩
    · obtain ⟨x, x1, x2⟩ := ih h2 (fun q => hd (List.nodup_cons.mpr ⟨c, q⟩))
      exact ⟨x, List.mem_cons_of_mem _ x1, x2⟩
theorem vdp_end {f : Nat} (hf : f < 10) : vdp w 10 f = none ↔ vEnd w f := by
  constructor
  · intro h
    obtain ⟨l, l1, l2, l3⟩ := vdp_way h
    have hd : ¬ (f :: l).Nodup := fun q => by
      have := nodup_lt (n := 10) q (fun x hx => by
        rcases List.mem_cons.mp hx with e | hx
        · omega
        · exact (l2 x hx).1)
      rw [List.length_cons, l1] at this
      omega
    obtain ⟨x, x1, x2⟩ := pw_dup (List.pairwise_cons.mpr ⟨fun x hx => (l2 x hx).2, l3⟩) hd
    rcases List.mem_cons.mp x1 with e | hx
    · subst e; exact Or.inl x2
    · exact Or.inr ⟨x, (l2 x hx).2, x2⟩
  · intro h; exact vEnd_none h 10
end
end
section
/-! ===== depth, need, out, spare: the reference ===== -/
theorem vs_ne {V : vV} {i j : Nat} {v : Int32} (h : j ≠ i) : (vs V i v).1 j = V.1 j := mj_upd_ne h
theorem vs_at {V : vV} {i : Nat} {v : Int32} : (vs V i v).1 i = v := mj_upd_self
theorem vcn_ne {V : vV} {k j : Nat} {v : Int32} (h : j ≠ 2054 + k) : (vcn V k v).1 j = V.1 j := mj_upd_ne h
theorem vlg1_ne {V : vV} {j : Nat} (h : j ≠ 2067) : (vlg1 V).1 j = V.1 j := mj_upd_ne h
theorem vlg1_at {V : vV} : (vlg1 V).1 2067 = V.1 2067 + 1 := vs_at
theorem vinc_ne {V : vV} {i j : Nat} (h : j ≠ i) : (vinc V i).1 j = V.1 j := mj_upd_ne h
theorem vinc_at {V : vV} {i : Nat} : (vinc V i).1 i = V.1 i + 1 := vs_at
theorem vdp_le {w : Nat → Int32} (hp : Ipr w) : ∀ {m f d : Nat}, f < 10 → vdp w m f = some d → vwd w f ≤ d ∧ d ≤ 10 * m := by
  intro m
  induction m with
  | zero => intro f d hf h; rw [vdp] at h; cases h
  | succ m ih =>
    intro f d hf h
    obtain ⟨M, e, h1, h2⟩ := vdp_spec.2 d h
    have hw := (hp.wd hf).2
    rcases h2 with h2 | ⟨g, g1, g2⟩
    · omega
    · have := (ih (vE_lt g1) g2).2
      omega
/-- the greatest of those that are called -/
def vmx (w : Nat → Int32) (m S : Nat) : Nat → Nat
  | 0 => 0
  | g + 1 => if S.testBit g then max (vmx w m S g) ((vdp w m g).getD 0) else vmx w m S g
theorem vmx_spec {w : Nat → Int32} {m S : Nat} : ∀ {n : Nat}, (∀ g, g < n → S.testBit g = true → (vdp w m g).getD 0 ≤ vmx w m S n) ∧ (vmx w m S n = 0 ∨ ∃ g, g < n ∧ S.testBit g = true ∧ vmx w m S n = (vdp w m g).getD 0) := by
  intro n
  induction n with
  | zero => exact ⟨fun g hg => absurd hg (by omega), Or.inl rfl⟩
  | succ n ih =>
    obtain ⟨h1, h2⟩ := ih
    unfold vmx
    by_cases c : S.testBit n = true
    · rw [if_pos c]
      refine ⟨fun g hg hs => ?_, ?_⟩
      · by_cases e : g = n
        · subst e; exact Nat.le_max_right _ _
        · exact Nat.le_trans (h1 g (by omega) hs) (Nat.le_max_left _ _)
      · by_cases em : vmx w m S n ≤ (vdp w m n).getD 0
        · exact Or.inr ⟨n, by omega, c, Nat.max_eq_right em⟩
        · rw [Nat.max_eq_left (by omega)]
          rcases h2 with h2 | ⟨g, g1, g2, g3⟩
          · exact Or.inl h2
          · exact Or.inr ⟨g, by omega, g2, g3⟩
    · rw [if_neg c]
      refine ⟨fun g hg hs => ?_, ?_⟩
      · by_cases e : g = n
        · subst e; exact absurd hs c
        · exact h1 g (by omega) hs
      · rcases h2 with h2 | ⟨g, g1, g2, g3⟩
        · exact Or.inl h2
        · exact Or.inr ⟨g, by omega, g2, g3⟩
section
variable {s : wt_S}
theorem q_depth (hp : Ipr (s 111)) : ∀ {m f d fu : Nat}, f < 10 → vdp (s 111) m f = some d → m ≤ fu → m ≤ 100 → gX11_depth fu s (nI f) = some (nI d, s) := by
  intro m
  induction m with
  | zero => intro f d fu hf h; rw [vdp] at h; cases h
  | succ m ih =>
    intro f d fu hf h hfu hm
    obtain ⟨fu, rfl⟩ : ∃ k, fu = k + 1 := ⟨fu - 1, by omega⟩
    obtain ⟨M, e, h1, h2⟩ := vdp_spec.2 d h
    have hS : vC (s 111) f < 1024 := vcb_lt
    have hM : vmx (s 111) m (vC (s 111) f) 10 = M := by
      obtain ⟨a1, a2⟩ := vmx_spec (w := s 111) (m := m) (S := vC (s 111) f) (n := 10)
      apply Nat.le_antisymm
      · rcases a2 with a2 | ⟨g, g1, g2, g3⟩
        · omega
        · obtain ⟨d', d1, d2⟩ := h1 g (vC_bit.mp g2)
          rw [g3, d1]
          exact d2
      · rcases h2 with h2 | ⟨g, g1, g2⟩
        · omega
        · have := a1 g (vE_lt g1) (vC_bit.mpr g1)
          rw [g2] at this
          exact this
    have bnd : ∀ n, n ≤ 10 → vmx (s 111) m (vC (s 111) f) n ≤ 10 * m := by
      intro n hn
      rcases (vmx_spec (w := s 111) (m := m) (S := vC (s 111) f) (n := n)).2 with a | ⟨g, g1, g2, g3⟩
      · omega
      · obtain ⟨d', d1, d2⟩ := h1 g (vC_bit.mp g2)
        have := (vdp_le hp (by omega) d1).2
        rw [g3, d1]
        exact this
    have loop : ∀ (k g fu2 : Nat), g + k = 10 → k < fu2 → gX11_depth1_11 (gX11_depth fu) fu2 s (nI f) (nI (vmx (s 111) m (vC (s 111) f) g)) (nI (vC (s 111) f)) (nI g) = some (nI d, s) := by
      intro k
      induction k with
      | zero =>
        intro g fu2 hg hk
        obtain ⟨fu2, rfl⟩ : ∃ k, fu2 = k + 1 := ⟨fu2 - 1, by omega⟩
        obtain rfl : g = 10 := by omega
        rw [gX11_depth1_11, if_pos (by decide), q_frameOf hf, cl_some, (hp.wd hf).1, nI_add, hM, e]
      | succ k ihk =>
        intro g fu2 hg hk
        obtain ⟨fu2, rfl⟩ : ∃ k, fu2 = k + 1 := ⟨fu2 - 1, by omega⟩
        have next := ihk (g + 1) fu2 (by omega) (by omega)
        rw [vmx] at next
        rw [gX11_depth1_11, nI_int (by omega), if_neg (by show ¬ (10 : Int) ≤ g; omega), q_has, cl_some, if_rbn]
        by_cases c : (vC (s 111) f).testBit g = true
        · obtain ⟨d', d1, d2⟩ := h1 g (vC_bit.mp c)
          have hb := bnd g (by omega)
          have hd := (vdp_le hp (by omega) d1).2
          rw [if_pos ((bt_nI hS (by omega)).mpr c), ih (by omega) d1 (by omega) (by omega), cl_some, nI_int (by omega), nI_int (by omega)]
          rw [if_pos c, d1] at next
          have next : gX11_depth1_11 (gX11_depth fu) fu2 s (nI f) (nI (max (vmx (s 111) m (vC (s 111) f) g) d')) (nI (vC (s 111) f)) (nI (g + 1)) = some (nI d, s) := next
          unfold gX11_depth1_50
          rw [nI_1]
          split
          · rw [Nat.max_eq_left (by omega)] at next
            exact next
          · rw [Nat.max_eq_right (by omega)] at next
            exact next
        · rw [if_neg (fun q => c ((bt_nI hS (by omega)).mp q)), nI_1]
          rw [if_neg c] at next
          exact next
    show gX11_depth1 (gX11_depth fu) s (nI f) = _
    unfold gX11_depth1
    rw [q_calledBy hp hf, cl_some]
    exact loop 10 0 wt_N (by omega) (by unfold wt_N; omega)
/-- DEEP as an answer -/
def vdI (o : Option Nat) : Int32 := match o with
  | some d => nI d
  | none => -2
theorem q_deepOf {f : Nat} (hp : Ipr (s 111)) (hf : f < 10) : gX11_deepOf s (nI f) = some (vdI (vdp (s 111) 10 f), s) := by
  unfold gX11_deepOf
  obtain ⟨h1, h2⟩ := q_isEndlessOne hp hf
  cases e : vdp (s 111) 10 f with
  | none =>
    rw [h1 ((vdp_end hf).mp e), cl_some, if_neg (by decide)]
    rfl
  | some d =>
    rw [h2 (fun q => by rw [(vdp_end hf).mpr q] at e; cases e), cl_some, if_pos rfl, q_depth hp hf e (by omega) (by omega), cl_some]
    rfl
theorem q_isMerged {f z : Nat} (hp : Ipr (s 111)) (hf : f < 10) (hr : s 111 2051 = nI z) (hz : z ≤ 80) : gX11_isMerged s (nI f) = some (rb (vmg (s 111) f = true), s) := by
  unfold gX11_isMerged vmg
  by_cases c : s 111 2050 = 0
  · rw [if_neg (by simp [c]), rb_neg (by simp [c])]
  · rw [if_pos c, q_deepOf hp hf, cl_some]
    cases e : vdp (s 111) 10 f with
    | none =>
      rw [if_pos (show vdI none = -2 from rfl), rb_neg (by simp)]
    | some d =>
      have hd := (vdp_le hp hf e).2
      have hne : ¬ nI d = -2 := fun q => by
        have := congrArg Int32.toInt q
        rw [nI_int (by omega), show (-2 : Int32).toInt = -2 by decide] at this
        omega
      show (if nI d = -2 then _ else if (s 111 2051).toInt < (nI d).toInt then _ else _) = _
      rw [if_neg hne, hr, nI_int (by omega), nI_int (by omega)]
      by_cases c2 : d ≤ z
      · rw [if_neg (by omega), rb_pos]
        simp [c]
        omega
      · rw [if_pos (by omega), rb_neg]
        simp
        omega
theorem q_needOf {f z : Nat} (hp : Ipr (s 111)) (hf : f < 10) (hr : s 111 2051 = nI z) (hz : z ≤ 80) : gX11_needOf s (nI f) = some (nI (vnd (s 111) f), s) ∧ vwd (s 111) f ≤ vnd (s 111) f ∧ vnd (s 111) f ≤ 100 := by
  unfold gX11_needOf vnd
  rw [q_isMerged hp hf hr hz, cl_some, if_rb]
  have hw := (hp.wd hf)
  by_cases c : vmg (s 111) f = true
  · rw [if_pos c, if_pos c, q_deepOf hp hf, cl_some]
    cases e : vdp (s 111) 10 f with
    | none => unfold vmg at c; rw [e] at c; simp at c
    | some d =>
      have := vdp_le hp hf e
      exact ⟨rfl, this.1, by show d ≤ 100; omega⟩
  · rw [if_neg c, if_neg c, q_frameOf hf, cl_some, hw.1]
    exact ⟨rfl, Nat.le_refl _, by omega⟩
end
theorem RS.prog {s : wt_S} {V : vV} (h : RS s V) : vpe V.1 (s 111) := fun i hi => by
  rcases hi with hi | hi | hi
  · exact h.pr hi
  · exact h.se (by omega)
  · exact h.se (by omega)
section
variable {s : wt_S} {V : vV} {t : Nat}
theorem q_merged {f z : Nat} (h : RS s V) (hp : Ipr V.1) (hf : f < 10) (hr : V.1 2051 = nI z) (hz : z ≤ 80) : gX11_isMerged s (nI f) = some (rb (vmg V.1 f = true), s) := by
  rw [← (h.prog.mg hp hf).1]
  exact q_isMerged (hp.ww h.prog) hf (by rw [h.se (by omega)]; exact hr) hz
theorem q_need {f z : Nat} (h : RS s V) (hp : Ipr V.1) (hf : f < 10) (hr : V.1 2051 = nI z) (hz : z ≤ 80) : gX11_needOf s (nI f) = some (nI (vnd V.1 f), s) ∧ vwd V.1 f ≤ vnd V.1 f ∧ vnd V.1 f ≤ 100 := by
  have := q_needOf (hp.ww h.prog) hf (by rw [h.se (by omega)]; exact hr) hz
  rw [(h.prog.mg hp hf).2, (h.prog.sz hf).2.1] at this
  exact this
theorem vga_at {i : Nat} (hi : i < 3923) : (vga V t).1 i = V.1 i ∨ ¬ (V.1 (3989 + t) = -1 ∨ ∃ k, k < 3 ∧ V.1 (3989 + t) = nI k) := by
  by_cases hs : V.1 (3989 + t) = -1 ∨ ∃ k, k < 3 ∧ V.1 (3989 + t) = nI k
  · left
    rw [vga_1, mj_upd_ne (by omega), mj_upd_ne (by omega), mj_upd_ne (by omega), mj_upd_ne (by omega), mj_upd_ne (by omega), mj_upd_ne (by omega)]
    rcases hs with e | ⟨k, hk, e⟩
    · rw [if_pos e]
    · rw [if_neg (by rw [e]; exact nI_m1 (by omega)), mj_upd_ne (by omega)]
  · exact Or.inr hs
theorem q_out {lim k : Nat} (h : RS s V) (hj : VJ lim V) (hl : lim = 2048) (ht : t < 6) (hs : V.1 (3989 + t) = -1 ∨ ∃ k, k < 3 ∧ V.1 (3989 + t) = nI k) (hk : V.1 2067 = nI k) (hk2 : k < 2147483600) : ∃ s', gX11_isOut s (nI t) = some ((), s') ∧ RS s' (vot V t) ∧ RF s s' := by
  obtain ⟨s1, a1, a2, a3⟩ := q_ga hj hl h ht hs
  have b2 := a2.u (i := 3926 + t) (v := 4) (vtt (by omega) ht) (Or.inr (by omega))
  obtain ⟨c1, c2⟩ := q_cnt (c := 1) (v := 1) b2 (by omega)
  have hlog : (vcn (vs (vga V t) (3926 + t) 4) 1 1).1 2067 = nI k := by
    rw [vcn_ne (by omega), vs_ne (by omega), (vga_at (by omega)).resolve_right (fun q => q hs), hk]
  obtain ⟨s2, d1, d2, d3⟩ := q_log (a := 8) (b := nI t) (c := -1) (d := -1) c2 hlog (by omega)
  refine ⟨s2, ?_, d2, RF.trans a3 (RF.trans (RF.uf (Or.inl rfl)) (RF.trans (RF.uf (Or.inl rfl)) d3))⟩
  unfold gX11_isOut
  rw [a1, cl_some, li_add, ix_nI (by omega) (by omega), wr_eq, show gX11_counts (wt_u s1 111 (3926 + t) 4) 1 1 = _ from c1, cl_some, d1, cl_some]
/-- the spare -/
theorem VM.sp {lim : Nat} {mm : Nat → Int32} {P : vP → Bool} (hI : VJ lim V) (h : VM mm V) (hP : ∀ t', t' < 6 → ∀ i, i < V.2.2.1 t' → ∀ q ∈ V.2.1, vkey t' (V.2.2.2 t' i).2.1 q = true → P q = true) : VM mm (vps V (V.2.1.filter P)) :=
  h.ps hI (fun _ _ _ => rfl) (fun t' ht' => ⟨Nat.le_refl _, fun i hi => ⟨rfl, (vat_eq (vfind_filter (hP t' ht' i hi))).1⟩⟩)
/-- no frame lies in a piece of such a number -/
def vnof (V : vV) (t n : Nat) : Prop := ∀ i, i < V.2.2.1 t → (V.2.2.2 t i).2.1 ≠ n
theorem vnof_P {n : Nat} (h : vnof V t n) : ∀ t', t' < 6 → ∀ i, i < V.2.2.1 t' → ∀ q ∈ V.2.1, vkey t' (V.2.2.2 t' i).2.1 q = true → (!vkey t n q) = true := by
  intro t' _ i hi q _ hk
  have hk : q.2.2.1 = t' ∧ q.2.2.2 = (V.2.2.2 t' i).2.1 := by simpa [vkey] using hk
  simp only [vkey, Bool.not_eq_true', decide_eq_false_iff_not]
  rintro ⟨e1, e2⟩
  have : t' = t := hk.1.symm.trans e1
  subst this
  exact h i hi (hk.2.symm.trans e2)
theorem q_spare {lim k : Nat} (h : RS s V) (hj : VJ lim V) (hl : lim = 2048) (ht : t < 6) (hn : vnof V t 1000) (hk : V.1 2067 = nI k) (hk2 : k < 2147483600) : ∃ s', gX11_givesSpare s (nI t) = some (rb ((V.2.1.find? (vkey t 1000)).isSome = true), s') ∧ RS s' (vsp V t) ∧ RF s s' := by
  have hpo := q_pieceOf (t := t) (number := 1000) h.2.2.1 (by rw [← hl]; exact hj.2.1) ht (by omega)
  have hpo : gX11_pieceOf s (nI t) 1000 = _ := hpo
  unfold gX11_givesSpare
  rw [hpo, cl_some]
  cases e : vfi (vkey t 1000) V.2.1 0 with
  | none =>
    have hf := vfi_find.1.mp e
    refine ⟨s, ?_, ?_, RF.refl⟩
    · rw [oI_none, if_neg (by simp), rb_neg (by rw [hf]; simp)]
    · unfold vsp
      rw [if_neg (by rw [hf]; simp)]
      exact h
  | some x =>
    obtain ⟨-, h2, h3⟩ := vfi_find.2 x e
    rw [Nat.sub_zero] at h2 h3
    have hl256 := h.2.2.1.2.1
    have hsome : (V.2.1.find? (vkey t 1000)).isSome = true := by rw [h2, List.getElem?_eq_getElem h3]; rfl
    obtain ⟨q, hq⟩ : ∃ q, V.2.1[x]? = some q := ⟨_, List.getElem?_eq_getElem h3⟩
    obtain ⟨s1, a1, a2, a3⟩ := q_log (a := 5) (b := nI t) (c := s 111 (2899 + x)) (d := s 111 (3155 + x)) h hk (by omega)
    obtain ⟨w2, b1, b2, b3⟩ := q_gives (s := s1) (ps := V.2.1) (k0 := x) a2.2.2.1 h3
    have hfe := vfi_erase hj.2.2.1 e
    rw [Nat.sub_zero] at hfe
    rw [hfe] at b2
    refine ⟨wt_uf s1 111 w2, ?_, ?_, RF.trans a3 (RF.uf (Or.inl rfl))⟩
    · rw [oI_some, if_pos (nI_m1 (by omega)), li_add, ix_nI (by omega) (by omega), li_add, ix_nI (by omega) (by omega), a1, cl_some, b1, cl_some, rb_pos hsome]
    · unfold vsp
      rw [if_pos hsome]
      refine a2.uf (a2.2.ps b3 b2 (fun mm hm => ?_))
      exact VM.sp (V := vlg1 V) (hj.vs (by omega)) hm (vnof_P (V := V) hn)
end
end
section
/-! ===== pieces that no frame lies in come and go ===== -/
theorem Geo.ps {w : Nat → Int32} {ps ps' : List vP} {t np np' n : Nat} {fr : Nat → vF} (h : Geo w ps t np n fr) (hl : ∀ i, i < n → (fr i).2.1 < np' ∧ vln ps' t (fr i).2.1 = vln ps t (fr i).2.1) : Geo w ps' t np' n fr := by
  refine ⟨fun i hi => ⟨(hl i hi).1, ?_⟩, h.2.1, h.2.2⟩
  rw [(hl i hi).2]
  exact (h.1 i hi).2
theorem Ifr.ps {w : Nat → Int32} {ps ps' : List vP} {t n : Nat} {fr : Nat → vF} (h : Ifr w ps t n fr) (hl : ∀ i, i < n → vln ps' t (fr i).2.1 = vln ps t (fr i).2.1) : Ifr w ps' t n fr := by
  refine ⟨h.1, h.2.1, h.2.2.1, h.2.2.2.1, fun i hi hc => ?_, h.2.2.2.2.2⟩
  obtain ⟨d, d1, d2, d3⟩ := h.2.2.2.2.1 i hi hc
  exact ⟨d, d1, d2, by rw [hl i hi]; exact d3⟩
theorem Geo.less {w : Nat → Int32} {ps : List vP} {t np n n' : Nat} {fr : Nat → vF} (h : Geo w ps t np n fr) (hn : n' ≤ n) : Geo w ps t np n' fr := ⟨fun i hi => h.1 i (by omega), h.2.1, fun i hi => h.2.2 i (by omega)⟩
theorem Ifr.less {w : Nat → Int32} {ps : List vP} {t n n' : Nat} {fr : Nat → vF} (h : Ifr w ps t n fr) (hn : n' ≤ n) : Ifr w ps t n' fr := ⟨fun i hi => h.1 i (by omega), h.2.1, fun i hi => h.2.2.1 i (by omega), fun i hi => h.2.2.2.1 i (by omega), fun i hi => h.2.2.2.2.1 i (by omega), fun i hi => h.2.2.2.2.2 i (by omega)⟩
/-- how pieces may change beside the frames of a task -/
def vsame (V : vV) (ps' : List vP) (t np np' : Nat) : Prop := Itp ps' t np' ∧ ∀ i, i < V.2.2.1 t → (V.2.2.2 t i).2.1 < np' ∧ vat ps' t (V.2.2.2 t i).2.1 = vat V.2.1 t (V.2.2.2 t i).2.1 ∧ vln ps' t (V.2.2.2 t i).2.1 = vln V.2.1 t (V.2.2.2 t i).2.1
theorem VJ.ps {lim : Nat} {V : vV} {ps' : List vP} (hj : VJ lim V) (ho : vo lim ps') (hu : ps'.Pairwise (fun p q => ¬ (p.2.2.1 = q.2.2.1 ∧ p.2.2.2 = q.2.2.2))) (hs : ∀ t, t < 6 → 0 < V.2.2.1 t → ∀ np, Itp V.2.1 t np → Geo V.1 V.2.1 t np (V.2.2.1 t) (V.2.2.2 t) → ∃ np', vsame V ps' t np np') : VJ lim (vps V ps') := by
  refine ⟨hj.1, ho, hu, fun t ht hn => ?_⟩
  obtain ⟨np, a1, a2, a3⟩ := hj.geo ht hn
  obtain ⟨np', b1, b2⟩ := hs t ht hn np a1 a2
  exact ⟨np', b1, a2.ps (fun i hi => ⟨(b2 i hi).1, (b2 i hi).2.2⟩), a3.ps (fun i hi => (b2 i hi).2.2)⟩
/-- a piece is given back in which no frame lies, of no number below np -/
theorem vsame_flt {V : vV} {t n t' np : Nat} (h1 : Itp V.2.1 t' np) (h2 : Geo V.1 V.2.1 t' np (V.2.2.1 t') (V.2.2.2 t')) (hn : t' = t → np ≤ n ∨ (np = n + 1 ∧ vnof V t n)) : ∃ np', vsame V (V.2.1.filter (fun q => !vkey t n q)) t' np np' := by
  have key : ∀ k, ¬ (t' = t ∧ k = n) → (V.2.1.filter (fun q => !vkey t n q)).find? (vkey t' k) = V.2.1.find? (vkey t' k) := fun k hk => vfind_filter (fun q _ hq => by
    have hq : q.2.2.1 = t' ∧ q.2.2.2 = k := by simpa [vkey] using hq
    simp only [vkey, Bool.not_eq_true', decide_eq_false_iff_not]
    rintro ⟨e1, e2⟩
    exact hk ⟨hq.1.symm.trans e1, hq.2.symm.trans e2⟩)
  have itp : ∀ np', np' ≤ np → (t' = t → np' ≤ n) → (∀ q ∈ V.2.1, q.2.2.1 = t' → q.2.2.2 < np → t' = t ∧ q.2.2.2 = n ∨ q.2.2.2 < np') → Itp (V.2.1.filter (fun q => !vkey t n q)) t' np' := by
    intro np' hle hlt hex
    refine ⟨fun k hk => ?_, fun q hq e => ?_⟩
    · obtain ⟨q, q1, q2, q3⟩ := h1.1 k (by omega)
      refine ⟨q, List.mem_filter.mpr ⟨q1, ?_⟩, q2, q3⟩
      simp only [vkey, Bool.not_eq_true', decide_eq_false_iff_not]
      rintro ⟨e1, e2⟩
      have := hlt (q2.symm.trans e1)
      omega
    · obtain ⟨q1, q2⟩ := List.mem_filter.mp hq
      rcases h1.2 q q1 e with h | h
      · rcases hex q q1 e h with ⟨e1, e2⟩ | h
        · simp only [vkey, Bool.not_eq_true', decide_eq_false_iff_not] at q2
          exact absurd ⟨e.trans e1, e2⟩ q2
        · exact Or.inl h
      · exact Or.inr h
  by_cases et : t' = t
  · rcases hn et with hn | ⟨hn, hf⟩
    · refine ⟨np, itp np (Nat.le_refl _) (fun _ => hn) (fun q _ _ h => Or.inr h), fun i hi => ?_⟩
      have hp := (h2.1 i hi).1
      have := vat_eq (key (V.2.2.2 t' i).2.1 (by omega))
      exact ⟨hp, this.1, this.2⟩
    · refine ⟨n, itp n (by omega) (fun _ => Nat.le_refl _) (fun q _ _ h => by omega), fun i hi => ?_⟩
      have hp := (h2.1 i hi).1
      have hne : (V.2.2.2 t' i).2.1 ≠ n := by rw [et] at hi ⊢; exact hf i hi
      have := vat_eq (key (V.2.2.2 t' i).2.1 (by omega))
      exact ⟨by omega, this.1, this.2⟩
  · refine ⟨np, itp np (Nat.le_refl _) (fun e => absurd e et) (fun q _ _ h => Or.inr h), fun i hi => ?_⟩
    have := vat_eq (key (V.2.2.2 t' i).2.1 (fun e => et e.1))
    exact ⟨(h2.1 i hi).1, this.1, this.2⟩
theorem VJ.flt {lim : Nat} {V : vV} {t n : Nat} (hj : VJ lim V) (hn : ∀ np, 0 < V.2.2.1 t → Itp V.2.1 t np → Geo V.1 V.2.1 t np (V.2.2.1 t) (V.2.2.2 t) → np ≤ n ∨ (np = n + 1 ∧ vnof V t n)) : VJ lim (vps V (V.2.1.filter (fun q => !vkey t n q))) :=
  hj.ps (vo_sub hj.2.1 List.filter_sublist) (hj.2.2.1.sublist List.filter_sublist) (fun t' ht' h0 np a1 a2 => vsame_flt a1 a2 (fun e => by subst e; exact hn np h0 a1 a2))
/-- a task's scalars and frames, its pieces changed -/
theorem Ico.ps {V V' : vV} {t np np' : Nat} (hc : Ico V t np) (hw : vpe V.1 V'.1) (hp : Ipr V.1) (h2 : V'.2.2 = V.2.2) (hs : vsame V V'.2.1 t np np') (h1 : V'.1 (3954 + t) = V.1 (3954 + t)) (h3 : V'.1 (4066 + t) = nI np') (h4 : 1 ≤ np' ∧ np' ≤ 256) (h5 : (V'.1 (3933 + t) = 0 ∧ np' = 1 ∧ ∀ q ∈ V'.2.1, ¬ (q.2.2.1 = t ∧ q.2.2.2 = 1000)) ∨ V'.1 (3933 + t) = 1) (h6 : V'.1 (3961 + t) = V.1 (3961 + t)) (h7 : V'.1 (3982 + t) = V.1 (3982 + t)) (h8 : V'.1 (3975 + t) = V.1 (3975 + t)) (h9 : V.2.2.1 t = 0 → np' = 1) (h10 : 0 < V.2.2.1 t → (V.2.2.2 t (V.2.2.1 t - 1)).2.1 = np' - 1) : Ico V' t np' := by
  obtain ⟨c1, c2, c3, c4, c5, c6, c7, c8⟩ := hc
  unfold Ico
  have e1 : V'.2.2.1 = V.2.2.1 := by rw [h2]
  have e2 : V'.2.2.2 = V.2.2.2 := by rw [h2]
  rw [e1, e2]
  have hf : ∀ i, i < V.2.2.1 t → (V.2.2.2 t i).1 < 10 := fun i hi => ((c7 (by omega)).2.2.1.1 i hi).1
  refine ⟨h1.trans c1, h3, h4, hs.1, h5, ?_, fun hn => ?_, fun hn => ⟨h9 hn, h7.trans (c8 hn).2⟩⟩
  · rw [h6, c6, (hw.us (k := 0) hf).1]
  · obtain ⟨d1, d2, d3, d4, d5⟩ := c7 hn
    refine ⟨(d1.ps (fun i hi => ⟨(hs.2 i hi).1, (hs.2 i hi).2.2⟩)).ww hw hf, h10 hn, (d3.ps (fun i hi => (hs.2 i hi).2.2)).ww hw hp, ?_, h8.trans d5⟩
    rw [h7, d4]
    unfold vpl
    rw [e2, (hs.2 _ (by omega)).2.1]
theorem vsp_J {lim : Nat} {V : vV} {t np : Nat} (hj : VJ lim V) (hc : Ico V t np) (ht : t < 6) : VJ lim (vsp V t) ∧ Ico (vsp V t) t np := by
  have hnp := hc.2.2.1
  unfold vsp
  split
  · have hj1 : VJ lim (vlg1 V) := hj.vs (by omega)
    have hg : ∀ np', 0 < V.2.2.1 t → Itp V.2.1 t np' → Geo V.1 V.2.1 t np' (V.2.2.1 t) (V.2.2.2 t) → np' ≤ 1000 ∨ np' = 1000 + 1 ∧ vnof V t 1000 := fun np' h0 a1 a2 => by
      left
      apply Classical.byContradiction
      intro hgt
      obtain ⟨q, q1, q2, q3⟩ := a1.1 999 (by omega)
      rcases hc.2.2.2.1.2 q q1 q2 with h | h <;> omega
    have hcase : ∃ np', vsame V (V.2.1.filter (fun q => !vkey t 1000 q)) t np np' ∧ np' = np := by
      by_cases h0 : 0 < V.2.2.1 t
      · obtain ⟨g, -⟩ := hc.2.2.2.2.2.2.1 h0
        have key : ∀ k, k < np → (V.2.1.filter (fun q => !vkey t 1000 q)).find? (vkey t k) = V.2.1.find? (vkey t k) := fun k hk => vfind_filter (fun q _ hq => by
          have hq : q.2.2.1 = t ∧ q.2.2.2 = k := by simpa [vkey] using hq
          simp [vkey]
          omega)
        refine ⟨np, ⟨⟨fun k hk => ?_, fun q hq e => hc.2.2.2.1.2 q (List.mem_filter.mp hq).1 e⟩, fun i hi => ⟨(g.1 i hi).1, vat_eq (key _ (g.1 i hi).1)⟩⟩, rfl⟩
        obtain ⟨q, q1, q2, q3⟩ := hc.2.2.2.1.1 k hk
        exact ⟨q, List.mem_filter.mpr ⟨q1, by simp [vkey]; omega⟩, q2, q3⟩
      · refine ⟨np, ⟨⟨fun k hk => ?_, fun q hq e => hc.2.2.2.1.2 q (List.mem_filter.mp hq).1 e⟩, fun i hi => absurd hi (by omega)⟩, rfl⟩
        obtain ⟨q, q1, q2, q3⟩ := hc.2.2.2.1.1 k hk
        exact ⟨q, List.mem_filter.mpr ⟨q1, by simp [vkey]; omega⟩, q2, q3⟩
    obtain ⟨np', hv, rfl⟩ := hcase
    refine ⟨VJ.flt (V := vlg1 V) hj1 (fun np2 h0 a1 a2 => hg np2 h0 a1 (a2.ww (vpe.symm (vpe.upd (by omega))) (fun i hi => (hj.fit ht hi).1))), ?_⟩
    refine hc.ps (V' := vps (vlg1 V) (V.2.1.filter (fun q => !vkey t 1000 q))) (vpe.upd (by omega)) hj.1 rfl hv (mj_upd_ne (by omega)) ((mj_upd_ne (by omega)).trans hc.2.1) hnp ?_ (mj_upd_ne (by omega)) (mj_upd_ne (by omega)) (mj_upd_ne (by omega)) (fun h0 => (hc.2.2.2.2.2.2.2 h0).1) (fun h0 => (hc.2.2.2.2.2.2.1 h0).2.1)
    rcases hc.2.2.2.2.1 with ⟨m1, m2, m3⟩ | m1
    · exact Or.inl ⟨(mj_upd_ne (by omega)).trans m1, m2, fun q hq => m3 q (List.mem_filter.mp hq).1⟩
    · exact Or.inr ((mj_upd_ne (by omega)).trans m1)
  · exact ⟨hj, hc⟩
end
