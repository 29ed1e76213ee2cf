/-! ===== the reference moves a copied stack ===== -/
theorem oI_some {x : Nat} : oI (some x) = nI x := rfl
theorem oI_none : oI none = -1 := rfl
theorem q_part {s : wt_S} {pt : List vT} {a b c : Nat} (h : PT s pt) (hl : pt.length < 256) : ∃ s', gX11_part s (nI a) (nI b) (nI c) = some ((), s') ∧ PT s' (pt ++ [(a, b, c)]) ∧ s' 111 = s 111 ∧ RF s s' := by
  obtain ⟨h1, h2, h3⟩ := h
  refine ⟨wt_u (wt_u (wt_u (wt_u s 115 pt.length (nI a)) 116 pt.length (nI b)) 117 pt.length (nI c)) 110 9 (nI pt.length + 1), ?_, ⟨?_, ?_, ?_⟩, ?_, ?_⟩
  · unfold gX11_part
    simp only [wr_eq]
    rw [h1, ix_nI (by omega) (by omega), wt_u_ne (by omega), h1, ix_nI (by omega) (by omega), wt_u_ne (by omega), wt_u_ne (by omega), h1, ix_nI (by omega) (by omega), wt_u_ne (by omega), wt_u_ne (by omega), wt_u_ne (by omega), h1]
  · rw [wt_u_self, List.length_append, nI_1]
    rfl
  · rw [List.length_append]; show pt.length + 1 ≤ 256; omega
  · intro k q hk
    by_cases e : k < pt.length
    · rw [List.getElem?_append_left e] at hk
      obtain ⟨a1, a2, a3⟩ := h3 k q hk
      refine ⟨?_, ?_, ?_⟩
      · rw [wt_u_ne (by omega), wt_u_ne (by omega), wt_u_ne (by omega), wt_u_nk (by omega)]; exact a1
      · rw [wt_u_ne (by omega), wt_u_ne (by omega), wt_u_nk (by omega), wt_u_ne (by omega)]; exact a2
      · rw [wt_u_ne (by omega), wt_u_nk (by omega), wt_u_ne (by omega), wt_u_ne (by omega)]; exact a3
    · rw [List.getElem?_append_right (by omega)] at hk
      have hk2 : k = pt.length := by
        have := (List.getElem?_eq_some_iff.mp hk).1
        simp at this
        omega
      subst hk2
      rw [Nat.sub_self] at hk
      cases hk
      refine ⟨?_, ?_, ?_⟩
      · rw [wt_u_ne (by omega), wt_u_ne (by omega), wt_u_ne (by omega), wt_u_self]
      · rw [wt_u_ne (by omega), wt_u_ne (by omega), wt_u_self]
      · rw [wt_u_ne (by omega), wt_u_self]
  · rw [wt_u_ne (by omega), wt_u_ne (by omega), wt_u_ne (by omega), wt_u_ne (by omega)]
  · refine ⟨fun c hc => ?_, ?_, ?_, ?_, ?_⟩
    · rw [wt_u_ne (by omega), wt_u_ne (by omega), wt_u_ne (by omega), wt_u_ne (by omega)]
    · rw [wt_u_ne (by omega), wt_u_ne (by omega), wt_u_ne (by omega), wt_u_ne (by omega)]
    · rw [wt_u_ne (by omega), wt_u_ne (by omega), wt_u_ne (by omega), wt_u_ne (by omega)]
    · rw [wt_u_nk (by omega), wt_u_ne (by omega), wt_u_ne (by omega), wt_u_ne (by omega)]
    · rw [wt_u_nk (by omega), wt_u_ne (by omega), wt_u_ne (by omega), wt_u_ne (by omega)]
theorem PT.nil {s : wt_S} : PT (wt_u s 110 9 0) [] := ⟨wt_u_self, by decide, fun k q h => by simp at h⟩
theorem RS.o {s : wt_S} {V : vV} {k : Nat} {v : Int32} (h : RS s V) (hk : k ≠ 5) : RS (wt_u s 110 k v) V := by
  refine ⟨?_, ?_⟩
  · rw [wt_u_nk (by omega)]; exact h.1
  · rw [wt_u_ne (by omega)]; exact h.2
/-- a store with the reference's row, after other cells of its own have changed -/
theorem RS.of {s s' : wt_S} {V : vV} (h : RS s V) (hf : RF s s') (he : s' 111 = s 111) : RS s' V := ⟨hf.2.2.2.2.trans h.1, by rw [he]; exact h.2⟩
theorem vmv_1 {V : vV} {t g words : Nat} : (vmv V t g words).1 = mj_upd (mj_upd (mj_upd V.1 (3982 + t) (if V.2.2.1 t = 0 then V.1 (3982 + t) else nI (g + (V.2.2.2 t (V.2.2.1 t - 1)).2.2.1))) (4017 + t) (mj_upd V.1 (3982 + t) (if V.2.2.1 t = 0 then V.1 (3982 + t) else nI (g + (V.2.2.2 t (V.2.2.1 t - 1)).2.2.1)) (4017 + t) + mj_upd V.1 (3982 + t) (if V.2.2.1 t = 0 then V.1 (3982 + t) else nI (g + (V.2.2.2 t (V.2.2.1 t - 1)).2.2.1)) (3961 + t))) 2059 (mj_upd (mj_upd V.1 (3982 + t) (if V.2.2.1 t = 0 then V.1 (3982 + t) else nI (g + (V.2.2.2 t (V.2.2.1 t - 1)).2.2.1))) (4017 + t) (mj_upd V.1 (3982 + t) (if V.2.2.1 t = 0 then V.1 (3982 + t) else nI (g + (V.2.2.2 t (V.2.2.1 t - 1)).2.2.1)) (4017 + t) + mj_upd V.1 (3982 + t) (if V.2.2.1 t = 0 then V.1 (3982 + t) else nI (g + (V.2.2.2 t (V.2.2.1 t - 1)).2.2.1)) (3961 + t)) 2059 + mj_upd V.1 (3982 + t) (if V.2.2.1 t = 0 then V.1 (3982 + t) else nI (g + (V.2.2.2 t (V.2.2.1 t - 1)).2.2.1)) (3961 + t)) := rfl
theorem vmv_2 {V : vV} {t g words : Nat} : (vmv V t g words).2 = (vins (g, words, t, 0) (V.2.1.filter (fun q => !vkey t 0 q)), V.2.2) := rfl
theorem vmv_w {V : vV} {t g words : Nat} : vpe V.1 (vmv V t g words).1 := by
  intro i hi
  rw [vmv_1, mj_upd_ne (by omega), mj_upd_ne (by omega), mj_upd_ne (by omega)]
/-- pieces behind a move -/
theorem vmv_at {V : vV} {t g words : Nat} {lim : Nat} (hj : VJ lim V) : vat (vmv V t g words).2.1 t 0 = g ∧ vln (vmv V t g words).2.1 t 0 = words ∧ ∀ t' n, ¬ (t' = t ∧ n = 0) → vat (vmv V t g words).2.1 t' n = vat V.2.1 t' n ∧ vln (vmv V t g words).2.1 t' n = vln V.2.1 t' n := by
  rw [vmv_2]
  have e : (vins (g, words, t, 0) (V.2.1.filter (fun q => !vkey t 0 q))).find? (vkey t 0) = some (g, words, t, 0) := vfind_ins_eq (by simp [vkey]) (fun p hp => by simpa using (List.mem_filter.mp hp).2)
  refine ⟨?_, ?_, fun t' n hn => ?_⟩
  · unfold vat; show (match (vins (g, words, t, 0) (V.2.1.filter (fun q => !vkey t 0 q))).find? (vkey t 0) with | some q => q.1 | none => 0) = g; rw [e]
  · unfold vln; show (match (vins (g, words, t, 0) (V.2.1.filter (fun q => !vkey t 0 q))).find? (vkey t 0) with | some q => q.2.1 | none => 0) = words; rw [e]
  · refine vat_eq ((vfind_ins_ne (by simp [vkey]; omega)).trans (vfind_filter (fun q hq hk => ?_)))
    have : q.2.2.1 = t' ∧ q.2.2.2 = n := by simpa [vkey] using hk
    simp [vkey]
    omega
theorem vo_mv {V : vV} {t g words : Nat} {lim : Nat} (hj : VJ lim V) (ht : t < 6) (hw : 1 ≤ words) (hg : g + words ≤ lim ∧ ∀ q ∈ V.2.1, g + words ≤ q.1 ∨ q.1 + q.2.1 ≤ g) : vo lim (vmv V t g words).2.1 ∧ (vmv V t g words).2.1.Pairwise (fun p q => ¬ (p.2.2.1 = q.2.2.1 ∧ p.2.2.2 = q.2.2.2)) := by
  rw [vmv_2]
  constructor
  · exact vo_ins (vo_sub hj.2.1 List.filter_sublist) ⟨hw, hg.1, ht, by show 0 < 4294967296; omega⟩ (fun p hp => hg.2 p (List.mem_filter.mp hp).1)
  · refine vkeys_pw (fun p q h e => h ⟨e.1.symm, e.2.symm⟩) (hj.2.2.1.sublist List.filter_sublist) (fun p hp e => ?_)
    have h1 := (List.mem_filter.mp hp).2
    have e : t = p.2.2.1 ∧ 0 = p.2.2.2 := e
    simp [vkey] at h1
    omega
theorem q_moves {s : wt_S} {V : vV} {t words : Nat} (h : RS s V) (hj : VJ 2048 V) (hc : Ico V t 1) (ht : t < 6) (hw : 1 ≤ words ∧ words < 1000000) (hu : vus V.1 (V.2.2.2 t) (V.2.2.1 t) ≤ words) :
    (vgap 2048 0 V.2.1 words = none → gX11_moves s (nI t) (nI words) = some (0, s)) ∧ ∀ g, vgap 2048 0 V.2.1 words = some g → ∃ s', gX11_moves s (nI t) (nI words) = some (1, s') ∧ RS s' (vmv V t g words) ∧ RF s s' := by
  have hn := hc.n hj (by omega)
  have hgf := q_gapFor (words := words) h.2.2.1 hj.2.1 hw.2
  constructor
  · intro e
    unfold gX11_moves
    rw [hgf, e, cl_some]
    show (if (-1 : Int32) ≠ -1 then _ else _) = _
    rw [if_neg (by simp)]
  intro g e
  have hg := vgap0 hj.2.1 e
  obtain ⟨x, q, x1, x2, x3, x4, x5, x6, x7, x8⟩ := vfi_some (hc.2.2.2.1.1 0 (by omega))
  have hl := h.2.2.1.2.1
  have hq := hj.2.1.2 q x4
  obtain ⟨r1, r2, r3, r4⟩ := h.2.2.1.2.2 x q x2
  have hpo := q_pieceOf (t := t) (number := 0) h.2.2.1 hj.2.1 ht (by omega)
  rw [x1] at hpo
  -- the part
  have e5 : (wt_u s 110 9 0) 111 = s 111 := wt_u_ne (by omega)
  obtain ⟨s8, p1, p2, p3, p4⟩ := q_part (a := q.1) (b := q.2.1) (c := g) (PT.nil (s := s)) (by simp)
  have p3 : s8 111 = s 111 := p3.trans e5
  have hu2 := hn.2
  generalize hU : vus V.1 (V.2.2.2 t) (V.2.2.1 t) = u at hu hu2
  have hus : V.1 (3961 + t) = nI u := by rw [hc.2.2.2.2.2.1, hU]
  have hPT : PT (wt_u s8 116 0 (nI u)) [(q.1, u, g)] := by
    refine ⟨by rw [wt_u_ne (by omega)]; exact p2.1, by simp, fun k p hk => ?_⟩
    have hk0 : k = 0 := by have := (List.getElem?_eq_some_iff.mp hk).1; simp at this; omega
    subst hk0
    cases hk
    have := p2.2.2 0 (q.1, q.2.1, g) rfl
    rw [wt_u_ne (by omega), wt_u_self, wt_u_ne (by omega)]
    exact ⟨this.1, rfl, this.2.2⟩
  have hlen : u ≤ q.2.1 := by
    by_cases c : V.2.2.1 t = 0
    · rw [← hU, c, vus]; omega
    · obtain ⟨gg, -⟩ := hc.2.2.2.2.2.2.1 (by omega)
      have h1 := gg.one (V.2.2.1 t - 1) (by omega)
      have h2 := (gg.1 (V.2.2.1 t - 1) (by omega))
      obtain ⟨h3, h4⟩ := h2
      rw [h1, show (V.2.2.2 t (V.2.2.1 t - 1)).2.1 = 0 by omega, x8] at h4
      have : vus V.1 (V.2.2.2 t) (V.2.2.1 t) = vus V.1 (V.2.2.2 t) (V.2.2.1 t - 1) + vwd V.1 (V.2.2.2 t (V.2.2.1 t - 1)).1 := by
        have : V.2.2.1 t = (V.2.2.1 t - 1) + 1 := by omega
        rw [this, vus, Nat.add_sub_cancel]
      omega
  have hgq := hg.2 q x4
  obtain ⟨w1, c1, c2, c3⟩ := q_carries hPT ⟨fun p hp => by
    rw [List.mem_singleton.mp hp]
    exact ⟨by show q.1 + u ≤ 2048; omega, by show g + u ≤ 2048; omega, Or.inr (by show q.1 + u ≤ g ∨ g + u ≤ q.1; omega)⟩, List.pairwise_singleton _ _⟩
  have ew : (wt_u s8 116 0 (nI u)) 111 = s 111 := by rw [wt_u_ne (by omega)]; exact p3
  rw [ew] at c2 c3
  have c2 : ∀ j, j < u → w1 (g + j) = s 111 (q.1 + j) := c2 _ (List.mem_singleton.mpr rfl)
  have c3 : ∀ x, (x < g ∨ g + u ≤ x) → w1 x = s 111 x := fun x hx => c3 x (fun p hp => by rw [List.mem_singleton.mp hp]; exact hx)
  -- the turning
  have hturn : ∃ w2, gX11_turns (wt_uf (wt_u s8 116 0 (nI u)) 111 w1) (nI t) = some ((), wt_uf (wt_u s8 116 0 (nI u)) 111 w2) ∧ (∀ x, 2048 ≤ x → x ≠ 3982 + t → w2 x = s 111 x) ∧ w2 (3982 + t) = (if V.2.2.1 t = 0 then V.1 (3982 + t) else nI (g + (V.2.2.2 t (V.2.2.1 t - 1)).2.2.1)) ∧ (∀ x, x < 2048 → (x < g ∨ g + u ≤ x) → w2 x = s 111 x) ∧ vMQ w2 V.1 (V.2.2.1 t) (V.2.2.2 t) (fun i => g + (V.2.2.2 t i).2.2.1) (fun i => g + (V.2.2.2 t i).2.2.1) := by
    have hGO0 : ∀ w' p, p < 100000 → gX11_goalOf (wt_uf (wt_uf (wt_u s8 116 0 (nI u)) 111 w1) 111 w') (nI p) = some (nI (vgo [(q.1, u, g)] p), wt_uf (wt_uf (wt_u s8 116 0 (nI u)) 111 w1) 111 w') := fun w' p hp => q_goalOf hPT.uf.uf (fun z hz => by rw [List.mem_singleton.mp hz]; exact ⟨by show q.1 < 100000; omega, by show u < 100000; omega, by show g < 100000; omega⟩) hp
    by_cases c : V.2.2.1 t = 0
    · have hat := (hc.2.2.2.2.2.2.2 c).2
      have hu0 : u = 0 := by rw [← hU, c, vus]
      refine ⟨w1, ?_, fun x hx _ => c3 x (by omega), ?_, fun x hx hx2 => c3 x hx2, fun i hi => absurd hi (by omega)⟩
      · have g0 := hGO0 w1 0 (by omega)
        rw [uf_uf] at g0
        have hv : vgo [(q.1, u, g)] 0 = 0 := by
          unfold vgo
          rw [List.find?_cons_of_neg (by simp [vin]; omega)]
          rfl
        rw [hv] at g0
        unfold gX11_turns
        rw [li_add, ix_nI (by omega) (by omega), wt_uf_at, c3 _ (by omega), h.tk (c := 3982) (by omega) ht, hat, show (0 : Int32) = nI 0 from rfl, g0, cl_some, ix_nI (by omega) (by omega), wr_eq, u_uf, wt_uf_at, uf_uf, ix_nI (by omega) (by omega), li_add, ix_nI (by omega) (by omega), wt_uf_at, mj_upd_self, mj_upd_ne (by omega), c3 _ (by omega), h.tk (c := 3975) (by omega) ht, show wt_N = 2099999999 + 1 from rfl, gX11_turns_49, li_add, ix_nI (by omega) (by omega), wt_uf_at, mj_upd_ne (by omega), c3 _ (by omega), h.tk (c := 3954) (by omega) ht, hc.1, c, if_pos (Int.le_refl _)]
        have : mj_upd w1 (3982 + t) (nI 0) = w1 := by
          funext y
          by_cases ey : y = 3982 + t
          · subst ey
            rw [mj_upd_self, c3 _ (by omega), h.tk (c := 3982) (by omega) ht, hat]
            rfl
          · rw [mj_upd_ne ey]
        rw [this]
      · rw [if_pos c, c3 _ (by omega), h.tk (c := 3982) (by omega) ht]
    · obtain ⟨gg, gp, ff, ga, gb⟩ := hc.2.2.2.2.2.2.1 (by omega)
      have hpn : ∀ i, i < V.2.2.1 t → (V.2.2.2 t i).2.1 = 0 := fun i hi => by have := (gg.1 i hi).1; omega
      have hof : ∀ i, i < V.2.2.1 t → (V.2.2.2 t i).2.2.1 + vwd V.1 (V.2.2.2 t i).1 ≤ u := fun i hi => by
        rw [gg.one i hi, ← hU]
        have := vus_mono (w := V.1) (fr := V.2.2.2 t) (show i + 1 ≤ V.2.2.1 t by omega)
        rw [vus] at this
        exact this
      have hpl : ∀ i, i < V.2.2.1 t → vpl V t i = q.1 + (V.2.2.2 t i).2.2.1 := fun i hi => by unfold vpl; rw [hpn i hi, x7]
      have hTH : TH V.1 (V.2.2.1 t) (V.2.2.2 t) (fun i => g + (V.2.2.2 t i).2.2.1) (vpl V t) (fun i => g + (V.2.2.2 t i).2.2.1) 2048 := by
        refine ⟨hj.1, fun i hi => ⟨(ff.1 i hi).1, ?_⟩, fun i j hi hj2 hne => ?_, fun i hi k hk hb q hq => ?_, fun i hi => ?_, fun i hi => (hj.fit ht hi).2.2⟩
        · have := hof i hi
          show g + (V.2.2.2 t i).2.2.1 + _ ≤ 2048
          omega
        · show g + (V.2.2.2 t i).2.2.1 + _ ≤ g + (V.2.2.2 t j).2.2.1 ∨ g + (V.2.2.2 t j).2.2.1 + _ ≤ g + (V.2.2.2 t i).2.2.1
          have := hj.dj ht ht hi hj2 (fun e => hne e.2)
          rw [hpl i hi, hpl j hj2] at this
          omega
        · obtain ⟨a1, a2, -⟩ := ff.2.2.2.2.2 i hi k hk hb q hq
          exact ⟨a1, a2⟩
        · obtain ⟨b1, b2, -⟩ := ff.2.2.1 i hi
          exact ⟨b1, b2⟩
      have hGO : GO (wt_uf (wt_u s8 116 0 (nI u)) 111 w1) V.1 (V.2.2.1 t) (V.2.2.2 t) (vpl V t) (fun i => g + (V.2.2.2 t i).2.2.1) := by
        intro w' i hi j hj2
        have := hof i hi
        rw [hpl i hi, hGO0 w' _ (by omega)]
        have hv : vgo [(q.1, u, g)] (q.1 + (V.2.2.2 t i).2.2.1 + j) = g + (V.2.2.2 t i).2.2.1 + j := by
          unfold vgo
          rw [List.find?_cons_of_pos (by simp [vin]; omega)]
          show g + (q.1 + (V.2.2.2 t i).2.2.1 + j - q.1) = _
          omega
        rw [hv]
      have hMQ : vMQ w1 V.1 (V.2.2.1 t) (V.2.2.2 t) (fun i => g + (V.2.2.2 t i).2.2.1) (vpl V t) := by
        intro i hi
        obtain ⟨a1, a2, a3⟩ := h.wd hj rfl ht hi
        rw [hpl i hi] at a1 a2 a3
        have ho := hof i hi
        unfold vwd at ho
        refine ⟨?_, ?_, fun k hk => ?_⟩
        · show w1 (g + (V.2.2.2 t i).2.2.1) = _
          rw [c2 _ (by omega)]; exact a1
        · show w1 (g + (V.2.2.2 t i).2.2.1 + 1) = _
          rw [Nat.add_assoc, c2 _ (by omega), ← Nat.add_assoc]; exact a2
        · show w1 (g + (V.2.2.2 t i).2.2.1 + 2 + k) = _
          rw [Nat.add_assoc, Nat.add_assoc, c2 _ (by omega), ← Nat.add_assoc, ← Nat.add_assoc]; exact a3 k hk
      obtain ⟨w2, d1, d2, d3, d4, d5⟩ := q_turns (s := wt_uf (wt_u s8 116 0 (nI u)) 111 w1) hTH hGO ht ⟨by omega, by omega⟩ (by rw [wt_uf_at, c3 _ (by omega), h.tk (c := 3954) (by omega) ht]; exact hc.1) (by rw [wt_uf_at, c3 _ (by omega), h.tk (c := 3982) (by omega) ht]; exact ga) (by rw [wt_uf_at, c3 _ (by omega), h.tk (c := 3975) (by omega) ht]; exact gb)
        (fun f hf => by rw [wt_uf_at, c3 _ (by omega), c3 _ (by omega), h.pr (by omega), h.pr (by omega)]; exact ⟨rfl, rfl⟩) (by rw [wt_uf_at]; exact hMQ)
      rw [wt_uf_at] at d4 d5
      refine ⟨w2, by rw [d1, uf_uf], fun x hx hx2 => by rw [d4 x hx hx2, c3 x (by omega)], by rw [if_neg c]; exact d3, fun x hx hx2 => ?_, d2⟩
      rw [d5 x hx (fun j hj2 => by have := hof j hj2; show x < g + (V.2.2.2 t j).2.2.1 ∨ g + (V.2.2.2 t j).2.2.1 + _ ≤ x; omega), c3 x hx2]
  obtain ⟨w2, d1, d2, d3, d4, d5⟩ := hturn
  -- pieces
  have hP2 : vr_P w2 V.2.1 := vr_P_eq (fun i h1 h2 => d2 i (by omega) (by omega)) h.2.2.1
  obtain ⟨w3, f1, f2, f3⟩ := q_gives (s := wt_uf (wt_u s8 116 0 (nI u)) 111 w2) (ps := V.2.1) (k0 := x) (by rw [wt_uf_at]; exact hP2) x3
  have hfe := vfi_erase hj.2.2.1 x1
  rw [Nat.sub_zero] at hfe
  rw [hfe] at f2
  have hlf : (V.2.1.filter (fun q => !vkey t 0 q)).length < 256 := by
    rw [← hfe, List.length_eraseIdx_of_lt x3]; omega
  obtain ⟨w4, g1, g2, g3⟩ := q_takes (s := wt_uf (wt_u s8 116 0 (nI u)) 111 w3) (ps := V.2.1.filter (fun q => !vkey t 0 q)) (t := t) (a := g) (words := words) (number := 0) (by rw [wt_uf_at]; exact f2) (vo_sub hj.2.1 List.filter_sublist) hlf (by omega)
  rw [wt_uf_at] at f3 g3
  have h4 : ∀ i, vout i → w4 i = w2 i := fun i hi => by rw [g3 i hi, f3 i hi]
  have hF : RF s (wt_u s8 116 0 (nI u)) := by
    refine RF.trans (RF.trans (RF.uo (by omega) (by omega)) p4) ⟨fun c hc => wt_u_ne (by omega), wt_u_ne (by omega), wt_u_ne (by omega), by rw [wt_u_ne (by omega)], by rw [wt_u_ne (by omega)]⟩
  have hfin : RR (mj_upd (mj_upd w4 (4017 + t) (w4 (4017 + t) + w4 (3961 + t))) 2059 (mj_upd w4 (4017 + t) (w4 (4017 + t) + w4 (3961 + t)) 2059 + mj_upd w4 (4017 + t) (w4 (4017 + t) + w4 (3961 + t)) (3961 + t))) (vmv V t g words) := by
    have hsc : ∀ i, vtr i → w4 i = mj_upd V.1 (3982 + t) (if V.2.2.1 t = 0 then V.1 (3982 + t) else nI (g + (V.2.2.2 t (V.2.2.1 t - 1)).2.2.1)) i := fun i hi => by
      have ho := vtr_out hi
      rw [h4 i ho.1]
      by_cases ei : i = 3982 + t
      · subst ei; rw [mj_upd_self]; exact d3
      · rw [mj_upd_ne ei, d2 i ho.2 ei, h.2.at hi]
    have t1 := hsc (4017 + t) (vtt (by omega) ht)
    have t2 := hsc (3961 + t) (vtt (by omega) ht)
    refine ⟨fun i hi => ?_, vr_P_upd (Or.inl (by omega)) (vr_P_upd (Or.inr (by omega)) g2), w4, fun p hp => by rw [mj_upd_ne (by omega), mj_upd_ne (by omega)], ?_⟩
    · rw [vmv_1, t1, t2]
      rw [show mj_upd w4 (4017 + t) _ 2059 = mj_upd (mj_upd V.1 (3982 + t) (if V.2.2.1 t = 0 then V.1 (3982 + t) else nI (g + (V.2.2.2 t (V.2.2.1 t - 1)).2.2.1))) (4017 + t) _ 2059 from mj_upd_eq2 (Or.inr (hsc 2059 (Or.inl (by omega)))), show mj_upd w4 (4017 + t) _ (3961 + t) = mj_upd V.1 (3982 + t) (if V.2.2.1 t = 0 then V.1 (3982 + t) else nI (g + (V.2.2.2 t (V.2.2.1 t - 1)).2.2.1)) (3961 + t) by rw [mj_upd_ne (by omega), t2]]
      exact mj_upd_eq2 (Or.inr (mj_upd_eq2 (Or.inr (hsc i hi))))
    · intro t' ht'
      refine MR_w (w := V.1) (fun i h1 h2 => vmv_w i (Or.inl (by omega))) ?_
      obtain ⟨v1, -, v3⟩ := vmv_at (t := t) (g := g) (words := words) hj
      by_cases et : t' = t
      · subst et
        intro i hi
        have hi : i < V.2.2.1 t' := hi
        obtain ⟨gg, gp, ff, ga, gb⟩ := hc.2.2.2.2.2.2.1 (by omega)
        have hpl2 : ∀ i, i < V.2.2.1 t' → vpl (vmv V t' g words) t' i = g + (V.2.2.2 t' i).2.2.1 := fun i hi => by
          have := (gg.1 i hi).1
          unfold vpl
          show vat (vmv V t' g words).2.1 t' (V.2.2.2 t' i).2.1 + (V.2.2.2 t' i).2.2.1 = _
          rw [show (V.2.2.2 t' i).2.1 = 0 by omega, v1]
        obtain ⟨m1, m2, m3⟩ := d5 i hi
        have hfit := hg.1
        have hof : (V.2.2.2 t' i).2.2.1 + vwd V.1 (V.2.2.2 t' i).1 ≤ u := by
          rw [gg.one i hi, ← hU]
          have := vus_mono (w := V.1) (fr := V.2.2.2 t') (show i + 1 ≤ V.2.2.1 t' by omega)
          rw [vus] at this
          exact this
        unfold vwd at hof
        rw [hpl2 i hi]
        refine ⟨(ff.1 i hi).1, ?_, ?_, fun k hk => ?_⟩
        · rw [h4 _ (Or.inl (by omega)), m1]
          by_cases e0 : i = 0
          · rw [if_pos e0, if_pos e0]
          · rw [if_neg e0, if_neg e0, hpl2 (i - 1) (by omega)]
        · rw [h4 _ (Or.inl (by omega))]; exact m2
        · have hk : k < vsz V.1 (V.2.2.2 t' i).1 := hk
          rw [h4 _ (Or.inl (by omega)), m3 k hk]
          show vsw V.1 (fun i => g + (V.2.2.2 t' i).2.2.1) (V.2.2.2 t' i) k = vsw V.1 (vpl (vmv V t' g words) t') (V.2.2.2 t' i) k
          unfold vsw
          by_cases cb : bt (V.1 (2238 + (V.2.2.2 t' i).1)) k
          · rw [if_pos cb, if_pos cb]
            cases eq : (V.2.2.2 t' i).2.2.2.2.2 k with
            | none => rfl
            | some z =>
              have := (ff.2.2.2.2.2 i hi k hk cb z eq).1
              show nI (g + (V.2.2.2 t' z.1).2.2.1 + 2 + z.2) = nI (vpl (vmv V t' g words) t' z.1 + 2 + z.2)
              rw [hpl2 z.1 (by omega)]
          · rw [if_neg cb, if_neg cb]
      · have hM : MR (s 111) V.1 (V.2.2.1 t') (V.2.2.2 t') (vpl V t') := fun i hi => ⟨(hj.fit ht' hi).1, h.wd hj rfl ht' hi⟩
        have hM2 : MR w4 V.1 (V.2.2.1 t') (V.2.2.2 t') (vpl V t') := fun i hi => by
          obtain ⟨m0, m1, m2, m3⟩ := hM i hi
          obtain ⟨np, a1, a2, -⟩ := hj.geo ht' (by omega)
          obtain ⟨p, b1, b2, b3, b4, b5⟩ := a2.pc a1 hi
          have hgp := hg.2 p b1
          have hpp := hj.2.1.2 p b1
          have hvp : vpl V t' i = p.1 + (V.2.2.2 t' i).2.2.1 := by unfold vpl; rw [b4]
          unfold vwd at b5
          refine ⟨m0, ?_, ?_, fun k hk => ?_⟩
          · rw [h4 _ (Or.inl (by omega)), d4 _ (by omega) (by omega)]; exact m1
          · rw [h4 _ (Or.inl (by omega)), d4 _ (by omega) (by omega)]; exact m2
          · rw [h4 _ (Or.inl (by omega)), d4 _ (by omega) (by omega)]; exact m3 k hk
        refine hM2.pl (fun i hi => ?_) (fun i hi k hk hb z hz => ?_)
        · unfold vpl
          show vat (vmv V t g words).2.1 t' (V.2.2.2 t' i).2.1 + _ = _
          rw [(v3 t' (V.2.2.2 t' i).2.1 (fun e => et e.1)).1]
          rfl
        · obtain ⟨np, -, -, a3⟩ := hj.geo ht' (by have : i < V.2.2.1 t' := hi; omega)
          exact (a3.2.2.2.2.2 i hi k hk hb z hz).1
  refine ⟨_, ?_, h.of (s' := wt_u s8 116 0 (nI u)) hF ew |>.uf hfin, RF.trans hF (RF.uf (Or.inl rfl))⟩
  unfold gX11_moves
  rw [hgf, e, cl_some, oI_some, if_pos (nI_m1 (by omega)), show gX11_pieceOf s (nI t) 0 = some (oI (some x), s) from hpo, cl_some, oI_some, wr_eq, li_add, ix_nI (by omega) (by omega), li_add, ix_nI (by omega) (by omega)]
  rw [show (wt_u s 110 9 0) 111 = s 111 from wt_u_ne (by omega), r1, r2, p1, cl_some, li_add, ix_nI (by omega) (by omega), wr_eq, p3, h.tk (c := 3961) (by omega) ht, hus, c1, cl_some, d1, cl_some, f1, cl_some, uf_uf, show gX11_takes (wt_uf (wt_u s8 116 0 (nI u)) 111 w3) (nI t) (nI g) (nI words) 0 = _ from g1, cl_some, uf_uf, li_add, ix_nI (by omega) (by omega), ix_nI (by omega) (by omega), ix_nI (by omega) (by omega), wr_eq, u_uf, wt_uf_at, uf_uf, ix_nI (by omega) (by omega), wt_uf_at, show (5 : Int32) = nI 5 from rfl, q_counts0 (by rw [wt_uf_ne (by omega)]; exact (h.of hF ew).1) (by omega), cl_some, u_uf, wt_uf_at, uf_uf]
