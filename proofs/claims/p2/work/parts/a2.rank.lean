/-! ===== the class: the rank of a place, a piece is given back ===== -/
theorem ci2 : (2 : Int32).toInt = 2 := by decide
theorem nI_half2 {k : Nat} (h : k < 2147483648) : nI k / 2 = nI (k / 2) := by
  apply Int32.toInt_inj.mp
  rw [nI_int (by omega)]
  rw [Int32.toInt_div_of_ne_right _ _ (by decide), nI_int h, ci2]
  show ((k : Int).tdiv (2 : Nat)) = _
  rw [← Int.ofNat_tdiv]
section
variable {b lim : Nat} {s s' : wt_S} {zs : List (vP × Nat)} {fr : List Nat}
/-- places grow -/
theorem zs_lt (ho : vo lim (zs.map Prod.fst)) {x y : Nat} {z z' : vP × Nat} (hx : zs[x]? = some z) (hy : zs[y]? = some z') (hxy : x < y) : z.1.1 + z.1.2.1 ≤ z'.1.1 ∧ z.1.1 < z'.1.1 := by
  have hp := ho.1
  rw [List.pairwise_iff_getElem] at hp
  have l1 := (List.getElem?_eq_some_iff.mp hx).1
  have l2 := (List.getElem?_eq_some_iff.mp hy).1
  have := hp x y (by rw [List.length_map]; exact l1) (by rw [List.length_map]; exact l2) hxy
  rw [List.getElem_map, List.getElem_map, (List.getElem?_eq_some_iff.mp hx).2, (List.getElem?_eq_some_iff.mp hy).2] at this
  have h1 := (ho.2 z.1 (List.mem_map.mpr ⟨z, List.mem_of_getElem? hx, rfl⟩)).1
  omega
theorem c_rank_loop {p : Nat} (h : PC b lim s zs fr) (hp : p < 1000000) (ho : vo lim (zs.map Prod.fst)) (hl : lim ≤ 10000) : ∀ (m lo i fu : Nat), lo + m < zs.length → i + m < 256 → m < fu → (lo = 0 ∨ ∃ z, zs[lo]? = some z ∧ z.1.1 ≤ p) → (∀ y z, lo + m < y → zs[y]? = some z → p < z.1.1) →
    ∃ x, gX5_rankOf_12 b fu s (nI p) (nI lo) (nI (lo + m)) (nI i) = some (nI x, s) ∧ x < zs.length ∧ (x = 0 ∨ ∃ z, zs[x]? = some z ∧ z.1.1 ≤ p) ∧ ∀ y z, x < y → zs[y]? = some z → p < z.1.1 := by
  have hn := h.len
  intro m
  induction m using Nat.strongRecOn with
  | _ m ih =>
    intro lo i fu hlt him hf h1 h2
    obtain ⟨fu, rfl⟩ : ∃ k, fu = k + 1 := ⟨fu - 1, by omega⟩
    rw [gX5_rankOf_12, if_neg (c_hi (by omega))]
    by_cases c : m = 0
    · subst c
      rw [if_pos (by rw [Nat.add_zero]; exact Int.le_refl _)]
      exact ⟨lo, rfl, by omega, h1, fun y z hy hz => h2 y z (by omega) hz⟩
    · rw [if_neg (by rw [nI_int (by omega), nI_int (by omega)]; omega), if_neg (c_hi (by omega)), nI_add, show nI (lo + (lo + m)) + 1 = nI (lo + (lo + m) + 1) from nI_add _ 1, nI_half2 (by omega)]
      have hM : (lo + (lo + m) + 1) / 2 = lo + (m + 1) / 2 := by omega
      rw [hM]
      generalize hd : (m + 1) / 2 = d
      have hd1 : 1 ≤ d ∧ d ≤ m := by omega
      have hz : zs[lo + d]? = some zs[lo + d] := List.getElem?_eq_getElem (by omega)
      generalize zs[lo + d] = z at hz
      obtain ⟨g1, g2, g3, g4, g5, -, -⟩ := h.at hz
      have hzp := (ho.2 z.1 (List.mem_map.mpr ⟨z, List.mem_of_getElem? hz, rfl⟩)).2.1
      rw [ix_nI (by omega) (by omega), g1, if_neg (c_lo (by omega)), if_neg (c_hi g2), ix_nI g2 (by omega), g5]
      by_cases c2 : p < z.1.1
      · rw [if_pos (by rw [nI_int (by omega), nI_int (by omega)]; omega)]
        unfold gX5_rankOf_80
        rw [show nI (lo + d) - 1 = nI (lo + (d - 1)) by rw [show lo + d = (lo + (d - 1)) + 1 by omega, i_sub1, nI_pred2], show nI i + 1 = nI (i + 1) from nI_add i 1]
        refine ih (d - 1) (by omega) lo (i + 1) fu (by omega) (by omega) (by omega) h1 (fun y z' hy hz' => ?_)
        by_cases c3 : y = lo + d
        · subst c3
          rw [hz] at hz'
          rw [← Option.some.inj hz']
          exact c2
        · have := (zs_lt ho hz hz' (by omega)).2
          omega
      · rw [if_neg (by rw [nI_int (by omega), nI_int (by omega)]; omega), show nI i + 1 = nI (i + 1) from nI_add i 1]
        have := ih (m - d) (by omega) (lo + d) (i + 1) fu (by omega) (by omega) (by omega) (Or.inr ⟨z, hz, by omega⟩) (fun y z' hy hz' => h2 y z' (by omega) hz')
        rw [show lo + d + (m - d) = lo + m by omega] at this
        exact this
/-- the rank of a place that lies in a piece -/
theorem c_rank (h : PC b lim s zs fr) (ho : vo lim (zs.map Prod.fst)) (hl : lim ≤ 10000) {x p : Nat} {z : vP × Nat} (hx : zs[x]? = some z) (hp : z.1.1 ≤ p ∧ p < z.1.1 + z.1.2.1) : gX5_rankOf b s (nI p) = some (nI x, s) := by
  have hn := h.len
  have hlx := (List.getElem?_eq_some_iff.mp hx).1
  have hz := (ho.2 z.1 (List.mem_map.mpr ⟨z, List.mem_of_getElem? hx, rfl⟩)).2.1
  obtain ⟨y, e1, e2, e3, e4⟩ := c_rank_loop h (p := p) (by omega) ho hl (zs.length - 1) 0 0 wt_N (by omega) (by omega) (by unfold wt_N; omega) (Or.inl rfl) (fun y z hy hz => by
    have := (List.getElem?_eq_some_iff.mp hz).1
    omega)
  have hy : y = x := by
    rcases Nat.lt_trichotomy y x with c | c | c
    · have := e4 x z c hx
      omega
    · exact c
    · rcases e3 with e3 | ⟨z', hz', e3⟩
      · omega
      · have := (zs_lt ho hx hz' c).1
        omega
  subst hy
  unfold gX5_rankOf
  rw [h.1, show nI zs.length - 1 = nI (0 + (zs.length - 1)) by rw [Nat.zero_add, show zs.length = (zs.length - 1) + 1 by omega, i_sub1, nI_pred2]; rfl]
  exact e1
theorem c_holding (h : PC b lim s zs fr) (ho : vo lim (zs.map Prod.fst)) (hl : lim ≤ 10000) {p : Nat} {z : vP × Nat} (hz : z ∈ zs) (hp : z.1.1 ≤ p ∧ p < z.1.1 + z.1.2.1) : gX5_holding b s (nI p) = some (nI z.2, s) := by
  obtain ⟨x, hx⟩ := List.getElem?_of_mem hz
  unfold gX5_holding
  rw [c_rank h ho hl hx hp, cl_some, c_idAt h hx, cl_some]
theorem c_turned (h : PC b lim s zs fr) (ho : vo lim (zs.map Prod.fst)) (hl : lim ≤ 10000) {p : Nat} {z : vP × Nat} (hz : z ∈ zs) (hp : z.1.1 ≤ p ∧ p < z.1.1 + z.1.2.1) : gX5_turned b s (nI p) = some (nI p + s (b + 9) z.2, s) := by
  obtain ⟨x, hx⟩ := List.getElem?_of_mem hz
  have hzl := (ho.2 z.1 (List.mem_map.mpr ⟨z, hz, rfl⟩)).2.1
  unfold gX5_turned
  rw [if_pos (nI_m1 (by omega)), c_rank h ho hl hx hp, cl_some, c_idAt h hx, cl_some, c_shiftOf (h.mem hz).1, cl_some]
theorem c_turned_m : gX5_turned b s (-1) = some (-1, s) := by
  unfold gX5_turned
  rw [if_neg (by decide)]
theorem vall_er : ∀ {ps : List vP} {x : Nat} {q : vP}, ps[x]? = some q → vall ps = vall (ps.eraseIdx x) + q.2.1 := by
  intro ps
  induction ps with
  | nil => intro x q h; simp at h
  | cons p ps ih =>
    intro x q h
    cases x with
    | zero =>
      have h : some p = some q := h
      cases h
      show p.2.1 + vall ps = vall ps + p.2.1
      omega
    | succ x =>
      have h : ps[x]? = some q := h
      show p.2.1 + vall ps = p.2.1 + vall (ps.eraseIdx x) + q.2.1
      rw [ih h]; omega
theorem er_perm {α : Type} {a : α} : ∀ {l : List α} {x : Nat}, l[x]? = some a → (a :: l.eraseIdx x).Perm l := by
  intro l
  induction l with
  | nil => intro x h; simp at h
  | cons c l ih =>
    intro x h
    cases x with
    | zero =>
      have h : some c = some a := h
      cases h
      exact List.Perm.refl _
    | succ x =>
      have h : l[x]? = some a := h
      exact (List.Perm.swap c a _).trans ((ih h).cons c)
theorem c_give (h : PC b lim s zs fr) (ho : vo lim (zs.map Prod.fst)) (hl : lim ≤ 10000) {x : Nat} {z : vP × Nat} (hx : zs[x]? = some z) : ∃ s', gX5_giveBack b s (nI z.2) = some ((), s') ∧ PC b lim s' (zs.eraseIdx x) (z.2 :: fr) ∧ s' (b + 5) = s (b + 5) ∧ s' (b + 6) = s (b + 6) ∧ s' (b + 9) = s (b + 9) ∧ PF b s s' := by
  have hn := h.len
  obtain ⟨g1, g2, g3, g4, g5, g6, g7⟩ := h.at hx
  have hq := ho.2 z.1 (List.mem_map.mpr ⟨z, List.mem_of_getElem? hx, rfl⟩)
  have hL : (zs.eraseIdx x).length = zs.length - 1 := List.length_eraseIdx_of_lt g3
  have hS : nI zs.length - 1 = nI (zs.length - 1) := by rw [show zs.length = (zs.length - 1) + 1 by omega, i_sub1, nI_pred2]; rfl
  have hva : vall (zs.map Prod.fst) = vall ((zs.eraseIdx x).map Prod.fst) + z.1.2.1 := by
    rw [er_map]
    exact vall_er (by rw [List.getElem?_map, hx]; rfl)
  refine ⟨wt_u (wt_u (wt_uf (wt_u s (b + 2) 7 (nI (zs.length - 1))) (b + 8) (mj_cpy (s (b + 8)) (s (b + 8)) (x + 1) x (zs.length - 1 - x))) (b + 8) (zs.length - 1) (nI z.2)) (b + 2) 8 (s (b + 2) 8 - nI z.1.2.1), ?_, ⟨?_, ?_, ?_, ?_, ?_, ?_, ?_, ?_⟩, ?_, ?_, ?_, ?_⟩
  · unfold gX5_giveBack
    rw [c_placeOf g2, cl_some, g5, c_rank h ho hl hx ⟨Nat.le_refl _, by omega⟩, cl_some, if_neg (nI_m1 (by omega)), if_neg (c_lo (by omega)), h.1, if_neg (by rw [nI_int (by omega), nI_int (by omega)]; omega), c_idAt h hx, cl_some, if_pos rfl, h.1, hS, wr_eq, wt_u_self, nI_sub (by omega), show nI x + 1 = nI (x + 1) from nI_add x 1, c_ac (by omega) (by omega) (by omega) (by omega)]
    rw [wt_u_ne (show b + 8 ≠ b + 2 by omega), wt_uf_ne (show b + 2 ≠ b + 8 by omega), wt_u_self, ix_nI (by omega) (by omega), wr_eq, c_wordsOf g2, cl_some, wr_eq]
    rw [wt_u_ne (show b + 4 ≠ b + 8 by omega), wt_uf_ne (show b + 4 ≠ b + 8 by omega), wt_u_ne (show b + 4 ≠ b + 2 by omega), g6, wt_u_ne (show b + 2 ≠ b + 8 by omega), wt_uf_ne (show b + 2 ≠ b + 8 by omega), wt_u_nk (show (8 : Nat) ≠ 7 by omega)]
  · rw [wt_u_nk (by omega), wt_u_ne (by omega), wt_uf_ne (by omega), wt_u_self, hL]
  · rw [wt_u_self, h.2.1, hva, nI_sub (by omega), Nat.add_sub_cancel]
  · rw [wt_u_nk (by omega), wt_u_ne (by omega), wt_uf_ne (by omega), wt_u_nk (by omega), h.2.2.1]
  · unfold zids
    rw [List.length_append, List.length_map, hL, List.length_cons]
    omega
  · have hp : (zids (zs.eraseIdx x) (z.2 :: fr)).Perm (zids zs fr) := by
      unfold zids
      refine List.perm_middle.trans ?_
      rw [er_map, ← List.cons_append]
      exact List.Perm.append_right fr (er_perm (by rw [List.getElem?_map, hx]; rfl))
    exact hp.nodup_iff.mpr h.2.2.2.2.1
  · intro i hi
    refine h.2.2.2.2.2.1 i ?_
    unfold zids at hi ⊢
    rw [List.mem_append, List.mem_map, List.mem_cons] at hi
    rw [List.mem_append, List.mem_map]
    rcases hi with ⟨y, hy, e⟩ | rfl | hi
    · exact Or.inl ⟨y, List.mem_of_mem_eraseIdx hy, e⟩
    · exact Or.inl ⟨z, List.mem_of_getElem? hx, rfl⟩
    · exact Or.inr hi
  · intro y i hi
    rw [wt_u_ne (by omega), wt_u_at, wt_uf_at]
    unfold zids at hi
    by_cases c1 : y < zs.length - 1
    · rw [List.getElem?_append_left (by rw [List.length_map, hL]; exact c1), List.getElem?_map, List.getElem?_eraseIdx] at hi
      rw [mj_upd_ne (by omega)]
      by_cases c2 : y < x
      · rw [if_pos c2] at hi
        obtain ⟨q, hq, rfl⟩ := Option.map_eq_some_iff.mp hi
        rw [mj_cpy_out (by omega)]
        exact h.2.2.2.2.2.2.1 _ _ (zids_at hq)
      · rw [if_neg c2] at hi
        obtain ⟨q, hq, rfl⟩ := Option.map_eq_some_iff.mp hi
        rw [mj_cpy_in (by omega) (by omega), show x + 1 + (y - x) = y + 1 by omega]
        exact h.2.2.2.2.2.2.1 _ _ (zids_at hq)
    · rw [List.getElem?_append_right (by rw [List.length_map, hL]; omega), List.length_map, hL] at hi
      by_cases c2 : y = zs.length - 1
      · subst c2
        rw [Nat.sub_self] at hi
        have hi : some z.2 = some i := hi
        cases hi
        exact mj_upd_self
      · rw [mj_upd_ne c2, mj_cpy_out (by omega)]
        refine h.2.2.2.2.2.2.1 y i ?_
        unfold zids
        rw [List.getElem?_append_right (by rw [List.length_map]; omega), List.length_map]
        rw [show y - (zs.length - 1) = (y - zs.length) + 1 by omega, List.getElem?_cons_succ] at hi
        exact hi
  · intro q hq
    have hq' := List.mem_of_mem_eraseIdx hq
    rw [wt_u_ne (by omega), wt_u_ne (by omega), wt_uf_ne (by omega), wt_u_ne (by omega), wt_u_ne (show b + 4 ≠ b + 2 by omega), wt_u_ne (show b + 4 ≠ b + 8 by omega), wt_uf_ne (show b + 4 ≠ b + 8 by omega), wt_u_ne (show b + 4 ≠ b + 2 by omega), wt_u_ne (show b + 7 ≠ b + 2 by omega), wt_u_ne (show b + 7 ≠ b + 8 by omega), wt_uf_ne (show b + 7 ≠ b + 8 by omega), wt_u_ne (show b + 7 ≠ b + 2 by omega)]
    exact (h.mem hq').2
  · rw [wt_u_ne (by omega), wt_u_ne (by omega), wt_uf_ne (by omega), wt_u_ne (by omega)]
  · rw [wt_u_ne (by omega), wt_u_ne (by omega), wt_uf_ne (by omega), wt_u_ne (by omega)]
  · rw [wt_u_ne (by omega), wt_u_ne (by omega), wt_uf_ne (by omega), wt_u_ne (by omega)]
  · intro c hc
    rw [wt_u_ne (by omega), wt_u_ne (by omega), wt_uf_ne (by omega), wt_u_ne (by omega)]
end
