section
/-! ===== the class: scalars are written ===== -/
def VFR (V : vV) : Prop := ∀ k, k < 6 → ∀ i, i < V.2.2.1 k → (V.2.2.2 k i).1 < 10
/-- cells and fields that stay -/
def KT (b : Nat) (s s' : wt_S) : Prop := (∀ c, (5 ≤ c ∧ c ≤ 10) ∨ (b + 2 ≤ c ∧ c ≤ b + 8) ∨ c = b + 15 → s' c = s c) ∧ ∀ k, k < 6 → ∀ j, j = 10 ∨ j = 11 ∨ j = 12 ∨ j = 13 ∨ j = 15 → s' (b + 17 + 2 * k) j = s (b + 17 + 2 * k) j
section
variable {b lim : Nat} {s s' : wt_S} {V V' : vV} {zs : List (vP × Nat)} {fr : List Nat} {t : Nat}
theorem VJ.vfr (h : VJ lim V) : VFR V := fun k hk i hi => (h.fit hk hi).1
theorem RC.sc (h : RC b lim s V zs fr) (hx : CX b lim) (hp : Ipr V.1) (hf : VFR V) (h2 : V'.2 = V.2) (hw : vpe V.1 V'.1) (hg : CG b s' V'.1) (hks : ∀ k, k < 6 → Ks b s' V'.1 k) (hc : KT b s s') (hv : ∀ k, k < 6 → V'.1 (3968 + k) = V.1 (3968 + k) ∧ V'.1 (4066 + k) = V.1 (4066 + k) ∧ V'.1 (4052 + k) = V.1 (4052 + k) ∧ (V'.1 (3926 + k) ≠ 0 → V.1 (3926 + k) ≠ 0)) : RC b lim s' V' zs fr := by
  obtain ⟨W, R⟩ := V'
  have h2 : R = V.2 := h2
  subst h2
  have hb := hx.b
  obtain ⟨h1, h2, -, h4, h5, h6⟩ := h
  refine ⟨h1, h2.eq (fun c hc' => hc.1 c (by omega)), hg, fun k hk => ?_, ?_, h6.eq hp hw (fun c c1 c2 => hc.1 c (by omega))⟩
  · obtain ⟨-, ⟨l1, l2⟩, ⟨p1, p2⟩, ⟨r1, r2⟩, g, z⟩ := h4 k hk
    obtain ⟨v1, v2, v3, v4⟩ := hv k hk
    have c := hc.2 k hk
    refine ⟨hks k hk, ⟨?_, ?_⟩, ⟨?_, ?_⟩, ⟨?_, ?_⟩, ?_, ?_⟩
    · rw [c 10 (by omega), c 11 (by omega)]; exact l1
    · rw [c 10 (by omega), c 11 (by omega)]
      rw [v1]; exact l2
    · rw [c 12 (by omega)]
      rw [v2]; exact p1
    · rw [c 12 (by omega)]
      rw [v2]; exact p2
    · rw [c 13 (by omega)]; exact r1
    · rw [c 13 (by omega)]; exact r2
    · intro hn
      rw [c 15 (by omega)]
      rw [v3]
      exact g (v4 hn)
    · intro z1 hz1 hz2
      have := z z1 hz1 hz2
      rw [hc.1 (b + 5) (by omega), hc.1 (b + 6) (by omega), show vud (W, V.2).1 ((W, V.2).2.2.2 k) z1.1.2.2.2 ((W, V.2).2.2.1 k) = vud V.1 (V.2.2.2 k) z1.1.2.2.2 (V.2.2.1 k) from vud_pe hw (hf k hk)]
      exact this
  · rw [hc.1 (b + 15) (by omega)]
    exact fun k hk => MR_w (fun i i1 i2 => hw i (Or.inl (by omega))) (h5 k hk)
theorem KT.refl : KT b s s := ⟨fun _ _ => rfl, fun _ _ _ _ => rfl⟩
/-- a place that is not looked at -/
theorem RC.v (h : RC b lim s V zs fr) (hx : CX b lim) (hp : Ipr V.1) (hf : VFR V) {i : Nat} {v : Int32} (hi : i = 2066 ∨ i = 2067 ∨ (3923 ≤ i ∧ i < 3926)) : RC b lim s (vs V i v) zs fr := by
  have e : ∀ j, j ≠ i → (vs V i v).1 j = V.1 j := fun j hj => vs_ne hj
  refine h.sc hx hp hf rfl (vpe.upd (by omega)) ⟨fun j hj => ?_, fun j hj => ?_⟩ (fun k hk => ?_) KT.refl (fun k hk => ?_)
  · rw [e _ (by omega)]; exact h.2.2.1.1 j hj
  · rw [e _ (by omega)]; exact h.2.2.1.2 j hj
  · obtain ⟨a0, a1, a2⟩ := (h.2.2.2.1 k hk).1
    refine ⟨a0, fun e' he' => ?_, fun e' he' => ?_⟩
    · have := tf_p e' he'
      rw [e _ (by omega)]; exact a1 e' he'
    · have := ts_p e' he'
      rw [e _ (by omega)]; exact a2 e' he'
  · rw [e _ (by omega), e _ (by omega), e _ (by omega), e _ (by omega)]
    exact ⟨rfl, rfl, rfl, id⟩
/-- a field of a task -/
theorem RC.ut (h : RC b lim s V zs fr) (hx : CX b lim) (hp : Ipr V.1) (hf : VFR V) (ht : t < 6) {e : Nat × Nat} (he : e ∈ tf) {v : Int32} (h0 : e.2 = 3926 → v ≠ 0 → V.1 (3926 + t) ≠ 0) : RC b lim (wt_u s (b + 17 + 2 * t) e.1 v) (vs V (e.2 + t) v) zs fr := by
  have ep := tf_p e he
  have en := tf_n e he
  have e2 : ∀ j, j ≠ e.2 + t → (vs V (e.2 + t) v).1 j = V.1 j := fun j hj => vs_ne hj
  refine h.sc hx hp hf rfl (vpe.upd (by omega)) ⟨fun j hj => ?_, fun j hj => ?_⟩ (fun k hk => ?_) ⟨fun c hc => wt_u_ne (by omega), fun k hk j hj => ?_⟩ (fun k hk => ?_)
  · rw [wt_u_ne (by omega), e2 _ (by omega)]; exact h.2.2.1.1 j hj
  · rw [wt_u_ne (by omega), e2 _ (by omega)]; exact h.2.2.1.2 j hj
  · obtain ⟨a0, a1, a2⟩ := (h.2.2.2.1 k hk).1
    by_cases c : k = t
    · subst c
      refine ⟨?_, fun e' he' => ?_, fun e' he' => ?_⟩
      · rw [wt_u_nk (by omega)]; exact a0
      · by_cases c2 : e'.1 = e.1
        · have c3 := (tf_i e' he' e he).mp c2
          rw [c2, c3, wt_u_self, vs_at]
        · have c3 : e'.2 ≠ e.2 := fun q => c2 ((tf_i e' he' e he).mpr q)
          rw [wt_u_nk c2, e2 _ (by omega)]; exact a1 e' he'
      · have := ft_i e he e' he'
        rw [wt_u_ne (by omega), e2 _ (by omega)]; exact a2 e' he'
    · refine ⟨?_, fun e' he' => ?_, fun e' he' => ?_⟩
      · rw [wt_u_ne (by omega)]; exact a0
      · have := tf_p e' he'
        rw [wt_u_ne (by omega), e2 _ (by omega)]; exact a1 e' he'
      · have := ts_p e' he'
        rw [wt_u_ne (by omega), e2 _ (by omega)]; exact a2 e' he'
  · by_cases c : k = t
    · subst c
      rw [wt_u_nk (by omega)]
    · rw [wt_u_ne (by omega)]
  · rw [e2 _ (by omega), e2 _ (by omega), e2 _ (by omega)]
    refine ⟨rfl, rfl, rfl, fun hn => ?_⟩
    by_cases c : 3926 + k = e.2 + t
    · have c1 : k = t ∧ e.2 = 3926 := by omega
      rw [c] at hn
      rw [vs_at] at hn
      rw [c1.1]
      exact h0 c1.2 hn
    · rw [e2 _ c] at hn; exact hn
/-- a sum of a task -/
theorem RC.us (h : RC b lim s V zs fr) (hx : CX b lim) (hp : Ipr V.1) (hf : VFR V) (ht : t < 6) {e : Nat × Nat} (he : e ∈ ts) {v : Int32} : RC b lim (wt_u s (b + 17 + 2 * t + 1) e.1 v) (vs V (e.2 + t) v) zs fr := by
  have ep := ts_p e he
  have en := ts_n e he
  have e2 : ∀ j, j ≠ e.2 + t → (vs V (e.2 + t) v).1 j = V.1 j := fun j hj => vs_ne hj
  have e3 : e.2 ≠ 3926 := ft_i (1, 3926) (by decide) e he |> fun q => Ne.symm q
  refine h.sc hx hp hf rfl (vpe.upd (by omega)) ⟨fun j hj => ?_, fun j hj => ?_⟩ (fun k hk => ?_) ⟨fun c hc => wt_u_ne (by omega), fun k hk j hj => ?_⟩ (fun k hk => ?_)
  · rw [wt_u_ne (by omega), e2 _ (by omega)]; exact h.2.2.1.1 j hj
  · rw [wt_u_ne (by omega), e2 _ (by omega)]; exact h.2.2.1.2 j hj
  · obtain ⟨a0, a1, a2⟩ := (h.2.2.2.1 k hk).1
    refine ⟨?_, fun e' he' => ?_, fun e' he' => ?_⟩
    · rw [wt_u_ne (by omega)]; exact a0
    · have := tf_p e' he'
      have := ft_i e' he' e he
      rw [wt_u_ne (by omega), e2 _ (by omega)]; exact a1 e' he'
    · by_cases c : k = t
      · subst c
        by_cases c2 : e'.1 = e.1
        · have c3 := (ts_i e' he' e he).mp c2
          rw [c2, c3, wt_u_self, vs_at]
        · have c3 : e'.2 ≠ e.2 := fun q => c2 ((ts_i e' he' e he).mpr q)
          rw [wt_u_nk c2, e2 _ (by omega)]; exact a2 e' he'
      · have := ts_p e' he'
        rw [wt_u_ne (by omega), e2 _ (by omega)]; exact a2 e' he'
  · rw [wt_u_ne (by omega)]
  · rw [e2 _ (by omega), e2 _ (by omega), e2 _ (by omega), e2 _ (by omega)]
    exact ⟨rfl, rfl, rfl, id⟩
/-- what is counted of all -/
theorem RC.uc (h : RC b lim s V zs fr) (hx : CX b lim) (hp : Ipr V.1) (hf : VFR V) {k : Nat} (hk : k < 12) {v : Int32} : RC b lim (wt_u s (b + 13) k v) (vs V (2054 + k) v) zs fr := by
  have e2 : ∀ j, j ≠ 2054 + k → (vs V (2054 + k) v).1 j = V.1 j := fun j hj => vs_ne hj
  refine h.sc hx hp hf rfl (vpe.upd (by omega)) ⟨fun j hj => ?_, fun j hj => ?_⟩ (fun k hk => ?_) ⟨fun c hc => wt_u_ne (by omega), fun k hk j hj => by rw [wt_u_ne (by omega)]⟩ (fun k hk => ?_)
  · rw [wt_u_ne (by omega), e2 _ (by omega)]; exact h.2.2.1.1 j hj
  · by_cases c : j = k
    · subst c
      rw [wt_u_self, vs_at]
    · rw [wt_u_nk c, e2 _ (by omega)]; exact h.2.2.1.2 j hj
  · obtain ⟨a0, a1, a2⟩ := (h.2.2.2.1 k hk).1
    refine ⟨?_, fun e' he' => ?_, fun e' he' => ?_⟩
    · rw [wt_u_ne (by omega)]; exact a0
    · have := tf_p e' he'
      rw [wt_u_ne (by omega), e2 _ (by omega)]; exact a1 e' he'
    · have := ts_p e' he'
      rw [wt_u_ne (by omega), e2 _ (by omega)]; exact a2 e' he'
  · rw [e2 _ (by omega), e2 _ (by omega), e2 _ (by omega), e2 _ (by omega)]
    exact ⟨rfl, rfl, rfl, id⟩
/-- fields that are not looked at: REACH, sums that no question shows -/
theorem RC.ux (h : RC b lim s V zs fr) (hx : CX b lim) (hp : Ipr V.1) (hf : VFR V) (ht : t < 6) {c j : Nat} {v : Int32} (hc : (c = b + 17 + 2 * t ∧ j = 14) ∨ (c = b + 17 + 2 * t + 1 ∧ (j < 2 ∨ 8 < j))) : RC b lim (wt_u s c j v) V zs fr := by
  have t1 : ∀ e ∈ ts, 2 ≤ e.1 ∧ e.1 ≤ 8 := by decide
  have g : ∀ c' j', ¬ (c' = c ∧ j' = j) → wt_u s c j v c' j' = s c' j' := fun c' j' hn => by
    by_cases e : c' = c
    · subst e
      exact wt_u_nk (fun q => hn ⟨rfl, q⟩)
    · rw [wt_u_ne e]
  refine h.sc hx hp hf rfl vpe.refl ⟨fun j' hj => ?_, fun j' hj => ?_⟩ (fun k hk => ?_) ⟨fun c' hc' => wt_u_ne (by omega), fun k hk j' hj => g _ _ (by omega)⟩ (fun k hk => ⟨rfl, rfl, rfl, id⟩)
  · rw [g _ _ (by omega)]; exact h.2.2.1.1 j' hj
  · rw [g _ _ (by omega)]; exact h.2.2.1.2 j' hj
  · obtain ⟨a0, a1, a2⟩ := (h.2.2.2.1 k hk).1
    refine ⟨?_, fun e' he' => ?_, fun e' he' => ?_⟩
    · rw [g _ _ (by omega)]; exact a0
    · have := tf_n e' he'
      rw [g _ _ (by omega)]; exact a1 e' he'
    · have := t1 e' he'
      rw [g _ _ (by omega)]; exact a2 e' he'
theorem Ipr.vs1 {i : Nat} {v : Int32} (hp : Ipr V.1) (hi : (i < 2228 ∨ 2898 ≤ i) ∧ i ≠ 2050 ∧ i ≠ 2051) : Ipr (vs V i v).1 := hp.ww (vpe.upd hi)
/-- a sum grows, of the task and of all -/
theorem c_adds (h : RC b lim s V zs fr) (hx : CX b lim) (hp : Ipr V.1) (hf : VFR V) (ht : t < 6) {e : Nat × Nat} (he : e ∈ ts) {v : Int32} : ∃ s', gX9_add b (b + 17 + 2 * t) s (nI e.1) v = some ((), s') ∧ RC b lim s' (vcn (vs V (e.2 + t) (V.1 (e.2 + t) + v)) e.1 v) zs fr ∧ TO b t s s' ∧ (∀ c, c ≠ b + 13 → c ≠ b + 17 + 2 * t + 1 → s' c = s c) := by
  have ep := ts_p e he
  have t1 : ∀ e ∈ ts, 2 ≤ e.1 ∧ e.1 ≤ 8 := by decide
  have := t1 e he
  refine ⟨_, c_add (by omega) (by omega), ?_, (TO.u (by omega) ht).trans (TO.u (by omega) ht), fun c h1 h2 => by rw [wt_u_ne h1, wt_u_ne h2]⟩
  have a1 := h.us hx hp hf ht he (v := V.1 (e.2 + t) + v)
  have a2 := a1.uc hx (hp.vs1 (by omega)) hf (k := e.1) (by omega) (v := (vs V (e.2 + t) (V.1 (e.2 + t) + v)).1 (2054 + e.1) + v)
  rw [h.as ht he]
  have e3 : s (b + 13) e.1 = (vs V (e.2 + t) (V.1 (e.2 + t) + v)).1 (2054 + e.1) := by
    rw [vs_ne (by omega)]; exact h.2.2.1.2 e.1 (by omega)
  rw [e3]
  exact a2
/-- a sum that no question of a task shows -/
theorem c_addn (h : RC b lim s V zs fr) (hx : CX b lim) (hp : Ipr V.1) (hf : VFR V) (ht : t < 6) {k : Nat} (hk : k < 2 ∨ (8 < k ∧ k < 12)) {v : Int32} : ∃ s', gX9_add b (b + 17 + 2 * t) s (nI k) v = some ((), s') ∧ RC b lim s' (vcn V k v) zs fr ∧ TO b t s s' ∧ (∀ c, c ≠ b + 13 → c ≠ b + 17 + 2 * t + 1 → s' c = s c) := by
  refine ⟨_, c_add (by omega) (by omega), ?_, (TO.u (by omega) ht).trans (TO.u (by omega) ht), fun c h1 h2 => by rw [wt_u_ne h1, wt_u_ne h2]⟩
  have a1 := h.ux hx hp hf ht (c := b + 17 + 2 * t + 1) (j := k) (v := s (b + 17 + 2 * t + 1) k + v) (Or.inr ⟨rfl, by omega⟩)
  have a2 := a1.uc hx hp hf (k := k) (by omega) (v := V.1 (2054 + k) + v)
  rw [h.2.2.1.2 k (by omega)]
  exact a2
/-- a line of the log came -/
theorem c_logs (h : RC b lim s V zs fr) (hx : CX b lim) (hp : Ipr V.1) (hf : VFR V) {i1 : Int32} {i : Nat} (hi : i < 256) : ∃ s', gX9_writeLog b s i1 (nI i) = some ((), s') ∧ RC b lim s' (vlg1 V) zs fr ∧ LF b s s' := by
  obtain ⟨s', e1, e2⟩ := c_writeLog (b := b) (s := s) (i1 := i1) hi
  exact ⟨s', e1, (h.lf hx e2).v hx hp hf (by omega), e2⟩
end
end
section
/-! ===== the class: a spare is given back ===== -/
/-- all but pieces, log and the task itself stays -/
def XF (b t : Nat) (s s' : wt_S) : Prop := ∀ c, ¬ (b + 2 ≤ c ∧ c ≤ b + 9) → c ≠ b + 11 → c ≠ b + 12 → c ≠ b + 17 + 2 * t → s' c = s c
section
variable {b lim : Nat} {s s' : wt_S} {V V' : vV} {zs zs' : List (vP × Nat)} {fr fr' : List Nat} {t : Nat}
theorem XF.to (h : XF b t s s') (ht : t < 6) : TO b t s s' := ⟨fun k hk hne => ⟨h _ (by omega) (by omega) (by omega) (by omega), h _ (by omega) (by omega) (by omega) (by omega)⟩, fun c hc => h c (by omega) (by omega) (by omega) (by omega)⟩
theorem XF.trans {s2 : wt_S} (h : XF b t s s') (h' : XF b t s' s2) : XF b t s s2 := fun c h1 h2 h3 h4 => (h' c h1 h2 h3 h4).trans (h c h1 h2 h3 h4)
theorem XF.refl : XF b t s s := fun _ _ _ _ _ => rfl
theorem XF.pf (h : PF b s s') : XF b t s s' := fun c h1 _ _ _ => h c h1
theorem XF.lf (h : LF b s s') : XF b t s s' := fun c _ h2 h3 _ => h c h2 h3
theorem XF.u {j : Nat} {v : Int32} : XF b t s (wt_u s (b + 17 + 2 * t) j v) := fun c _ _ _ h4 => wt_u_ne h4
/-- a piece of the picture and its id -/
theorem zfind {ps : List vP} {n : Nat} (h : zs.map Prod.fst = ps) (hu : ps.Pairwise (fun p q => ¬ (p.2.2.1 = q.2.2.1 ∧ p.2.2.2 = q.2.2.2))) (hq : ∃ q ∈ ps, q.2.2.1 = t ∧ q.2.2.2 = n) : ∃ x z, zs[x]? = some z ∧ z ∈ zs ∧ z.1.2.2.1 = t ∧ z.1.2.2.2 = n ∧ vat ps t n = z.1.1 ∧ vln ps t n = z.1.2.1 ∧ (zs.eraseIdx x).map Prod.fst = ps.filter (fun q => !vkey t n q) ∧ ∀ y, y ∈ zs.eraseIdx x ↔ y ∈ zs ∧ ¬ (y.1.2.2.1 = t ∧ y.1.2.2.2 = n) := by
  obtain ⟨x, q, e1, e2, e3, e4, e5, e6, e7, e8⟩ := vfi_some hq
  rw [← h, List.getElem?_map] at e2
  obtain ⟨z, hz, rfl⟩ := Option.map_eq_some_iff.mp e2
  have he := vfi_erase hu e1
  rw [Nat.sub_zero] at he
  refine ⟨x, z, hz, List.mem_of_getElem? hz, e5, e6, e7, e8, ?_, fun y => ?_⟩
  · rw [er_map, h]; exact he
  · rw [List.mem_eraseIdx_iff_getElem?]
    have key : ∀ i y, zs[i]? = some y → y.1.2.2.1 = t → y.1.2.2.2 = n → i = x := fun i y hi h1 h2 => by
      rcases Nat.lt_trichotomy i x with c | c | c
      · exfalso
        rw [← h, List.pairwise_iff_getElem] at hu
        have l1 := (List.getElem?_eq_some_iff.mp hi).1
        have l2 := (List.getElem?_eq_some_iff.mp hz).1
        have := hu i x (by rw [List.length_map]; exact l1) (by rw [List.length_map]; exact l2) c
        rw [List.getElem_map, List.getElem_map, (List.getElem?_eq_some_iff.mp hi).2, (List.getElem?_eq_some_iff.mp hz).2] at this
        exact this ⟨h1.trans e5.symm, h2.trans e6.symm⟩
      · exact c
      · exfalso
        rw [← h, List.pairwise_iff_getElem] at hu
        have l1 := (List.getElem?_eq_some_iff.mp hi).1
        have l2 := (List.getElem?_eq_some_iff.mp hz).1
        have := hu x i (by rw [List.length_map]; exact l2) (by rw [List.length_map]; exact l1) c
        rw [List.getElem_map, List.getElem_map, (List.getElem?_eq_some_iff.mp hi).2, (List.getElem?_eq_some_iff.mp hz).2] at this
        exact this ⟨e5.trans h1.symm, e6.trans h2.symm⟩
    constructor
    · rintro ⟨i, hne, hi⟩
      exact ⟨List.mem_of_getElem? hi, fun hq => hne (key i y hi hq.1 hq.2)⟩
    · rintro ⟨hy, hn⟩
      obtain ⟨i, hi⟩ := List.getElem?_of_mem hy
      refine ⟨i, fun e => ?_, hi⟩
      subst e
      rw [hz] at hi
      cases hi
      exact hn ⟨e5, e6⟩
theorem RC.mem (h : RC b lim s V zs fr) {z : vP × Nat} (hz : z ∈ zs) : z.1 ∈ V.2.1 := by
  rw [← h.1]
  exact List.mem_map.mpr ⟨z, hz, rfl⟩
theorem RC.mm (h : RC b lim s V zs fr) {q : vP} (hq : q ∈ V.2.1) : ∃ z ∈ zs, z.1 = q := by
  rw [← h.1] at hq
  obtain ⟨z, hz, e⟩ := List.mem_map.mp hq
  exact ⟨z, hz, e⟩
/-- without the spare -/
theorem c_spare (h : RC b lim s V zs fr) (hx : CX b lim) (hj : VJ lim V) (ht : t < 6) (hn : vnof V t 1000) : ∃ s' zs' fr', gX4_dropSpare b (b + 17 + 2 * t) s = some (rb ((V.2.1.find? (vkey t 1000)).isSome = true), s') ∧ RC b lim s' (vsp V t) zs' fr' ∧ XF b t s s' ∧ s' (b + 17 + 2 * t) = mj_upd (s (b + 17 + 2 * t)) 13 (-1) := by
  have hb := hx.b
  have hT : (s (b + 17 + 2 * t)) 13 = -1 → mj_upd (s (b + 17 + 2 * t)) 13 (-1) = s (b + 17 + 2 * t) := fun e => by
    funext j
    by_cases c : j = 13
    · subst c; rw [mj_upd_self, e]
    · rw [mj_upd_ne c]
  obtain ⟨r1, r2⟩ := (h.2.2.2.1 t ht).2.2.2.1
  unfold gX4_dropSpare
  cases e : V.2.1.find? (vkey t 1000) with
  | none =>
    have hno : ∀ q ∈ V.2.1, ¬ (q.2.2.1 = t ∧ q.2.2.2 = 1000) := fun q hq hk => by
      have := List.find?_eq_none.mp e q hq
      simp [vkey, hk] at this
    have e13 := r2 hno
    refine ⟨s, zs, fr, ?_, ?_, XF.refl, (hT e13).symm⟩
    · rw [if_neg (fun c => c e13), rb_neg (by simp)]
    · unfold vsp
      rw [e]
      exact h
  | some q =>
    have hq1 := List.mem_of_find?_eq_some e
    have hq2 := List.find?_some e
    have hq2 : q.2.2.1 = t ∧ q.2.2.2 = 1000 := by simpa [vkey] using hq2
    obtain ⟨x, z, z1, z2, z3, z4, -, -, z5, z6⟩ := zfind h.1 hj.2.2.1 ⟨q, hq1, hq2⟩
    have e13 := r1 z z2 z3 z4
    have hid := (h.2.1.mem z2).1
    obtain ⟨s2, w1, w2⟩ := c_writeLog (b := b) (s := wt_u s (b + 17 + 2 * t) 13 (-1)) (i1 := 5) hid
    have hP2 : PC b lim s2 zs fr := h.2.1.eq (fun c hc => by rw [w2 c (by omega) (by omega), wt_u_ne (by omega)])
    obtain ⟨s3, g1, g2, g3, g4, g5, g6⟩ := c_give hP2 (by rw [h.1]; exact hj.2.1) hx.2.2 z1
    have hX : XF b t s s3 := (XF.u.trans (XF.lf w2)).trans (XF.pf g6)
    have hT3 : s3 (b + 17 + 2 * t) = mj_upd (s (b + 17 + 2 * t)) 13 (-1) := by
      rw [g6 _ (by omega), w2 _ (by omega) (by omega), wt_u_at]
    have h5 : s3 (b + 5) = s (b + 5) := by rw [g3, w2 _ (by omega) (by omega), wt_u_ne (by omega)]
    have h6 : s3 (b + 6) = s (b + 6) := by rw [g4, w2 _ (by omega) (by omega), wt_u_ne (by omega)]
    have hv : vsp V t = vps (vlg1 V) (V.2.1.filter (fun q => !vkey t 1000 q)) := by
      unfold vsp
      rw [e]
      rfl
    refine ⟨s3, zs.eraseIdx x, z.2 :: fr, ?_, ?_, hX, hT3⟩
    · rw [e13, if_pos (nI_m1 (by omega)), wr_eq, w1, cl_some, g1, cl_some, rb_pos (by simp)]
    · obtain ⟨⟨a0, a1, a2⟩, ⟨l1, l2⟩, ⟨p1, p2⟩, -, g, zz⟩ := h.2.2.2.1 t ht
      have hw : ∀ i, i ≠ 2067 → (vsp V t).1 i = V.1 i := fun i hi => vsp_w hi
      have h22 : (vsp V t).2.2 = V.2.2 := vsp_22
      have hot : OT t V (vsp V t) := OT.sp ht
      have tj : ∀ j, j ≠ 13 → s3 (b + 17 + 2 * t) j = s (b + 17 + 2 * t) j := fun j hj => by rw [hT3, mj_upd_ne hj]
      refine h.op hx hj.1 hot ht (hX.to ht) hj.vfr (fun y hy => ?_) (fun y _ _ => by rw [h5, h6]; exact ⟨rfl, rfl⟩) ?_ g2 ⟨fun j hj => ?_, fun j hj => ?_⟩ ⟨⟨?_, fun e' he' => ?_, fun e' he' => ?_⟩, ⟨?_, ?_⟩, ⟨?_, fun y hy => ?_⟩, ⟨fun y hy h1 h2 => ?_, fun _ => ?_⟩, ?_, fun y hy hyt => ?_⟩ ?_
      · rw [z6]
        exact ⟨fun q => q.1, fun q => ⟨q, fun c => hy c.1⟩⟩
      · rw [z5, hv]; rfl
      · rw [hX _ (by omega) (by omega) (by omega) (by omega), hw _ (by omega)]; exact h.2.2.1.1 j hj
      · rw [hX _ (by omega) (by omega) (by omega) (by omega), hw _ (by omega)]; exact h.2.2.1.2 j hj
      · rw [tj _ (by omega)]; exact a0
      · have := tf_p e' he'
        have := tf_n e' he'
        rw [tj _ (by omega), hw _ (by omega)]; exact a1 e' he'
      · have := ts_p e' he'
        rw [hX _ (by omega) (by omega) (by omega) (by omega), hw _ (by omega)]; exact a2 e' he'
      · rw [h22, tj _ (by omega), tj _ (by omega)]; exact l1
      · have hvp : vpl (vsp V t) t ((vsp V t).2.2.1 t - 1) = vpl V t (V.2.2.1 t - 1) ∨ V.2.2.1 t = 0 := by
          by_cases c0 : V.2.2.1 t = 0
          · exact Or.inr c0
          · left
            unfold vpl
            rw [h22, vsp_ps]
            congr 1
            refine (vat_eq (vfind_filter (fun q hq hk => ?_))).1
            have := hn (V.2.2.1 t - 1) (by omega)
            have hk : q.2.2.1 = t ∧ q.2.2.2 = (V.2.2.2 t (V.2.2.1 t - 1)).2.1 := by simpa [vkey] using hk
            simp only [vkey, Bool.not_eq_true', decide_eq_false_iff_not]
            intro hc
            exact this (hk.2.symm.trans hc.2)
        intro h0
        rw [h22] at h0
        rw [tj _ (by omega), tj _ (by omega), hw _ (by omega)]
        rcases hvp with hvp | hvp
        · rw [hvp]; exact l2 h0
        · omega
      · rw [tj _ (by omega), hw _ (by omega)]; exact p1
      · rw [tj _ (by omega), hw _ (by omega)]
        exact p2 y ((z6 y).mp hy).1
      · exact absurd ⟨h1, h2⟩ ((z6 y).mp hy).2
      · rw [hT3, mj_upd_self]
      · unfold Kg
        rw [tj _ (by omega), hw _ (by omega), hw _ (by omega)]; exact g
      · rw [h5, h6, h22]
        obtain ⟨q1, q2, q3⟩ := zz y ((z6 y).mp hy).1 hyt
        rw [vud_pe hot.1 (hj.vfr t ht)]
        exact ⟨q1, q2, fun y' hy' => q3 y' ((z6 y').mp hy').1⟩
      · rw [hX _ (by omega) (by omega) (by omega) (by omega)]
        rw [hv]
        exact VM_vs (Or.inl (by omega)) (VM.sp hj h.2.2.2.2.1 (vnof_P hn))
end
end
section
/-! ===== the class: another piece is linked ===== -/
theorem vad_c {W : vV} {e i : Nat} {E v : Int32} (h : i ≠ e) : vs (vs W e E) i ((vs W e E).1 i + v) = vs (vs W i (W.1 i + v)) e E := by
  rw [vs_ne h]
  refine Prod.ext ?_ rfl
  funext j
  show mj_upd (mj_upd W.1 e E) i _ j = mj_upd (mj_upd W.1 i _) e E j
  rw [mj_upd_eq, mj_upd_eq, mj_upd_eq, mj_upd_eq]
  by_cases c1 : j = i
  · subst c1
    simp [h]
  · simp [c1]
section
variable {b lim : Nat} {s s' : wt_S} {V V' : vV} {zs zs' : List (vP × Nat)} {fr fr' : List Nat} {t np z need : Nat} {w w' : Nat → Int32}
theorem Ks.keep (h : Ks b s w t) (hT : ∀ j, j ≠ 12 → j ≠ 13 → s' (b + 17 + 2 * t) j = s (b + 17 + 2 * t) j) (hS : s' (b + 17 + 2 * t + 1) = s (b + 17 + 2 * t + 1)) (ht : t < 6) (hw : ∀ i, 3926 ≤ i → i < 4066 → w' i = w i) : Ks b s' w' t := by
  obtain ⟨a0, a1, a2⟩ := h
  have p1 : ∀ e ∈ tf, e.2 ≤ 4059 := by decide
  have p2 : ∀ e ∈ ts, e.2 ≤ 4059 := by decide
  refine ⟨by rw [hT _ (by omega) (by omega)]; exact a0, fun e he => ?_, fun e he => ?_⟩
  · have := tf_n e he
    have := tf_p e he
    have := p1 e he
    rw [hT _ (by omega) (by omega), hw _ (by omega) (by omega)]; exact a1 e he
  · have := ts_p e he
    have := p2 e he
    rw [hS, hw _ (by omega) (by omega)]; exact a2 e he
theorem Kl.keep (h : Kl b s V t) (hT : ∀ j, j ≠ 12 → j ≠ 13 → s' (b + 17 + 2 * t) j = s (b + 17 + 2 * t) j) (h2 : V'.2.2 = V.2.2) (hw : V'.1 (3968 + t) = V.1 (3968 + t)) (hv : 0 < V.2.2.1 t → vpl V' t (V.2.2.1 t - 1) = vpl V t (V.2.2.1 t - 1)) : Kl b s' V' t := by
  obtain ⟨l1, l2⟩ := h
  unfold Kl
  rw [hT 10 (by omega) (by omega), hT 11 (by omega) (by omega), h2, hw]
  exact ⟨l1, fun h0 => by rw [hv h0]; exact l2 h0⟩
theorem Kg.keep (h : Kg b s w t) (hT : ∀ j, j ≠ 12 → j ≠ 13 → s' (b + 17 + 2 * t) j = s (b + 17 + 2 * t) j) (ht : t < 6) (hw : ∀ i, 3926 ≤ i → i < 4066 → w' i = w i) : Kg b s' w' t := by
  unfold Kg
  rw [hT 15 (by omega) (by omega), hw _ (by omega) (by omega), hw _ (by omega) (by omega)]
  exact h
theorem CG.keep (h : CG b s w) (h1 : s' (b + 1) = s (b + 1)) (h2 : s' (b + 13) = s (b + 13)) (hw : ∀ i, 2048 ≤ i → i < 2066 → w' i = w i) : CG b s' w' := by
  refine ⟨fun j hj => ?_, fun j hj => ?_⟩
  · rw [h1, hw _ (by omega) (by omega)]; exact h.1 j hj
  · rw [h2, hw _ (by omega) (by omega)]; exact h.2 j hj
/-- the pieces of a task that stay where they are -/
theorem vpl_find {ps' : List vP} {n : Nat} (h : ps'.find? (vkey t (V.2.2.2 t n).2.1) = V.2.1.find? (vkey t (V.2.2.2 t n).2.1)) (h2 : V'.2 = (ps', V.2.2)) : vpl V' t n = vpl V t n := by
  unfold vpl
  rw [h2, (vat_eq h).1]
theorem Ico.mn (h : Ico V t np) : V.1 (4066 + t) = nI np ∧ 1 ≤ np ∧ np ≤ 256 := ⟨h.2.1, h.2.2.1⟩
theorem Ico.num (h : Ico V t np) {q : vP} (hq : q ∈ V.2.1) (ht : q.2.2.1 = t) : q.2.2.2 < np ∨ q.2.2.2 = 1000 := h.2.2.2.1.2 q hq ht
/-- the spare is used again -/
theorem c_again (h : RC b lim s V zs fr) (hx : CX b lim) (hP : Vpre lim V t np z) (hm : V.1 (3933 + t) = 1) {x : Nat} {y : vP × Nat} (hy : zs[x]? = some y) (hk : y.1.2.2.1 = t ∧ y.1.2.2.2 = 1000) : ∃ zs', RC b lim (wt_u (wt_u (wt_u s (b + 17 + 2 * t) 13 (-1)) (b + 6) y.2 (s (b + 17 + 2 * t) 12)) (b + 17 + 2 * t) 12 (nI y.2)) (vs (vps V (vren t 1000 np V.2.1)) (4066 + t) (nI (np + 1))) zs' fr := by
  have hb := hx.b
  have hj := hP.1
  have hc := hP.2.1
  have ht := hP.2.2.1
  obtain ⟨n1, n2, n3⟩ := hc.mn
  have hym := List.mem_of_getElem? hy
  obtain ⟨k1, k2, k3, k4, k5, k6⟩ := h.2.2.2.1 t ht
  let re : vP × Nat → vP × Nat := fun z => if vkey t 1000 z.1 then ((z.1.1, z.1.2.1, z.1.2.2.1, np), z.2) else z
  have re2 : ∀ z, (re z).2 = z.2 := fun z => by show (if _ then _ else _ : vP × Nat).2 = _; split <;> rfl
  have re1 : ∀ z, (re z).1 = if vkey t 1000 z.1 then (z.1.1, z.1.2.1, z.1.2.2.1, np) else z.1 := fun z => by show (if _ then _ else _ : vP × Nat).1 = _; split <;> rfl
  have hmap : (zs.map re).map Prod.fst = vren t 1000 np V.2.1 := by
    rw [← h.1, List.map_map]
    unfold vren
    rw [List.map_map]
    exact List.map_congr_left (fun z _ => re1 z)
  have hids : zids (zs.map re) fr = zids zs fr := by
    unfold zids
    rw [List.map_map]
    congr 1
    exact List.map_congr_left (fun z _ => re2 z)
  have hro : ∀ z, (re z).1.1 = z.1.1 ∧ (re z).1.2.1 = z.1.2.1 ∧ (re z).1.2.2.1 = z.1.2.2.1 := fun z => by
    rw [re1]; split <;> exact ⟨rfl, rfl, rfl⟩
  have hva : ∀ l : List (vP × Nat), vall ((l.map re).map Prod.fst) = vall (l.map Prod.fst) := fun l => by
    induction l with
    | nil => rfl
    | cons z l ih =>
      show (re z).1.2.1 + vall ((l.map re).map Prod.fst) = z.1.2.1 + vall (l.map Prod.fst)
      rw [ih, (hro z).2.1]
  have hT : ∀ j, j ≠ 12 → j ≠ 13 → wt_u (wt_u (wt_u s (b + 17 + 2 * t) 13 (-1)) (b + 6) y.2 (s (b + 17 + 2 * t) 12)) (b + 17 + 2 * t) 12 (nI y.2) (b + 17 + 2 * t) j = s (b + 17 + 2 * t) j := fun j h1 h2 => by
    rw [wt_u_nk h1, wt_u_ne (by omega), wt_u_nk h2]
  have hC : ∀ c, c ≠ b + 6 → c ≠ b + 17 + 2 * t → wt_u (wt_u (wt_u s (b + 17 + 2 * t) 13 (-1)) (b + 6) y.2 (s (b + 17 + 2 * t) 12)) (b + 17 + 2 * t) 12 (nI y.2) c = s c := fun c h1 h2 => by
    rw [wt_u_ne h2, wt_u_ne h1, wt_u_ne h2]
  have h6 : ∀ i, i ≠ y.2 → wt_u (wt_u (wt_u s (b + 17 + 2 * t) 13 (-1)) (b + 6) y.2 (s (b + 17 + 2 * t) 12)) (b + 17 + 2 * t) 12 (nI y.2) (b + 6) i = s (b + 6) i := fun i hi => by
    rw [wt_u_ne (by omega), wt_u_nk hi, wt_u_ne (by omega)]
  have h6y : wt_u (wt_u (wt_u s (b + 17 + 2 * t) 13 (-1)) (b + 6) y.2 (s (b + 17 + 2 * t) 12)) (b + 17 + 2 * t) 12 (nI y.2) (b + 6) y.2 = s (b + 17 + 2 * t) 12 := by
    rw [wt_u_ne (by omega), wt_u_self]
  have h12 : wt_u (wt_u (wt_u s (b + 17 + 2 * t) 13 (-1)) (b + 6) y.2 (s (b + 17 + 2 * t) 12)) (b + 17 + 2 * t) 12 (nI y.2) (b + 17 + 2 * t) 12 = nI y.2 := wt_u_self
  have h13 : wt_u (wt_u (wt_u s (b + 17 + 2 * t) 13 (-1)) (b + 6) y.2 (s (b + 17 + 2 * t) 12)) (b + 17 + 2 * t) 12 (nI y.2) (b + 17 + 2 * t) 13 = -1 := by
    rw [wt_u_nk (by omega), wt_u_ne (by omega), wt_u_self]
  have hto : TO b t s (wt_u (wt_u (wt_u s (b + 17 + 2 * t) 13 (-1)) (b + 6) y.2 (s (b + 17 + 2 * t) 12)) (b + 17 + 2 * t) 12 (nI y.2)) := ((TO.u (by omega) ht).trans (TO.u (by omega) ht)).trans (TO.u (by omega) ht)
  generalize wt_u (wt_u (wt_u s (b + 17 + 2 * t) 13 (-1)) (b + 6) y.2 (s (b + 17 + 2 * t) 12)) (b + 17 + 2 * t) 12 (nI y.2) = s1 at *
  have hn1 : vnof V t 1000 := hc.nof (by omega)
  have hn2 : vnof V t np := hc.nof (Nat.le_refl _)
  have hw : ∀ i, i ≠ 4066 + t → (vs (vps V (vren t 1000 np V.2.1)) (4066 + t) (nI (np + 1))).1 i = V.1 i := fun i hi => vs_ne hi
  have hot : OT t V (vs (vps V (vren t 1000 np V.2.1)) (4066 + t) (nI (np + 1))) := OT.ren.trans (OT.vs ht (vown_t (by omega)))
  have hmem : ∀ z, z ∈ zs.map re ↔ ∃ z0 ∈ zs, re z0 = z := fun z => List.mem_map
  -- a piece of the new list: the old spare, or an old one
  have hcase : ∀ z, z ∈ zs.map re → (z.2 = y.2 ∧ z.1.2.2.1 = t ∧ z.1.2.2.2 = np) ∨ (z ∈ zs ∧ ¬ (z.1.2.2.1 = t ∧ z.1.2.2.2 = 1000)) := fun z hz => by
    obtain ⟨z0, hz0, rfl⟩ := (hmem z).mp hz
    by_cases c : z0.1.2.2.1 = t ∧ z0.1.2.2.2 = 1000
    · left
      have hz1 : z0.1 = y.1 := vuniq hj.2.2.1 z0.1 (h.mem hz0) y.1 (h.mem hym) (c.1.trans hk.1.symm) (c.2.trans hk.2.symm)
      have hkk : vkey t 1000 z0.1 = true := by simp [vkey, c]
      rw [re2, re1, if_pos hkk]
      refine ⟨?_, c.1, rfl⟩
      obtain ⟨x0, hx0⟩ := List.getElem?_of_mem hz0
      have hxx : x0 = x := by
        have hu := hj.2.2.1
        rw [← h.1, List.pairwise_iff_getElem] at hu
        have l1 := (List.getElem?_eq_some_iff.mp hx0).1
        have l2 := (List.getElem?_eq_some_iff.mp hy).1
        rcases Nat.lt_trichotomy x0 x with c1 | c1 | c1
        · have := hu x0 x (by rw [List.length_map]; exact l1) (by rw [List.length_map]; exact l2) c1
          rw [List.getElem_map, List.getElem_map, (List.getElem?_eq_some_iff.mp hx0).2, (List.getElem?_eq_some_iff.mp hy).2, hz1] at this
          exact absurd ⟨rfl, rfl⟩ this
        · exact c1
        · have := hu x x0 (by rw [List.length_map]; exact l2) (by rw [List.length_map]; exact l1) c1
          rw [List.getElem_map, List.getElem_map, (List.getElem?_eq_some_iff.mp hx0).2, (List.getElem?_eq_some_iff.mp hy).2, hz1] at this
          exact absurd ⟨rfl, rfl⟩ this
      subst hxx
      rw [hy] at hx0
      rw [Option.some.inj hx0]
    · right
      have hkk : vkey t 1000 z0.1 = false := by simp only [vkey, decide_eq_false_iff_not]; exact c
      have e0 : re z0 = z0 := by show (if _ then _ else _) = _; rw [hkk]; rfl
      rw [e0]
      exact ⟨hz0, c⟩
  refine ⟨zs.map re, h.op hx hj.1 hot ht hto hj.vfr (fun z hz => ?_) (fun z hz hzt => ?_) hmap ⟨?_, ?_, ?_, ?_, ?_, ?_, ?_, ?_⟩ ?_ ⟨?_, ?_, ⟨?_, ?_⟩, ⟨?_, ?_⟩, ?_, ?_⟩ ?_⟩
  · constructor
    · intro hz1
      rcases hcase z hz1 with c | c
      · exact absurd c.2.1 hz
      · exact c.1
    · intro hz1
      refine (hmem z).mpr ⟨z, hz1, ?_⟩
      have hkk : vkey t 1000 z.1 = false := by simp only [vkey, decide_eq_false_iff_not]; exact fun c => hz c.1
      show (if _ then _ else _) = _
      rw [hkk]; rfl
  · have hne : z.2 ≠ y.2 := fun e => hzt (by rw [h.2.1.inj hz hym e]; exact hk.1)
    rw [hC (b + 5) (by omega) (by omega), h6 _ hne]
    exact ⟨rfl, rfl⟩
  · rw [hC _ (by omega) (by omega), List.length_map]; exact h.2.1.1
  · rw [hC _ (by omega) (by omega), hva]; exact h.2.1.2.1
  · rw [hC _ (by omega) (by omega)]; exact h.2.1.2.2.1
  · rw [hids]; exact h.2.1.2.2.2.1
  · rw [hids]; exact h.2.1.2.2.2.2.1
  · rw [hids]; exact h.2.1.2.2.2.2.2.1
  · rw [hids, hC _ (by omega) (by omega)]; exact h.2.1.2.2.2.2.2.2.1
  · intro z hz
    obtain ⟨z0, hz0, rfl⟩ := (hmem z).mp hz
    rw [hC _ (by omega) (by omega), hC _ (by omega) (by omega), hC _ (by omega) (by omega), re2, (hro z0).1, (hro z0).2.1, (hro z0).2.2]
    exact (h.2.1.mem hz0).2
  · exact h.2.2.1.keep (hC _ (by omega) (by omega)) (hC _ (by omega) (by omega)) (fun i i1 i2 => hw i (by omega))
  · exact k1.keep hT (hC _ (by omega) (by omega)) ht (fun i i1 i2 => hw i (by omega))
  · refine k2.keep hT rfl (hw _ (by omega)) (fun h0 => vpl_find (ps' := vren t 1000 np V.2.1) (vfind_ren (fun e => ?_)) rfl)
    have q1 := hn1 (V.2.2.1 t - 1) (by omega)
    have q2 := hn2 (V.2.2.1 t - 1) (by omega)
    rcases e.2 with e | e
    · exact q1 e
    · exact q2 e
  · intro e
    rw [vs_at] at e
    have := congrArg Int32.toInt e
    rw [nI_int (by omega)] at this
    rw [ci0] at this
    omega
  · intro z hz hzt hzn
    rw [vs_at] at hzn
    rcases hcase z hz with c | c
    · rw [h12, c.1]
    · have := hc.num (h.mem c.1) hzt
      have e2 := (nI_inj (by omega) (by omega)).mp hzn
      omega
  · intro z hz hzt hzn
    rcases hcase z hz with c | c
    · omega
    · exact absurd ⟨hzt, hzn⟩ c.2
  · intro _
    exact h13
  · exact k5.keep hT ht (fun i i1 i2 => hw i (by omega))
  · intro z hz hzt
    have hvu : ∀ n, vud (vs (vps V (vren t 1000 np V.2.1)) (4066 + t) (nI (np + 1))).1 (V.2.2.2 t) n (V.2.2.1 t) = vud V.1 (V.2.2.2 t) n (V.2.2.1 t) := fun n => vud_pe hot.1 (hj.vfr t ht)
    show s1 (b + 5) z.2 = nI (vud (vs (vps V (vren t 1000 np V.2.1)) (4066 + t) (nI (np + 1))).1 (V.2.2.2 t) z.1.2.2.2 (V.2.2.1 t)) ∧ _
    rw [hvu, hC _ (by omega) (by omega)]
    rcases hcase z hz with c | c
    · obtain ⟨u1, -, -⟩ := k6 y hym hk.1
      rw [c.1, u1, hk.2, c.2.2, vud_zero hn1, vud_zero hn2]
      refine ⟨rfl, fun e => by omega, fun z' hz' hzt' hzn' => ?_⟩
      rw [h6y]
      rcases hcase z' hz' with c' | c'
      · omega
      · refine k3.2 z' c'.1 hzt' ?_
        rw [n1, ← hzn']
    · have hne : z.2 ≠ y.2 := fun e => c.2 (by rw [h.2.1.inj c.1 hym e]; exact hk)
      obtain ⟨u1, u2, u3⟩ := k6 z c.1 hzt
      rw [h6 _ hne]
      refine ⟨u1, u2, fun z' hz' hzt' hzn' => ?_⟩
      rcases hcase z' hz' with c' | c'
      · have := hc.num (h.mem c.1) hzt
        omega
      · exact u3 z' c'.1 hzt' hzn'
  · rw [hC _ (by omega) (by omega)]
    exact VM_vs (Or.inr (by omega)) (VM.ren hj h.2.2.2.2.1 hn1 hn2)
end
end
section
/-! ===== the class: a new last piece ===== -/
section
variable {b lim : Nat} {s s' : wt_S} {V V' : vV} {zs zs' : List (vP × Nat)} {fr fr' : List Nat} {t np z need : Nat}
theorem c_new (h : RC b lim s V zs fr) (hx : CX b lim) (hj : VJ lim V) (ht : t < 6) {n words g : Nat} (hn : V.1 (4066 + t) = nI n) (hn2 : n ≤ 256) (hnum : ∀ q ∈ V.2.1, q.2.2.1 = t → q.2.2.2 < n ∨ q.2.2.2 = 1000) (hno : vnof V t n) (hw : 1 ≤ words ∧ words < 100000) (hlen : zs.length < 256) (hg : vgap lim 0 V.2.1 words = some g) :
    ∃ id s' zs' fr', gX5_take b s (nI words) (nI t) (s (b + 17 + 2 * t) 12) = some (nI id, s') ∧ id < 256 ∧ RC b lim (wt_u s' (b + 17 + 2 * t) 12 (nI id)) (vs (vps V (vins (g, words, t, n) V.2.1)) (4066 + t) (nI (n + 1))) zs' fr' ∧ PF b s s' := by
  have hb := hx.b
  obtain ⟨k1, k2, k3, k4, k5, k6⟩ := h.2.2.2.1 t ht
  obtain ⟨id, fr', y, s1, -, i1, i2, i3, i4, i5, i6, i7, i8, i9⟩ := (c_take (un := s (b + 17 + 2 * t) 12) (t := t) h.2.1 (by rw [h.1]; exact hj.2.1) hw hx.2.2).2 g hlen (by rw [h.1]; exact hg)
  obtain ⟨j1, j2⟩ := i9 n
  rw [h.1] at j2
  refine ⟨id, s1, zs.insertIdx y ((g, words, t, n), id), fr', i3, i1, ?_, i8⟩
  have hT : ∀ j, j ≠ 12 → j ≠ 13 → wt_u s1 (b + 17 + 2 * t) 12 (nI id) (b + 17 + 2 * t) j = s (b + 17 + 2 * t) j := fun j h1 h2 => by
    rw [wt_u_nk h1, i8 _ (by omega)]
  have h13 : wt_u s1 (b + 17 + 2 * t) 12 (nI id) (b + 17 + 2 * t) 13 = s (b + 17 + 2 * t) 13 := by
    rw [wt_u_nk (by omega), i8 _ (by omega)]
  have h12 : wt_u s1 (b + 17 + 2 * t) 12 (nI id) (b + 17 + 2 * t) 12 = nI id := wt_u_self
  have hC : ∀ c, c ≠ b + 17 + 2 * t → wt_u s1 (b + 17 + 2 * t) 12 (nI id) c = s1 c := fun c h1 => wt_u_ne h1
  have hto : TO b t s (wt_u s1 (b + 17 + 2 * t) 12 (nI id)) := (TO.pf i8).trans (TO.u (by omega) ht)
  generalize wt_u s1 (b + 17 + 2 * t) 12 (nI id) = s2 at *
  have hw' : ∀ i, i ≠ 4066 + t → (vs (vps V (vins (g, words, t, n) V.2.1)) (4066 + t) (nI (n + 1))).1 i = V.1 i := fun i hi => vs_ne hi
  have hot : OT t V (vs (vps V (vins (g, words, t, n) V.2.1)) (4066 + t) (nI (n + 1))) := (OT.ins rfl).trans (OT.vs ht (vown_t (by omega)))
  have hmem : ∀ z, z ∈ zs.insertIdx y ((g, words, t, n), id) ↔ z = ((g, words, t, n), id) ∨ z ∈ zs := fun z => List.mem_insertIdx i4
  refine h.op hx hj.1 hot ht hto hj.vfr (fun z hz => ?_) (fun z hz hzt => ?_) j2 (j1.eq (fun c hc => hC c (by omega))) ?_ ⟨?_, ?_, ⟨?_, ?_⟩, ⟨?_, ?_⟩, ?_, ?_⟩ ?_
  · rw [hmem]
    constructor
    · rintro (rfl | hz1)
      · exact absurd rfl hz
      · exact hz1
    · exact Or.inr
  · rw [hC _ (by omega), hC _ (by omega), i5, i6, mj_upd_ne (i2 z hz), mj_upd_ne (i2 z hz)]
    exact ⟨rfl, rfl⟩
  · exact h.2.2.1.keep (by rw [hC _ (by omega), i8 _ (by omega)]) (by rw [hC _ (by omega), i8 _ (by omega)]) (fun i i1 i2 => hw' i (by omega))
  · exact k1.keep hT (by rw [hC _ (by omega), i8 _ (by omega)]) ht (fun i i1 i2 => hw' i (by omega))
  · refine k2.keep hT rfl (hw' _ (by omega)) (fun h0 => vpl_find (ps' := vins (g, words, t, n) V.2.1) (vfind_ins_ne ?_) rfl)
    simp only [vkey, decide_eq_false_iff_not]
    intro e
    exact hno (V.2.2.1 t - 1) (by omega) e.2.symm
  · intro e
    rw [vs_at] at e
    have := congrArg Int32.toInt e
    rw [nI_int (by omega)] at this
    rw [ci0] at this
    omega
  · intro z hz hzt hzn
    rw [vs_at] at hzn
    rcases (hmem z).mp hz with rfl | hz1
    · exact h12
    · have := hnum _ (h.mem hz1) hzt
      have e2 := (nI_inj (by omega) (by omega)).mp hzn
      omega
  · intro z hz hzt hzn
    rw [h13]
    rcases (hmem z).mp hz with rfl | hz1
    · have hzn : n = 1000 := hzn
      omega
    · exact k4.1 z hz1 hzt hzn
  · intro hq
    rw [h13]
    exact k4.2 (fun q hq1 => hq q (vins_mem.mpr (Or.inr hq1)))
  · exact k5.keep hT ht (fun i i1 i2 => hw' i (by omega))
  · intro z hz hzt
    have hvu : ∀ m, vud (vs (vps V (vins (g, words, t, n) V.2.1)) (4066 + t) (nI (n + 1))).1 (V.2.2.2 t) m (V.2.2.1 t) = vud V.1 (V.2.2.2 t) m (V.2.2.1 t) := fun m => vud_pe hot.1 (hj.vfr t ht)
    show s2 (b + 5) z.2 = nI (vud (vs (vps V (vins (g, words, t, n) V.2.1)) (4066 + t) (nI (n + 1))).1 (V.2.2.2 t) z.1.2.2.2 (V.2.2.1 t)) ∧ _
    rw [hvu, hC _ (by omega), hC _ (by omega), i5, i6]
    rcases (hmem z).mp hz with rfl | hz1
    · show mj_upd (s (b + 5)) id 0 id = nI (vud V.1 (V.2.2.2 t) n (V.2.2.1 t)) ∧ (n = 0 → mj_upd (s (b + 6)) id (s (b + 17 + 2 * t) 12) id = -1) ∧ ∀ y' : vP × Nat, y' ∈ zs.insertIdx y ((g, words, t, n), id) → y'.1.2.2.1 = t → n = y'.1.2.2.2 + 1 → mj_upd (s (b + 6)) id (s (b + 17 + 2 * t) 12) id = nI y'.2
      rw [mj_upd_self, mj_upd_self, vud_zero hno]
      refine ⟨rfl, fun e => ?_, fun y' hy' hyt hyn => ?_⟩
      · subst e
        exact k3.1 hn
      · rcases (hmem y').mp hy' with rfl | hy1
        · have hyn : n = n + 1 := hyn
          omega
        · exact k3.2 y' hy1 hyt (by rw [hn, ← hyn])
    · have hne := i2 z hz1
      rw [mj_upd_ne hne, mj_upd_ne hne]
      obtain ⟨u1, u2, u3⟩ := k6 z hz1 hzt
      refine ⟨u1, u2, fun y' hy' hyt hyn => ?_⟩
      rcases (hmem y').mp hy' with rfl | hy1
      · have hyn : z.1.2.2.2 = n + 1 := hyn
        have := hnum _ (h.mem hz1) hzt
        omega
      · exact u3 y' hy1 hyt hyn
  · rw [hC _ (by omega), i8 _ (by omega)]
    exact VM_vs (Or.inr (by omega)) (VM.ins hj h.2.2.2.2.1 hno)
/-- there is an id left -/
theorem Vlen {lim z : Nat} {ps : List vP} (ho : vo lim ps) (hz : ∀ q ∈ ps, z ≤ q.2.1) (h8 : 8 ≤ z) (hl : lim ≤ 256 * z) {g words : Nat} (hw : z ≤ words) (hg : vgap lim 0 ps words = some g) : ps.length < 256 := by
  obtain ⟨g1, g2⟩ := vgap0 ho hg
  have ho' : vo lim (vins (g, words, 0, 0) ps) := vo_ins ho ⟨by show 1 ≤ words; omega, g1, by show (0 : Nat) < 6; omega, by show (0 : Nat) < 4294967296; omega⟩ (fun p hp => g2 p hp)
  have := vlen (z := z) ho' (fun q hq => by
    rcases vins_mem.mp hq with rfl | hq
    · exact hw
    · exact hz q hq)
  rw [vins_len] at this
  have h2 : (ps.length + 1) * z ≤ 256 * z := Nat.le_trans this hl
  have := Nat.le_of_mul_le_mul_right h2 (by omega)
  omega
theorem c_max {x y : Nat} (hx : x < 2147483648) (hy : y < 2147483648) : gJ9_max_7cf53 s (nI x) (nI y) = some (nI (max y x), s) := by
  unfold gJ9_max_7cf53
  rw [nI_int hx, nI_int hy]
  by_cases c : x < y
  · rw [if_pos (by omega), Nat.max_eq_left (by omega)]
  · rw [if_neg (by omega), Nat.max_eq_right (by omega)]
theorem inc3 {W : vV} {e a c : Nat} {E : Int32} (h1 : a ≠ e) (h2 : 2054 + c ≠ e) (h3 : 2067 ≠ e) : vlg1 (vcn (vs (vs W e E) a ((vs W e E).1 a + 1)) c 1) = vs (vlg1 (vcn (vinc W a) c 1)) e E := by
  rw [vad_c h1]
  show vlg1 (vs (vs (vs W a (W.1 a + 1)) e E) (2054 + c) ((vs (vs W a (W.1 a + 1)) e E).1 (2054 + c) + 1)) = _
  rw [vad_c h2]
  show vs (vs (vs (vs W a (W.1 a + 1)) (2054 + c) _) e E) 2067 ((vs (vs (vs W a (W.1 a + 1)) (2054 + c) _) e E).1 2067 + 1) = _
  rw [vad_c h3]
  rfl
theorem inc3_e {W : vV} {e a c : Nat} (h1 : a ≠ e) (h2 : 2054 + c ≠ e) (h3 : 2067 ≠ e) : (vlg1 (vcn (vinc W a) c 1)).1 e = W.1 e := by
  rw [vlg1_ne (Ne.symm h3), vcn_ne (Ne.symm h2), vinc_ne (Ne.symm h1)]
/-- split -/
theorem c_split (h : RC b lim s V zs fr) (hx : CX b lim) (hP : Vpre lim V t np z) (hn : 1 ≤ need ∧ need ≤ 100) : ∃ s' zs' fr', gX4_linkPiece_66 b (b + 17 + 2 * t) s (nI need) = some (rb ((vspl lim (vsp V t) t need).1 = true), s') ∧ RC b lim s' (vspl lim (vsp V t) t need).2 zs' fr' ∧ TO b t s s' := by
  have hb := hx.b
  obtain ⟨hj, hc, ht, hz, h8, hzl, hl, hl2, hq⟩ := hP
  obtain ⟨n1, n2, n3⟩ := hc.mn
  obtain ⟨s1, zs1, fr1, a1, a2, a3, a4⟩ := c_spare h hx hj ht (hc.nof (by omega))
  obtain ⟨hj1, hc1⟩ := vsp_J hj hc ht
  have hz1 : (vsp V t).1 2048 = nI z := by rw [vsp_w (by omega)]; exact hz
  have hq1 : ∀ q ∈ (vsp V t).2.1, z ≤ q.2.1 := fun q hq' => by
    rw [vsp_ps] at hq'
    exact hq q (List.mem_filter.mp hq').1
  obtain ⟨m1, m2, m3⟩ := hc1.mn
  unfold gX4_linkPiece_66
  have e0 : s1 (b + 1) 0 = nI z := by rw [a2.2.2.1.1 0 (by omega)]; exact hz1
  have et : s1 (b + 17 + 2 * t) 0 = nI t := (a2.2.2.2.1 t ht).1.1
  rw [a1, cl_some, e0, c_max (by omega) (by omega), cl_some, et]
  have hzn : ((vsp V t).1 2048).toInt.toNat = z := by rw [hz1, nI_int (by omega)]; omega
  cases e : vgap lim 0 (vsp V t).2.1 (max need z) with
  | none =>
    rw [vspl_none hzn e, (c_take a2.2.1 (by rw [a2.1]; exact hj1.2.1) ⟨by omega, by omega⟩ hx.2.2).1 (by rw [a2.1]; exact e), cl_some, if_neg (by decide)]
    exact ⟨s1, zs1, fr1, by rw [rb_neg (by simp)], a2, a3.to ht⟩
  | some g =>
    have hlen : zs1.length < 256 := by
      have := Vlen hj1.2.1 hq1 h8 hl2 (Nat.le_max_right need z) e
      rw [← a2.1, List.length_map] at this
      exact this
    obtain ⟨id, s2, zs2, fr2, b1, b2, b3, b4⟩ := c_new a2 hx hj1 ht m1 (by omega) (fun q hq' hqt => hc1.num hq' hqt) (hc1.nof (Nat.le_refl _)) (words := max need z) ⟨by omega, by omega⟩ hlen e
    rw [vspl_some hzn (vnp_of m1 (by omega)) e, b1, cl_some, if_pos (nI_m1 (by omega)), wr_eq]
    have hp2 : Ipr (vs (vps (vsp V t) (vins (g, max need z, t, np) (vsp V t).2.1)) (4066 + t) (nI (np + 1))).1 := Ipr.vs1 (V := vps (vsp V t) (vins (g, max need z, t, np) (vsp V t).2.1)) hj1.1 (by omega)
    have hf2 : VFR (vs (vps (vsp V t) (vins (g, max need z, t, np) (vsp V t).2.1)) (4066 + t) (nI (np + 1))) := hj1.vfr
    obtain ⟨s3, c1, c2, c3, -⟩ := c_adds b3 hx hp2 hf2 ht (e := (6, 4024)) (by decide) (v := 1)
    have c1 : gX9_add b (b + 17 + 2 * t) (wt_u s2 (b + 17 + 2 * t) 12 (nI id)) 6 1 = some ((), s3) := c1
    have hp3 : Ipr (vcn (vs (vs (vps (vsp V t) (vins (g, max need z, t, np) (vsp V t).2.1)) (4066 + t) (nI (np + 1))) (4024 + t) ((vs (vps (vsp V t) (vins (g, max need z, t, np) (vsp V t).2.1)) (4066 + t) (nI (np + 1))).1 (4024 + t) + 1)) 6 1).1 := Ipr.vs1 (Ipr.vs1 hp2 (by omega)) (by omega)
    obtain ⟨s4, d1, d2, d3⟩ := c_logs c2 hx hp3 hf2 (i1 := 2) b2
    rw [c1, cl_some, d1, cl_some]
    have e1 := inc3 (W := vps (vsp V t) (vins (g, max need z, t, np) (vsp V t).2.1)) (e := 4066 + t) (a := 4024 + t) (c := 6) (E := nI (np + 1)) (by omega) (by omega) (by omega)
    have e2 := inc3_e (W := vps (vsp V t) (vins (g, max need z, t, np) (vsp V t).2.1)) (e := 4066 + t) (a := 4024 + t) (c := 6) (by omega) (by omega) (by omega)
    have d2 : RC b lim s4 (vlg1 (vcn (vs (vs (vps (vsp V t) (vins (g, max need z, t, np) (vsp V t).2.1)) (4066 + t) (nI (np + 1))) (4024 + t) ((vs (vps (vsp V t) (vins (g, max need z, t, np) (vsp V t).2.1)) (4066 + t) (nI (np + 1))).1 (4024 + t) + 1)) 6 1)) zs2 fr2 := d2
    rw [e1] at d2
    refine ⟨s4, zs2, fr2, by rw [rb_pos rfl], ?_, ((((a3.to ht).trans (TO.pf b4)).trans (TO.u (by omega) ht)).trans c3).trans (TO.lf d3)⟩
    show RC b lim s4 (vs (vlg1 (vcn (vinc (vps (vsp V t) (vins (g, max need z, t, np) (vsp V t).2.1)) (4024 + t)) 6 1)) (4066 + t) ((vlg1 (vcn (vinc (vps (vsp V t) (vins (g, max need z, t, np) (vsp V t).2.1)) (4024 + t)) 6 1)).1 (4066 + t) + 1)) zs2 fr2
    rw [e2, show (vps (vsp V t) (vins (g, max need z, t, np) (vsp V t).2.1)).1 (4066 + t) = nI np from m1, show nI np + 1 = nI (np + 1) from nI_add np 1]
    exact d2
/-- LINKED: room is made -/
theorem c_link (h : RC b lim s V zs fr) (hx : CX b lim) (hP : Vpre lim V t np z) (hm : V.1 (3933 + t) = 1) (hn : 1 ≤ need ∧ need ≤ 100) : ∃ s' zs' fr', gX4_linkPiece b (b + 17 + 2 * t) s (nI need) = some (rb ((vgr lim V t need).1 = true), s') ∧ RC b lim s' (vgr lim V t need).2 zs' fr' ∧ TO b t s s' := by
  have hb := hx.b
  have hj := hP.1
  have hc := hP.2.1
  have ht := hP.2.2.1
  obtain ⟨n1, n2, n3⟩ := hc.mn
  obtain ⟨r1, r2⟩ := (h.2.2.2.1 t ht).2.2.2.1
  unfold gX4_linkPiece
  cases e : V.2.1.find? (vkey t 1000) with
  | none =>
    have hno : ∀ q ∈ V.2.1, ¬ (q.2.2.1 = t ∧ q.2.2.2 = 1000) := fun q hq hk => by
      have := List.find?_eq_none.mp e q hq
      simp [vkey, hk] at this
    rw [r2 hno, if_pos rfl, vgr_l0 hm e]
    have hs : vsp V t = V := by unfold vsp; rw [e]; rfl
    have := c_split h hx hP hn
    rw [hs] at this
    exact this
  | some q =>
    have hq1 := List.mem_of_find?_eq_some e
    have hq2 := List.find?_some e
    have hq2 : q.2.2.1 = t ∧ q.2.2.2 = 1000 := by simpa [vkey] using hq2
    obtain ⟨x, y, z1, z2, z3, z4, z5, z6, -, -⟩ := zfind h.1 hj.2.2.1 ⟨q, hq1, hq2⟩
    have hyq : y.1 = q := vuniq hj.2.2.1 y.1 (h.mem z2) q hq1 (z3.trans hq2.1.symm) (z4.trans hq2.2.symm)
    obtain ⟨y1, y2, y3, y4⟩ := h.2.1.mem z2
    have hyl := (hj.2.1.2 y.1 (h.mem z2)).2.1
    have hxm := hx.2.2
    rw [r1 y z2 z3 z4, if_neg (nI_m1 (by omega)), c_wordsOf y1, cl_some, y3, nI_int (by omega), nI_int (by omega)]
    by_cases c : need ≤ q.2.1
    · rw [if_neg (by rw [hyq]; omega), wr_eq, c_putOver y1, cl_some, wr_eq, vgr_l1 hm e (vnp_of n1 (by omega)) c]
      rw [wt_u_nk (show (12 : Nat) ≠ 13 by omega)]
      obtain ⟨zs1, a1⟩ := c_again h hx hP hm z1 ⟨z3, z4⟩
      have hp2 : Ipr (vs (vps V (vren t 1000 np V.2.1)) (4066 + t) (nI (np + 1))).1 := Ipr.vs1 (V := vps V (vren t 1000 np V.2.1)) hj.1 (by omega)
      have hf2 : VFR (vs (vps V (vren t 1000 np V.2.1)) (4066 + t) (nI (np + 1))) := hj.vfr
      obtain ⟨s3, c1, c2, c3, -⟩ := c_adds a1 hx hp2 hf2 ht (e := (8, 4038)) (by decide) (v := 1)
      have c1 : gX9_add b (b + 17 + 2 * t) (wt_u (wt_u (wt_u s (b + 17 + 2 * t) 13 (-1)) (b + 6) y.2 (s (b + 17 + 2 * t) 12)) (b + 17 + 2 * t) 12 (nI y.2)) 8 1 = some ((), s3) := c1
      have hp3 : Ipr (vcn (vs (vs (vps V (vren t 1000 np V.2.1)) (4066 + t) (nI (np + 1))) (4038 + t) ((vs (vps V (vren t 1000 np V.2.1)) (4066 + t) (nI (np + 1))).1 (4038 + t) + 1)) 8 1).1 := Ipr.vs1 (Ipr.vs1 hp2 (by omega)) (by omega)
      obtain ⟨s4, d1, d2, d3⟩ := c_logs c2 hx hp3 hf2 (i1 := 4) y1
      rw [c1, cl_some, d1, cl_some]
      have e1 := inc3 (W := vps V (vren t 1000 np V.2.1)) (e := 4066 + t) (a := 4038 + t) (c := 8) (E := nI (np + 1)) (by omega) (by omega) (by omega)
      have e2 := inc3_e (W := vps V (vren t 1000 np V.2.1)) (e := 4066 + t) (a := 4038 + t) (c := 8) (by omega) (by omega) (by omega)
      have d2 : RC b lim s4 (vlg1 (vcn (vs (vs (vps V (vren t 1000 np V.2.1)) (4066 + t) (nI (np + 1))) (4038 + t) ((vs (vps V (vren t 1000 np V.2.1)) (4066 + t) (nI (np + 1))).1 (4038 + t) + 1)) 8 1)) zs1 fr := d2
      rw [e1] at d2
      refine ⟨s4, zs1, fr, by rw [rb_pos rfl], ?_, ((((TO.u (by omega) ht).trans (TO.u (by omega) ht)).trans (TO.u (by omega) ht)).trans c3).trans (TO.lf d3)⟩
      show RC b lim s4 (vs (vlg1 (vcn (vinc (vps V (vren t 1000 np V.2.1)) (4038 + t)) 8 1)) (4066 + t) ((vlg1 (vcn (vinc (vps V (vren t 1000 np V.2.1)) (4038 + t)) 8 1)).1 (4066 + t) + 1)) zs1 fr
      rw [e2, show (vps V (vren t 1000 np V.2.1)).1 (4066 + t) = nI np from n1, show nI np + 1 = nI (np + 1) from nI_add np 1]
      exact d2
    · rw [if_pos (by rw [hyq]; omega), vgr_l2 hm e c]
      exact c_split h hx hP hn
end
end
section
/-! ===== the class: the words that are places are turned, where the frames still lie ===== -/
def TG (mm w : Nat → Int32) (n : Nat) (fr : Nat → vF) (ql pl pl' : Nat → Nat) (be i k0 : Nat) : Prop := ∀ j, j < n → mm (ql j) = (if j = 0 then -1 else nI ((if be ≤ j then pl' else pl) (j - 1))) ∧ mm (ql j + 1) = nI (fr j).2.2.2.1 ∧ ∀ k, k < vsz w (fr j).1 → mm (ql j + 2 + k) = vsw w (if i < j ∨ i = j ∧ k < k0 then pl' else pl) (fr j) k
section
variable {W mm : Nat → Int32} {n : Nat} {fr : Nat → vF} {ql pl pl' : Nat → Nat} {lim be : Nat}
theorem TG.next {i k : Nat} (hT : TH W n fr ql pl pl' lim) (hi : i < n) (hk : k < vsz W (fr i).1) (h : TG mm W n fr ql pl pl' be i k) : TG (mj_upd mm (ql i + 2 + k) (vsw W pl' (fr i) k)) W n fr ql pl pl' be i (k + 1) := by
  intro j hj
  obtain ⟨h1, h2, h3⟩ := h j hj
  have hz := (hT.2.1 i hi).2
  by_cases e : i = j
  · subst e
    refine ⟨by rw [mj_upd_ne (by omega)]; exact h1, by rw [mj_upd_ne (by omega)]; exact h2, fun k' hk' => ?_⟩
    by_cases ek : k' = k
    · subst ek
      rw [mj_upd_self, if_pos (Or.inr ⟨rfl, by omega⟩)]
    · rw [mj_upd_ne (by omega), h3 k' hk']
      by_cases c : k' < k
      · rw [if_pos (Or.inr ⟨rfl, c⟩), if_pos (Or.inr ⟨rfl, by omega⟩)]
      · rw [if_neg (by omega), if_neg (by omega)]
  · have hd := hT.2.2.1 i j hi hj e
    unfold vwd at hd hz
    refine ⟨by rw [mj_upd_ne (by omega)]; exact h1, by rw [mj_upd_ne (by omega)]; exact h2, fun k' hk' => ?_⟩
    rw [mj_upd_ne (by omega), h3 k' hk']
    by_cases c : i < j
    · rw [if_pos (Or.inl c), if_pos (Or.inl c)]
    · rw [if_neg (by omega), if_neg (by omega)]
theorem TG.skip {i k : Nat} (hk : k < vsz W (fr i).1) (h : TG mm W n fr ql pl pl' be i k) (he : vsw W pl' (fr i) k = vsw W pl (fr i) k) : TG mm W n fr ql pl pl' be i (k + 1) := by
  intro j hj
  obtain ⟨h1, h2, h3⟩ := h j hj
  refine ⟨h1, h2, fun k' hk' => ?_⟩
  rw [h3 k' hk']
  by_cases e : i = j
  · subst e
    by_cases ek : k' = k
    · subst ek
      rw [if_neg (by omega), if_pos (Or.inr ⟨rfl, by omega⟩), he]
    · by_cases c : k' < k
      · rw [if_pos (Or.inr ⟨rfl, c⟩), if_pos (Or.inr ⟨rfl, by omega⟩)]
      · rw [if_neg (by omega), if_neg (by omega)]
  · by_cases c : i < j
    · rw [if_pos (Or.inl c), if_pos (Or.inl c)]
    · rw [if_neg (by omega), if_neg (by omega)]
theorem TG.base {i : Nat} (hT : TH W n fr ql pl pl' lim) (hi : i < n) (h : TG mm W n fr ql pl pl' (i + 1) i 0) : TG (mj_upd mm (ql i) (if i = 0 then -1 else nI (pl' (i - 1)))) W n fr ql pl pl' i i 0 := by
  intro j hj
  obtain ⟨h1, h2, h3⟩ := h j hj
  by_cases e : i = j
  · subst e
    refine ⟨?_, by rw [mj_upd_ne (by omega)]; exact h2, fun k hk => by rw [mj_upd_ne (by omega)]; exact h3 k hk⟩
    rw [mj_upd_self, if_pos (Nat.le_refl i)]
  · have hd := hT.2.2.1 i j hi hj e
    unfold vwd at hd
    refine ⟨?_, by rw [mj_upd_ne (by omega)]; exact h2, fun k hk => by rw [mj_upd_ne (by omega)]; exact h3 k hk⟩
    rw [mj_upd_ne (by omega), h1]
    by_cases c : i + 1 ≤ j
    · simp only [if_pos c, if_pos (show i ≤ j by omega)]
    · simp only [if_neg c, if_neg (show ¬ i ≤ j by omega)]
theorem TG.down {i : Nat} (h : TG mm W n fr ql pl pl' be (i + 1) (vsz W (fr (i + 1)).1)) : TG mm W n fr ql pl pl' be i 0 := by
  intro j hj
  obtain ⟨h1, h2, h3⟩ := h j hj
  refine ⟨h1, h2, fun k hk => ?_⟩
  rw [h3 k hk]
  by_cases e : i + 1 = j
  · subst e
    rw [if_pos (Or.inr ⟨rfl, hk⟩), if_pos (Or.inl (by omega))]
  · by_cases c : i + 1 < j
    · rw [if_pos (Or.inl c), if_pos (Or.inl (by omega))]
    · rw [if_neg (by omega), if_neg (by omega)]
theorem TG.start (h : vMQ mm W n fr ql pl) (hn : 0 < n) : TG mm W n fr ql pl pl' n (n - 1) 0 := by
  intro j hj
  obtain ⟨h1, h2, h3⟩ := h j hj
  refine ⟨?_, h2, fun k hk => ?_⟩
  · rw [h1, if_neg (show ¬ n ≤ j by omega)]
  · rw [h3 k hk, if_neg (by omega)]
theorem TG.fin (h : TG mm W n fr ql pl pl' 0 0 (vsz W (fr 0).1)) : vMQ mm W n fr ql pl' := by
  intro j hj
  obtain ⟨h1, h2, h3⟩ := h j hj
  refine ⟨?_, h2, fun k hk => ?_⟩
  · rw [h1, if_pos (Nat.zero_le j)]
  · rw [h3 k hk, if_pos]
    by_cases e : j = 0
    · subst e; exact Or.inr ⟨rfl, hk⟩
    · exact Or.inl (by omega)
end
/-- goals of places of frames, as the pieces stand -/
def GC (b : Nat) (s0 : wt_S) (W : Nat → Int32) (n : Nat) (fr : Nat → vF) (pl pl' : Nat → Nat) : Prop := ∀ s : wt_S, (∀ c, b + 2 ≤ c → c ≤ b + 9 → s c = s0 c) → ∀ i, i < n → ∀ j, j < vwd W (fr i).1 → gX5_turned b s (nI (pl i + j)) = some (nI (pl' i + j), s)
/-- memory and walk alone -/
def WK (b : Nat) (s0 s : wt_S) : Prop := ∀ c, c ≠ b + 15 → c ≠ b + 16 → s c = s0 c
section
variable {W : Nat → Int32} {n : Nat} {fr : Nat → vF} {pl pl' : Nat → Nat} {s0 : wt_S} {b lim T : Nat}
theorem WK.u {s : wt_S} {c j : Nat} {v : Int32} (h : WK b s0 s) (hc : c = b + 15 ∨ c = b + 16) : WK b s0 (wt_u s c j v) := fun d h1 h2 => (wt_u_ne (by omega)).trans (h d h1 h2)
theorem WK.rp {s : wt_S} (h : WK b s0 s) (hb : 11 ≤ b) (hR : RP 5 s0 W) : RP 5 s W := by
  refine ⟨fun f hf => ?_, fun j hj => ?_⟩
  · rw [h _ (by omega) (by omega), h _ (by omega) (by omega), h _ (by omega) (by omega), h _ (by omega) (by omega)]; exact hR.1 f hf
  · rw [h _ (by omega) (by omega)]; exact hR.2 j hj
theorem c_turn_84 {K : wt_S → Int32 → Option (Unit × wt_S)} (hx : CX b lim) (hT : TH W n fr pl pl pl' lim) (hG : GC b s0 W n fr pl pl') (hR : RP 5 s0 W) {i : Nat} (hi : i < n) : ∀ (m k fu : Nat) (s : wt_S), k + m = vsz W (fr i).1 → m < fu → WK b s0 s → TG (s (b + 15)) W n fr pl pl pl' i i k →
    ∃ s', gX4_turnPlaces_84 b T K fu s (nI (i + 1)) (nI (pl i)) (nI (fr i).1) (nI (vsz W (fr i).1)) (nI k) = K s' (nI i) ∧ WK b s0 s' ∧ s' (b + 16) = s (b + 16) ∧ TG (s' (b + 15)) W n fr pl pl pl' i i (vsz W (fr i).1) ∧ ∀ x, (∀ j, j < n → x < pl j ∨ pl j + vwd W (fr j).1 ≤ x) → s' (b + 15) x = s (b + 15) x := by
  have hb := hx.b
  have hxm := hx.m
  have hf := hT.2.1 i hi
  have hzz := (hT.1.sz hf.1)
  have hw := hf.2
  unfold vwd at hw
  intro m
  induction m with
  | zero =>
    intro k fu s hk hfu hW hq
    obtain ⟨fu, rfl⟩ : ∃ m, fu = m + 1 := ⟨fu - 1, by omega⟩
    obtain rfl : k = vsz W (fr i).1 := by omega
    refine ⟨s, ?_, hW, rfl, hq, fun _ _ => rfl⟩
    rw [gX4_turnPlaces_84, if_pos (Int.le_refl _), nI_pred2]
  | succ m ih =>
    intro k fu s hk hfu hW hq
    obtain ⟨fu, rfl⟩ : ∃ m, fu = m + 1 := ⟨fu - 1, by omega⟩
    have hk1 : k < vsz W (fr i).1 := by omega
    obtain ⟨q1, q2, q3⟩ := hq i hi
    have q3 := q3 k hk1
    rw [if_neg (by omega)] at q3
    rw [gX4_turnPlaces_84, if_neg (by rw [nI_int (by omega), nI_int (by omega)]; omega), c_isPointer (hW.rp hb.1 hR) hf.1, cl_some, if_rb, show nI k + 1 = nI (k + 1) from nI_add k 1]
    rcases vsw_cases (W := W) (pl := pl) (pl' := pl') (F := fr i) (k := k) with ⟨c1, q, c2, c3, c4⟩ | ⟨c1, c2, c3, c4⟩ | ⟨c1, c2⟩
    · have hpq := hT.2.2.2.1 i hi k hk1 c1 q c2
      have hg := hG s (fun c h1 h2 => hW c (by omega) (by omega)) q.1 (by omega) (2 + q.2) (by unfold vwd; omega)
      rw [← Nat.add_assoc, ← Nat.add_assoc] at hg
      obtain ⟨s', a1, a2, a3, a4, a5⟩ := ih (k + 1) fu (wt_u s (b + 15) (pl i + 2 + k) (vsw W pl' (fr i) k)) (by omega) (by omega) (hW.u (Or.inl rfl)) (by rw [wt_u_at]; exact TG.next hT hi hk1 hq)
      refine ⟨s', ?_, a2, by rw [a3, wt_u_ne (by omega)], a4, fun x hx => ?_⟩
      · rw [if_pos c1, show nI (pl i) + 2 + nI k = nI (pl i + 2 + k) by rw [show nI (pl i) + 2 = nI (pl i + 2) from nI_add _ 2, nI_add], c_word (by omega), cl_some, q3, c3, hg, cl_some, c_put (by omega), cl_some, ← c4]
        exact a1
      · rw [a5 x hx, wt_u_nk (by have := hx i hi; unfold vwd at this; omega)]
    · obtain ⟨s', a1, a2, a3, a4, a5⟩ := ih (k + 1) fu (wt_u s (b + 15) (pl i + 2 + k) (-1)) (by omega) (by omega) (hW.u (Or.inl rfl)) (by
        rw [wt_u_at]
        have := TG.next (lim := lim) hT hi hk1 hq
        rw [c4] at this
        exact this)
      refine ⟨s', ?_, a2, by rw [a3, wt_u_ne (by omega)], a4, fun x hx => ?_⟩
      · rw [if_pos c1, show nI (pl i) + 2 + nI k = nI (pl i + 2 + k) by rw [show nI (pl i) + 2 = nI (pl i + 2) from nI_add _ 2, nI_add], c_word (by omega), cl_some, q3, c3, c_turned_m, cl_some, c_put (by omega), cl_some]
        exact a1
      · rw [a5 x hx, wt_u_nk (by have := hx i hi; unfold vwd at this; omega)]
    · rw [if_neg c1]
      exact ih (k + 1) fu s (by omega) (by omega) hW (TG.skip hk1 hq c2)
theorem c_turn_27 (hx : CX b lim) (hT : TH W n fr pl pl pl' lim) (hG : GC b s0 W n fr pl pl') (hR : RP 5 s0 W) (hn : n < 100000) (hTc : T ≠ b + 15 ∧ T ≠ b + 16) : ∀ (i fu : Nat) (s : wt_S), i < n → i + 1 < fu → WK b s0 s → s (b + 16) 1 = nI (pl i) → s (b + 16) 2 = nI (fr i).1 → TG (s (b + 15)) W n fr pl pl pl' (i + 1) i 0 →
    ∃ s1, gX4_turnPlaces_27 b T fu s (nI (i + 1)) = (wt_cl (gX5_turned b s1 (s1 T 11)) fun v2 s1 => (wt_wr s1 T 11 v2 fun s3 => some ((), s3))) ∧ WK b s0 s1 ∧ vMQ (s1 (b + 15)) W n fr pl pl' ∧ ∀ x, (∀ j, j < n → x < pl j ∨ pl j + vwd W (fr j).1 ≤ x) → s1 (b + 15) x = s (b + 15) x := by
  have hb := hx.b
  have hxm := hx.m
  intro i
  induction i with
  | zero =>
    intro fu s hi hfu hW w1 w2 hq
    obtain ⟨fu, rfl⟩ : ∃ m, fu = m + 2 := ⟨fu - 2, by omega⟩
    have hf := hT.2.1 0 hi
    have hw := hf.2
    unfold vwd at hw
    obtain ⟨q1, q2, q3⟩ := hq 0 hi
    rw [if_pos rfl] at q1
    have hz := hT.1.sz hf.1
    rw [gX4_turnPlaces_27, if_neg (by rw [nI_int (by omega), ci0]; omega)]
    unfold gX8_toCaller
    rw [w1, w2, show nI (pl 0) + 1 = nI (pl 0 + 1) from nI_add _ 1, c_word (by omega), cl_some, w1, c_word (by omega), cl_some, wr_eq, wr_eq, wr_eq, cl_some, q1]
    have hW1 : WK b s0 (wt_u (wt_u (wt_u s (b + 16) 1 (-1)) (b + 16) 2 ((s (b + 15) (pl 0 + 1) &&& 1023) >>> (5 &&& 31))) (b + 16) 3 (s (b + 15) (pl 0 + 1) &&& 31)) := ((hW.u (Or.inr rfl)).u (Or.inr rfl)).u (Or.inr rfl)
    have hm1 : wt_u (wt_u (wt_u s (b + 16) 1 (-1)) (b + 16) 2 ((s (b + 15) (pl 0 + 1) &&& 1023) >>> (5 &&& 31))) (b + 16) 3 (s (b + 15) (pl 0 + 1) &&& 31) (b + 15) = s (b + 15) := by rw [wt_u_ne (by omega), wt_u_ne (by omega), wt_u_ne (by omega)]
    generalize wt_u (wt_u (wt_u s (b + 16) 1 (-1)) (b + 16) 2 ((s (b + 15) (pl 0 + 1) &&& 1023) >>> (5 &&& 31))) (b + 16) 3 (s (b + 15) (pl 0 + 1) &&& 31) = s1 at *
    rw [c_sizeOf (hW1.rp hb.1 hR) hf.1, cl_some, hz.1, c_word (by omega), cl_some, hm1, q1, c_turned_m, cl_some, c_put (by omega), cl_some]
    obtain ⟨s2, a1, a2, a3, a4, a5⟩ := c_turn_84 (T := T) (K := gX4_turnPlaces_27 b T (fu + 1)) hx hT hG hR hi (vsz W (fr 0).1) 0 wt_N (wt_u s1 (b + 15) (pl 0) (-1)) (by omega) (by unfold wt_N; omega) (hW1.u (Or.inl rfl)) (by
      rw [wt_u_at, hm1]
      have := TG.base hT hi hq
      rw [if_pos rfl] at this
      exact this)
    rw [show (0 : Int32) = nI 0 from rfl, a1, gX4_turnPlaces_27, if_pos (by rw [nI_int (by omega), ci0]; omega)]
    refine ⟨s2, rfl, a2, TG.fin a4, fun x hx => ?_⟩
    rw [a5 x hx, wt_u_nk (by have := hx 0 hi; unfold vwd at this; omega), hm1]
  | succ i ih =>
    intro fu s hi hfu hW w1 w2 hq
    obtain ⟨fu, rfl⟩ : ∃ m, fu = m + 1 := ⟨fu - 1, by omega⟩
    have hf := hT.2.1 (i + 1) hi
    have hw := hf.2
    unfold vwd at hw
    have hb2 := hT.2.2.2.2.1 i hi
    obtain ⟨q1, q2, q3⟩ := hq (i + 1) hi
    rw [if_neg (by omega), if_neg (by omega)] at q1
    have q1 : s (b + 15) (pl (i + 1)) = nI (pl i) := q1
    have hz := hT.1.sz hf.1
    have hli := hT.2.2.2.2.2 i (by omega)
    rw [gX4_turnPlaces_27, if_neg (by rw [nI_int (by omega), ci0]; omega)]
    unfold gX8_toCaller
    rw [w1, w2, show nI (pl (i + 1)) + 1 = nI (pl (i + 1) + 1) from nI_add _ 1, c_word (by omega), cl_some, w1, c_word (by omega), cl_some, wr_eq, wr_eq, wr_eq, cl_some, q1, q2, (bk_at hb2.1).2.2.2.2, hb2.2]
    have hW1 : WK b s0 (wt_u (wt_u (wt_u s (b + 16) 1 (nI (pl i))) (b + 16) 2 (nI (fr i).1)) (b + 16) 3 (nI (fr (i + 1)).2.2.2.1 &&& 31)) := ((hW.u (Or.inr rfl)).u (Or.inr rfl)).u (Or.inr rfl)
    have hm1 : wt_u (wt_u (wt_u s (b + 16) 1 (nI (pl i))) (b + 16) 2 (nI (fr i).1)) (b + 16) 3 (nI (fr (i + 1)).2.2.2.1 &&& 31) (b + 15) = s (b + 15) := by rw [wt_u_ne (by omega), wt_u_ne (by omega), wt_u_ne (by omega)]
    have hk1 : wt_u (wt_u (wt_u s (b + 16) 1 (nI (pl i))) (b + 16) 2 (nI (fr i).1)) (b + 16) 3 (nI (fr (i + 1)).2.2.2.1 &&& 31) (b + 16) 1 = nI (pl i) := by rw [wt_u_nk (by omega), wt_u_nk (by omega), wt_u_self]
    have hk2 : wt_u (wt_u (wt_u s (b + 16) 1 (nI (pl i))) (b + 16) 2 (nI (fr i).1)) (b + 16) 3 (nI (fr (i + 1)).2.2.2.1 &&& 31) (b + 16) 2 = nI (fr i).1 := by rw [wt_u_nk (by omega), wt_u_self]
    generalize wt_u (wt_u (wt_u s (b + 16) 1 (nI (pl i))) (b + 16) 2 (nI (fr i).1)) (b + 16) 3 (nI (fr (i + 1)).2.2.2.1 &&& 31) = s1 at *
    have hg := hG s1 (fun c h1 h2 => hW1 c (by omega) (by omega)) i (by omega) 0 (by unfold vwd; omega)
    rw [Nat.add_zero, Nat.add_zero] at hg
    rw [c_sizeOf (hW1.rp hb.1 hR) hf.1, cl_some, hz.1, c_word (by omega), cl_some, hm1, q1, hg, cl_some, c_put (by omega), cl_some]
    obtain ⟨s2, a1, a2, a3, a4, a5⟩ := c_turn_84 (T := T) (K := gX4_turnPlaces_27 b T fu) hx hT hG hR hi (vsz W (fr (i + 1)).1) 0 wt_N (wt_u s1 (b + 15) (pl (i + 1)) (nI (pl' i))) (by omega) (by unfold wt_N; omega) (hW1.u (Or.inl rfl)) (by
      rw [wt_u_at, hm1]
      have := TG.base hT hi hq
      rw [if_neg (by omega)] at this
      exact this)
    rw [show (0 : Int32) = nI 0 from rfl, a1]
    obtain ⟨s3, d1, d2, d3, d4⟩ := ih fu s2 (by omega) (by omega) a2 (by rw [a3, wt_u_ne (by omega)]; exact hk1) (by rw [a3, wt_u_ne (by omega)]; exact hk2) (TG.down a4)
    refine ⟨s3, d1, d2, d3, fun x hx => ?_⟩
    rw [d4 x hx, a5 x hx, wt_u_nk (by have := hx (i + 1) hi; unfold vwd at this; omega), hm1]
theorem c_turns {s : wt_S} (hx : CX b lim) (hTc : T ≠ b + 15 ∧ T ≠ b + 16) (hn : n < 100000) (h4 : s T 4 = nI n) (h11 : s T 11 = if n = 0 then -1 else nI (pl (n - 1))) (h9 : 0 < n → s T 9 = nI (fr (n - 1)).1) (hT : 0 < n → TH W n fr pl pl pl' lim) (hG : GC b s W n fr pl pl') (hR : RP 5 s W) (hq : vMQ (s (b + 15)) W n fr pl pl) :
    ∃ s', gX4_turnPlaces b T s = some ((), s') ∧ (∀ c, c ≠ b + 15 → c ≠ b + 16 → c ≠ T → s' c = s c) ∧ s' T = mj_upd (s T) 11 (if n = 0 then -1 else nI (pl' (n - 1))) ∧ vMQ (s' (b + 15)) W n fr pl pl' ∧ ∀ x, (∀ j, j < n → x < pl j ∨ pl j + vwd W (fr j).1 ≤ x) → s' (b + 15) x = s (b + 15) x := by
  have hb := hx.b
  unfold gX4_turnPlaces gX8_toLast
  rw [wr_eq, wr_eq, wr_eq, cl_some]
  have hWs : ∀ v1 v2 v3, WK b s (wt_u (wt_u (wt_u s (b + 16) 1 v1) (b + 16) 2 v2) (b + 16) 3 v3) := fun v1 v2 v3 => ((WK.u (fun _ _ _ => rfl) (Or.inr rfl)).u (Or.inr rfl)).u (Or.inr rfl)
  rw [wt_u_ne hTc.2, wt_u_ne hTc.2, wt_u_ne hTc.2, wt_u_ne hTc.2, wt_u_ne hTc.2, wt_u_ne hTc.2, h4, h11]
  by_cases c : n = 0
  · subst c
    rw [if_pos rfl]
    have hW1 := hWs (-1) (s T 9) (s T 10)
    have hm1 : wt_u (wt_u (wt_u s (b + 16) 1 (-1)) (b + 16) 2 (s T 9)) (b + 16) 3 (s T 10) (b + 15) = s (b + 15) := by rw [wt_u_ne (by omega), wt_u_ne (by omega), wt_u_ne (by omega)]
    generalize wt_u (wt_u (wt_u s (b + 16) 1 (-1)) (b + 16) 2 (s T 9)) (b + 16) 3 (s T 10) = s1 at *
    have hT1 : s1 T = s T := hW1 T hTc.1 hTc.2
    have : ∃ k, wt_N = k + 1 := ⟨2099999999, rfl⟩
    obtain ⟨k, hk⟩ := this
    rw [hk, gX4_turnPlaces_27, if_pos (by rw [nI_int (by omega), ci0]; omega), hT1, h11, if_pos rfl, c_turned_m, cl_some, wr_eq]
    refine ⟨_, rfl, fun c h1 h2 h3 => by rw [wt_u_ne h3, hW1 c h1 h2], by rw [wt_u_at, hT1, if_pos rfl], fun j hj => absurd hj (by omega), fun x _ => by rw [wt_u_ne (Ne.symm hTc.1), hm1]⟩
  · rw [if_neg c, h9 (by omega)]
    have hW1 := hWs (nI (pl (n - 1))) (nI (fr (n - 1)).1) (s T 10)
    have hm1 : wt_u (wt_u (wt_u s (b + 16) 1 (nI (pl (n - 1)))) (b + 16) 2 (nI (fr (n - 1)).1)) (b + 16) 3 (s T 10) (b + 15) = s (b + 15) := by rw [wt_u_ne (by omega), wt_u_ne (by omega), wt_u_ne (by omega)]
    have hk1 : wt_u (wt_u (wt_u s (b + 16) 1 (nI (pl (n - 1)))) (b + 16) 2 (nI (fr (n - 1)).1)) (b + 16) 3 (s T 10) (b + 16) 1 = nI (pl (n - 1)) := by rw [wt_u_nk (by omega), wt_u_nk (by omega), wt_u_self]
    have hk2 : wt_u (wt_u (wt_u s (b + 16) 1 (nI (pl (n - 1)))) (b + 16) 2 (nI (fr (n - 1)).1)) (b + 16) 3 (s T 10) (b + 16) 2 = nI (fr (n - 1)).1 := by rw [wt_u_nk (by omega), wt_u_self]
    generalize wt_u (wt_u (wt_u s (b + 16) 1 (nI (pl (n - 1)))) (b + 16) 2 (nI (fr (n - 1)).1)) (b + 16) 3 (s T 10) = s1 at *
    have hT := hT (by omega)
    have hli := hT.2.2.2.2.2 (n - 1) (by omega)
    have hxm := hx.m
    have hst := TG.start (pl' := pl') hq (by omega)
    rw [← hm1] at hst
    obtain ⟨s2, a1, a2, a3, a4⟩ := c_turn_27 (T := T) hx hT hG hR hn hTc (n - 1) wt_N s1 (by omega) (by unfold wt_N; omega) hW1 hk1 hk2 (by rw [show n - 1 + 1 = n by omega]; exact hst)
    rw [show nI n = nI (n - 1 + 1) by rw [show n - 1 + 1 = n by omega], a1]
    have hT2 : s2 T = s T := a2 T hTc.1 hTc.2
    have hg := hG s2 (fun c h1 h2 => a2 c (by omega) (by omega)) (n - 1) (by omega) 0 (by unfold vwd; omega)
    rw [Nat.add_zero, Nat.add_zero] at hg
    rw [hT2, h11, if_neg c, hg, cl_some, wr_eq]
    refine ⟨_, rfl, fun c h1 h2 h3 => by rw [wt_u_ne h3, a2 c h1 h2], by rw [wt_u_at, hT2, if_neg c], by rw [wt_u_ne (Ne.symm hTc.1)]; exact a3, fun x hx => by rw [wt_u_ne (Ne.symm hTc.1), a4 x hx, hm1]⟩
end
end
section
/-! ===== the class: a copied stack moves ===== -/
theorem nI_turn {p g a : Nat} (h : a ≤ p) : nI p + (nI g - nI a) = nI (g + (p - a)) := by
  rw [Int32.sub_eq_add_neg, ← Int32.add_assoc, nI_add, ← Int32.sub_eq_add_neg, nI_sub (by omega), show p + g - a = g + (p - a) by omega]
theorem vins_lt {q : vP} {l : List vP} (h : ∀ p ∈ l, q.1 < p.1) : vins q l = q :: l := by
  cases l with
  | nil => rfl
  | cons p l =>
    unfold vins
    rw [if_pos (h p List.mem_cons_self)]
theorem vins_cons {q p : vP} {ps : List vP} : vins q (p :: ps) = if q.1 < p.1 then q :: p :: ps else p :: vins q ps := rfl
theorem vins_flt {lim : Nat} {q : vP} {P : vP → Bool} (hP : P q = true) : ∀ {ps : List vP}, vo lim ps → (vins q ps).filter P = vins q (ps.filter P) := by
  intro ps
  induction ps with
  | nil =>
    intro _
    show [q].filter P = [q]
    rw [List.filter_cons_of_pos hP]; rfl
  | cons p ps ih =>
    intro ho
    have hh := vo_head ho
    have hp := ho.2 p List.mem_cons_self
    rw [vins_cons]
    by_cases c : q.1 < p.1
    · rw [if_pos c, List.filter_cons_of_pos hP]
      exact (vins_lt (fun r hr => by
        rcases List.mem_cons.mp (List.mem_filter.mp hr).1 with rfl | hr
        · exact c
        · have := hh r hr; omega)).symm
    · rw [if_neg c]
      cases e : P p with
      | true => rw [List.filter_cons_of_pos e, List.filter_cons_of_pos e, ih (vo_tail ho), vins_cons, if_neg c]
      | false => rw [List.filter_cons_of_neg (by simp [e]), List.filter_cons_of_neg (by simp [e]), ih (vo_tail ho)]
theorem vins_map {q : vP} {f : vP → vP} (hf : ∀ p, (f p).1 = p.1) : ∀ {ps : List vP}, (vins q ps).map f = vins (f q) (ps.map f) := by
  intro ps
  induction ps with
  | nil => rfl
  | cons p ps ih =>
    show (if q.1 < p.1 then q :: p :: ps else p :: vins q ps).map f = if (f q).1 < (f p).1 then f q :: f p :: ps.map f else f p :: vins (f q) (ps.map f)
    rw [hf, hf]
    split
    · rfl
    · rw [← ih]; rfl
theorem MR.mem {mm mm' w : Nat → Int32} {n : Nat} {fr : Nat → vF} {pl : Nat → Nat} (h : MR mm w n fr pl) (he : ∀ i, i < n → ∀ j, j < vwd w (fr i).1 → mm' (pl i + j) = mm (pl i + j)) : MR mm' w n fr pl := by
  intro i hi
  obtain ⟨h1, h2, h3, h4⟩ := h i hi
  have e0 := he i hi 0 (by unfold vwd; omega)
  have e1 := he i hi 1 (by unfold vwd; omega)
  rw [Nat.add_zero] at e0
  refine ⟨h1, by rw [e0]; exact h2, by rw [e1]; exact h3, fun k hk => ?_⟩
  rw [Nat.add_assoc, he i hi (2 + k) (by unfold vwd; omega), ← Nat.add_assoc]
  exact h4 k hk
theorem vud_us {w : Nat → Int32} {fr : Nat → vF} : ∀ {n : Nat}, (∀ i, i < n → (fr i).2.1 = 0) → vud w fr 0 n = vus w fr n := by
  intro n
  induction n with
  | zero => intro _; rfl
  | succ n ih =>
    intro h
    show vud w fr 0 n + _ = vus w fr n + _
    rw [ih (fun i hi => h i (by omega)), if_pos (h n (by omega))]
section
variable {b lim : Nat} {s s' : wt_S} {V V' : vV} {zs zs' : List (vP × Nat)} {fr fr' : List Nat} {t np z need : Nat}
/-- numbers of pieces are not stored -/
theorem PC.map (h : PC b lim s zs fr) {f : vP × Nat → vP × Nat} (hf : ∀ z ∈ zs, (f z).2 = z.2 ∧ (f z).1.1 = z.1.1 ∧ (f z).1.2.1 = z.1.2.1 ∧ (f z).1.2.2.1 = z.1.2.2.1) : PC b lim s (zs.map f) fr := by
  have hids : zids (zs.map f) fr = zids zs fr := by
    unfold zids
    rw [List.map_map]
    congr 1
    exact List.map_congr_left (fun z hz => (hf z hz).1)
  have hva : ∀ l : List (vP × Nat), (∀ z ∈ l, (f z).1.2.1 = z.1.2.1) → vall ((l.map f).map Prod.fst) = vall (l.map Prod.fst) := fun l => by
    induction l with
    | nil => intro _; rfl
    | cons z l ih =>
      intro hz
      show (f z).1.2.1 + vall ((l.map f).map Prod.fst) = z.1.2.1 + vall (l.map Prod.fst)
      rw [ih (fun y hy => hz y (List.mem_cons_of_mem _ hy)), hz z List.mem_cons_self]
  refine ⟨by rw [List.length_map]; exact h.1, by rw [hva zs (fun z hz => (hf z hz).2.2.1)]; exact h.2.1, h.2.2.1, by rw [hids]; exact h.2.2.2.1, by rw [hids]; exact h.2.2.2.2.1, by rw [hids]; exact h.2.2.2.2.2.1, by rw [hids]; exact h.2.2.2.2.2.2.1, fun z hz => ?_⟩
  obtain ⟨z0, hz0, rfl⟩ := List.mem_map.mp hz
  obtain ⟨f1, f2, f3, f4⟩ := hf z0 hz0
  rw [f1, f2, f3, f4]
  exact (h.mem hz0).2
theorem TH.of {pl' : Nat → Nat} (hj : VJ lim V) (ht : t < 6) (h0 : 0 < V.2.2.1 t) : TH V.1 (V.2.2.1 t) (V.2.2.2 t) (vpl V t) (vpl V t) pl' lim := by
  obtain ⟨np, h1, h2, h3⟩ := hj.geo ht h0
  refine ⟨hj.1, fun i hi => ⟨(hj.fit ht hi).1, (hj.fit ht hi).2.2⟩, fun i j hi hj2 hne => hj.dj ht ht hi hj2 (fun e => hne e.2), fun i hi k hk hb q hq => ?_, fun i hi => ?_, fun i hi => (hj.fit ht hi).2.2⟩
  · obtain ⟨a1, a2, -⟩ := h3.2.2.2.2.2 i hi k hk hb q hq
    exact ⟨a1, a2⟩
  · obtain ⟨b1, b2, -⟩ := h3.2.2.1 i hi
    exact ⟨b1, b2⟩
theorem VM.q {mm : Nat → Int32} (h : VM mm V) (ht : t < 6) : vMQ mm V.1 (V.2.2.1 t) (V.2.2.2 t) (vpl V t) (vpl V t) := fun i hi => (h t ht i hi).2
/-- words are brought over -/
theorem c_bring {from' to u : Nat} (hx : CX b lim) (h1 : from' + u ≤ lim) (h2 : to + u ≤ lim) : ∃ s', gX3_bring b s (nI from') (nI to) (nI u) = some ((), s') ∧ (∀ c, c ≠ b + 15 → s' c = s c) ∧ (∀ j, j < u → s' (b + 15) (to + j) = s (b + 15) (from' + j)) ∧ ∀ x, x < to ∨ to + u ≤ x → s' (b + 15) x = s (b + 15) x := by
  have hxm := hx.m
  unfold gX3_bring
  by_cases c : u = 0
  · subst c
    rw [if_pos (by rw [nI_int (by omega), ci0]; omega)]
    exact ⟨s, rfl, fun _ _ => rfl, fun j hj => absurd hj (by omega), fun _ _ => rfl⟩
  · have hm : Int32.ofInt (Int.ofNat (wt_mz b)) = nI (wt_mz b) := Int32.ofInt_eq_ofNat
    rw [if_neg (by rw [nI_int (by omega), ci0]; omega), if_neg (c_lo (by omega)), hm, nI_sub (by omega), if_neg (by rw [nI_int (by omega), nI_int (by omega)]; omega), if_neg (c_lo (by omega)), if_neg (by rw [nI_int (by omega), nI_int (by omega)]; omega), c_ac (by omega) (by omega) (by omega) (by omega)]
    refine ⟨_, rfl, fun c hc => wt_uf_ne hc, fun j hj => ?_, fun x hx => ?_⟩
    · rw [wt_uf_at, mj_cpy_in (by omega) (by omega), show from' + (to + j - to) = from' + j by omega]
    · rw [wt_uf_at, mj_cpy_out (by omega)]
end
end
