/-! ===== the class: scalars are written ===== -/
def VFR (V : vV) : Prop := ∀ k, k < 6 → ∀ i, i < V.2.2.1 k → (V.2.2.2 k i).1 < 10
/-- cells and fields that stay -/
def KT (b : Nat) (s s' : wt_S) : Prop := (∀ c, (5 ≤ c ∧ c ≤ 10) ∨ (b + 2 ≤ c ∧ c ≤ b + 8) ∨ c = b + 15 → s' c = s c) ∧ ∀ k, k < 6 → ∀ j, j = 10 ∨ j = 11 ∨ j = 12 ∨ j = 13 ∨ j = 15 → s' (b + 17 + 2 * k) j = s (b + 17 + 2 * k) j
section
variable {b lim : Nat} {s s' : wt_S} {V V' : vV} {zs : List (vP × Nat)} {fr : List Nat} {t : Nat}
theorem VJ.vfr (h : VJ lim V) : VFR V := fun k hk i hi => (h.fit hk hi).1
theorem RC.sc (h : RC b lim s V zs fr) (hx : CX b lim) (hp : Ipr V.1) (hf : VFR V) (h2 : V'.2 = V.2) (hw : vpe V.1 V'.1) (hg : CG b s' V'.1) (hks : ∀ k, k < 6 → Ks b s' V'.1 k) (hc : KT b s s') (hv : ∀ k, k < 6 → V'.1 (3968 + k) = V.1 (3968 + k) ∧ V'.1 (4066 + k) = V.1 (4066 + k) ∧ V'.1 (4052 + k) = V.1 (4052 + k) ∧ (V'.1 (3926 + k) ≠ 0 → V.1 (3926 + k) ≠ 0)) : RC b lim s' V' zs fr := by
  obtain ⟨W, R⟩ := V'
  have h2 : R = V.2 := h2
  subst h2
  have hb := hx.b
  obtain ⟨h1, h2, -, h4, h5, h6⟩ := h
  refine ⟨h1, h2.eq (fun c hc' => hc.1 c (by omega)), hg, fun k hk => ?_, ?_, h6.eq hp hw (fun c c1 c2 => hc.1 c (by omega))⟩
  · obtain ⟨-, ⟨l1, l2⟩, ⟨p1, p2⟩, ⟨r1, r2⟩, g, z⟩ := h4 k hk
    obtain ⟨v1, v2, v3, v4⟩ := hv k hk
    have c := hc.2 k hk
    refine ⟨hks k hk, ⟨?_, ?_⟩, ⟨?_, ?_⟩, ⟨?_, ?_⟩, ?_, ?_⟩
    · rw [c 10 (by omega), c 11 (by omega)]; exact l1
    · rw [c 10 (by omega), c 11 (by omega)]
      rw [v1]; exact l2
    · rw [c 12 (by omega)]
      rw [v2]; exact p1
    · rw [c 12 (by omega)]
      rw [v2]; exact p2
    · rw [c 13 (by omega)]; exact r1
    · rw [c 13 (by omega)]; exact r2
    · intro hn
      rw [c 15 (by omega)]
      rw [v3]
      exact g (v4 hn)
    · intro z1 hz1 hz2
      have := z z1 hz1 hz2
      rw [hc.1 (b + 5) (by omega), hc.1 (b + 6) (by omega), show vud (W, V.2).1 ((W, V.2).2.2.2 k) z1.1.2.2.2 ((W, V.2).2.2.1 k) = vud V.1 (V.2.2.2 k) z1.1.2.2.2 (V.2.2.1 k) from vud_pe hw (hf k hk)]
      exact this
  · rw [hc.1 (b + 15) (by omega)]
    exact fun k hk => MR_w (fun i i1 i2 => hw i (Or.inl (by omega))) (h5 k hk)
theorem KT.refl : KT b s s := ⟨fun _ _ => rfl, fun _ _ _ _ => rfl⟩
/-- a place that is not looked at -/
theorem RC.v (h : RC b lim s V zs fr) (hx : CX b lim) (hp : Ipr V.1) (hf : VFR V) {i : Nat} {v : Int32} (hi : i = 2066 ∨ i = 2067 ∨ (3923 ≤ i ∧ i < 3926)) : RC b lim s (vs V i v) zs fr := by
  have e : ∀ j, j ≠ i → (vs V i v).1 j = V.1 j := fun j hj => vs_ne hj
  refine h.sc hx hp hf rfl (vpe.upd (by omega)) ⟨fun j hj => ?_, fun j hj => ?_⟩ (fun k hk => ?_) KT.refl (fun k hk => ?_)
  · rw [e _ (by omega)]; exact h.2.2.1.1 j hj
  · rw [e _ (by omega)]; exact h.2.2.1.2 j hj
  · obtain ⟨a0, a1, a2⟩ := (h.2.2.2.1 k hk).1
    refine ⟨a0, fun e' he' => ?_, fun e' he' => ?_⟩
    · have := tf_p e' he'
      rw [e _ (by omega)]; exact a1 e' he'
    · have := ts_p e' he'
      rw [e _ (by omega)]; exact a2 e' he'
  · rw [e _ (by omega), e _ (by omega), e _ (by omega), e _ (by omega)]
    exact ⟨rfl, rfl, rfl, id⟩
/-- a field of a task -/
theorem RC.ut (h : RC b lim s V zs fr) (hx : CX b lim) (hp : Ipr V.1) (hf : VFR V) (ht : t < 6) {e : Nat × Nat} (he : e ∈ tf) {v : Int32} (h0 : e.2 = 3926 → v ≠ 0 → V.1 (3926 + t) ≠ 0) : RC b lim (wt_u s (b + 17 + 2 * t) e.1 v) (vs V (e.2 + t) v) zs fr := by
  have ep := tf_p e he
  have en := tf_n e he
  have e2 : ∀ j, j ≠ e.2 + t → (vs V (e.2 + t) v).1 j = V.1 j := fun j hj => vs_ne hj
  refine h.sc hx hp hf rfl (vpe.upd (by omega)) ⟨fun j hj => ?_, fun j hj => ?_⟩ (fun k hk => ?_) ⟨fun c hc => wt_u_ne (by omega), fun k hk j hj => ?_⟩ (fun k hk => ?_)
  · rw [wt_u_ne (by omega), e2 _ (by omega)]; exact h.2.2.1.1 j hj
  · rw [wt_u_ne (by omega), e2 _ (by omega)]; exact h.2.2.1.2 j hj
  · obtain ⟨a0, a1, a2⟩ := (h.2.2.2.1 k hk).1
    by_cases c : k = t
    · subst c
      refine ⟨?_, fun e' he' => ?_, fun e' he' => ?_⟩
      · rw [wt_u_nk (by omega)]; exact a0
      · by_cases c2 : e'.1 = e.1
        · have c3 := (tf_i e' he' e he).mp c2
          rw [c2, c3, wt_u_self, vs_at]
        · have c3 : e'.2 ≠ e.2 := fun q => c2 ((tf_i e' he' e he).mpr q)
          rw [wt_u_nk c2, e2 _ (by omega)]; exact a1 e' he'
      · have := ft_i e he e' he'
        rw [wt_u_ne (by omega), e2 _ (by omega)]; exact a2 e' he'
    · refine ⟨?_, fun e' he' => ?_, fun e' he' => ?_⟩
      · rw [wt_u_ne (by omega)]; exact a0
      · have := tf_p e' he'
        rw [wt_u_ne (by omega), e2 _ (by omega)]; exact a1 e' he'
      · have := ts_p e' he'
        rw [wt_u_ne (by omega), e2 _ (by omega)]; exact a2 e' he'
  · by_cases c : k = t
    · subst c
      rw [wt_u_nk (by omega)]
    · rw [wt_u_ne (by omega)]
  · rw [e2 _ (by omega), e2 _ (by omega), e2 _ (by omega)]
    refine ⟨rfl, rfl, rfl, fun hn => ?_⟩
    by_cases c : 3926 + k = e.2 + t
    · have c1 : k = t ∧ e.2 = 3926 := by omega
      rw [c] at hn
      rw [vs_at] at hn
      rw [c1.1]
      exact h0 c1.2 hn
    · rw [e2 _ c] at hn; exact hn
/-- a sum of a task -/
theorem RC.us (h : RC b lim s V zs fr) (hx : CX b lim) (hp : Ipr V.1) (hf : VFR V) (ht : t < 6) {e : Nat × Nat} (he : e ∈ ts) {v : Int32} : RC b lim (wt_u s (b + 17 + 2 * t + 1) e.1 v) (vs V (e.2 + t) v) zs fr := by
  have ep := ts_p e he
  have en := ts_n e he
  have e2 : ∀ j, j ≠ e.2 + t → (vs V (e.2 + t) v).1 j = V.1 j := fun j hj => vs_ne hj
  have e3 : e.2 ≠ 3926 := ft_i (1, 3926) (by decide) e he |> fun q => Ne.symm q
  refine h.sc hx hp hf rfl (vpe.upd (by omega)) ⟨fun j hj => ?_, fun j hj => ?_⟩ (fun k hk => ?_) ⟨fun c hc => wt_u_ne (by omega), fun k hk j hj => ?_⟩ (fun k hk => ?_)
  · rw [wt_u_ne (by omega), e2 _ (by omega)]; exact h.2.2.1.1 j hj
  · rw [wt_u_ne (by omega), e2 _ (by omega)]; exact h.2.2.1.2 j hj
  · obtain ⟨a0, a1, a2⟩ := (h.2.2.2.1 k hk).1
    refine ⟨?_, fun e' he' => ?_, fun e' he' => ?_⟩
    · rw [wt_u_ne (by omega)]; exact a0
    · have := tf_p e' he'
      have := ft_i e' he' e he
      rw [wt_u_ne (by omega), e2 _ (by omega)]; exact a1 e' he'
    · by_cases c : k = t
      · subst c
        by_cases c2 : e'.1 = e.1
        · have c3 := (ts_i e' he' e he).mp c2
          rw [c2, c3, wt_u_self, vs_at]
        · have c3 : e'.2 ≠ e.2 := fun q => c2 ((ts_i e' he' e he).mpr q)
          rw [wt_u_nk c2, e2 _ (by omega)]; exact a2 e' he'
      · have := ts_p e' he'
        rw [wt_u_ne (by omega), e2 _ (by omega)]; exact a2 e' he'
  · rw [wt_u_ne (by omega)]
  · rw [e2 _ (by omega), e2 _ (by omega), e2 _ (by omega), e2 _ (by omega)]
    exact ⟨rfl, rfl, rfl, id⟩
/-- what is counted of all -/
theorem RC.uc (h : RC b lim s V zs fr) (hx : CX b lim) (hp : Ipr V.1) (hf : VFR V) {k : Nat} (hk : k < 12) {v : Int32} : RC b lim (wt_u s (b + 13) k v) (vs V (2054 + k) v) zs fr := by
  have e2 : ∀ j, j ≠ 2054 + k → (vs V (2054 + k) v).1 j = V.1 j := fun j hj => vs_ne hj
  refine h.sc hx hp hf rfl (vpe.upd (by omega)) ⟨fun j hj => ?_, fun j hj => ?_⟩ (fun k hk => ?_) ⟨fun c hc => wt_u_ne (by omega), fun k hk j hj => by rw [wt_u_ne (by omega)]⟩ (fun k hk => ?_)
  · rw [wt_u_ne (by omega), e2 _ (by omega)]; exact h.2.2.1.1 j hj
  · by_cases c : j = k
    · subst c
      rw [wt_u_self, vs_at]
    · rw [wt_u_nk c, e2 _ (by omega)]; exact h.2.2.1.2 j hj
  · obtain ⟨a0, a1, a2⟩ := (h.2.2.2.1 k hk).1
    refine ⟨?_, fun e' he' => ?_, fun e' he' => ?_⟩
    · rw [wt_u_ne (by omega)]; exact a0
    · have := tf_p e' he'
      rw [wt_u_ne (by omega), e2 _ (by omega)]; exact a1 e' he'
    · have := ts_p e' he'
      rw [wt_u_ne (by omega), e2 _ (by omega)]; exact a2 e' he'
  · rw [e2 _ (by omega), e2 _ (by omega), e2 _ (by omega), e2 _ (by omega)]
    exact ⟨rfl, rfl, rfl, id⟩
/-- fields that are not looked at: REACH, sums that no question shows -/
theorem RC.ux (h : RC b lim s V zs fr) (hx : CX b lim) (hp : Ipr V.1) (hf : VFR V) (ht : t < 6) {c j : Nat} {v : Int32} (hc : (c = b + 17 + 2 * t ∧ j = 14) ∨ (c = b + 17 + 2 * t + 1 ∧ (j < 2 ∨ 8 < j))) : RC b lim (wt_u s c j v) V zs fr := by
  have t1 : ∀ e ∈ ts, 2 ≤ e.1 ∧ e.1 ≤ 8 := by decide
  have g : ∀ c' j', ¬ (c' = c ∧ j' = j) → wt_u s c j v c' j' = s c' j' := fun c' j' hn => by
    by_cases e : c' = c
    · subst e
      exact wt_u_nk (fun q => hn ⟨rfl, q⟩)
    · rw [wt_u_ne e]
  refine h.sc hx hp hf rfl vpe.refl ⟨fun j' hj => ?_, fun j' hj => ?_⟩ (fun k hk => ?_) ⟨fun c' hc' => wt_u_ne (by omega), fun k hk j' hj => g _ _ (by omega)⟩ (fun k hk => ⟨rfl, rfl, rfl, id⟩)
  · rw [g _ _ (by omega)]; exact h.2.2.1.1 j' hj
  · rw [g _ _ (by omega)]; exact h.2.2.1.2 j' hj
  · obtain ⟨a0, a1, a2⟩ := (h.2.2.2.1 k hk).1
    refine ⟨?_, fun e' he' => ?_, fun e' he' => ?_⟩
    · rw [g _ _ (by omega)]; exact a0
    · have := tf_n e' he'
      rw [g _ _ (by omega)]; exact a1 e' he'
    · have := t1 e' he'
      rw [g _ _ (by omega)]; exact a2 e' he'
theorem Ipr.vs1 {i : Nat} {v : Int32} (hp : Ipr V.1) (hi : (i < 2228 ∨ 2898 ≤ i) ∧ i ≠ 2050 ∧ i ≠ 2051) : Ipr (vs V i v).1 := hp.ww (vpe.upd hi)
/-- a sum grows, of the task and of all -/
theorem c_adds (h : RC b lim s V zs fr) (hx : CX b lim) (hp : Ipr V.1) (hf : VFR V) (ht : t < 6) {e : Nat × Nat} (he : e ∈ ts) {v : Int32} : ∃ s', gX9_add b (b + 17 + 2 * t) s (nI e.1) v = some ((), s') ∧ RC b lim s' (vcn (vs V (e.2 + t) (V.1 (e.2 + t) + v)) e.1 v) zs fr ∧ TO b t s s' ∧ (∀ c, c ≠ b + 13 → c ≠ b + 17 + 2 * t + 1 → s' c = s c) := by
  have ep := ts_p e he
  have t1 : ∀ e ∈ ts, 2 ≤ e.1 ∧ e.1 ≤ 8 := by decide
  have := t1 e he
  refine ⟨_, c_add (by omega) (by omega), ?_, (TO.u (by omega) ht).trans (TO.u (by omega) ht), fun c h1 h2 => by rw [wt_u_ne h1, wt_u_ne h2]⟩
  have a1 := h.us hx hp hf ht he (v := V.1 (e.2 + t) + v)
  have a2 := a1.uc hx (hp.vs1 (by omega)) hf (k := e.1) (by omega) (v := (vs V (e.2 + t) (V.1 (e.2 + t) + v)).1 (2054 + e.1) + v)
  rw [h.as ht he]
  have e3 : s (b + 13) e.1 = (vs V (e.2 + t) (V.1 (e.2 + t) + v)).1 (2054 + e.1) := by
    rw [vs_ne (by omega)]; exact h.2.2.1.2 e.1 (by omega)
  rw [e3]
  exact a2
/-- a sum that no question of a task shows -/
theorem c_addn (h : RC b lim s V zs fr) (hx : CX b lim) (hp : Ipr V.1) (hf : VFR V) (ht : t < 6) {k : Nat} (hk : k < 2 ∨ (8 < k ∧ k < 12)) {v : Int32} : ∃ s', gX9_add b (b + 17 + 2 * t) s (nI k) v = some ((), s') ∧ RC b lim s' (vcn V k v) zs fr ∧ TO b t s s' ∧ (∀ c, c ≠ b + 13 → c ≠ b + 17 + 2 * t + 1 → s' c = s c) := by
  refine ⟨_, c_add (by omega) (by omega), ?_, (TO.u (by omega) ht).trans (TO.u (by omega) ht), fun c h1 h2 => by rw [wt_u_ne h1, wt_u_ne h2]⟩
  have a1 := h.ux hx hp hf ht (c := b + 17 + 2 * t + 1) (j := k) (v := s (b + 17 + 2 * t + 1) k + v) (Or.inr ⟨rfl, by omega⟩)
  have a2 := a1.uc hx hp hf (k := k) (by omega) (v := V.1 (2054 + k) + v)
  rw [h.2.2.1.2 k (by omega)]
  exact a2
/-- a line of the log came -/
theorem c_logs (h : RC b lim s V zs fr) (hx : CX b lim) (hp : Ipr V.1) (hf : VFR V) {i1 : Int32} {i : Nat} (hi : i < 256) : ∃ s', gX9_writeLog b s i1 (nI i) = some ((), s') ∧ RC b lim s' (vlg1 V) zs fr ∧ LF b s s' := by
  obtain ⟨s', e1, e2⟩ := c_writeLog (b := b) (s := s) (i1 := i1) hi
  exact ⟨s', e1, (h.lf hx e2).v hx hp hf (by omega), e2⟩
end
