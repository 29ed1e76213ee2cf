/-! ===== what both sides stand for: scalars (by the reference's places), pieces, how many frames, frames ===== -/
/-- a frame: function, number of its piece, where in it, BACK, its numbers, its pointers (frame, slot) -/
abbrev vF : Type := Nat × Nat × Nat × Nat × (Nat → Int32) × (Nat → Option (Nat × Nat))
abbrev vV : Type := (Nat → Int32) × List vP × (Nat → Nat) × (Nat → Nat → vF)
def vsz (w : Nat → Int32) (f : Nat) : Nat := (w (2228 + f)).toInt.toNat
def vat (ps : List vP) (t n : Nat) : Nat := match ps.find? (vkey t n) with
  | some q => q.1
  | none => 0
def vln (ps : List vP) (t n : Nat) : Nat := match ps.find? (vkey t n) with
  | some q => q.2.1
  | none => 0
def vpl (V : vV) (t i : Nat) : Nat := vat V.2.1 t (V.2.2.2 t i).2.1 + (V.2.2.2 t i).2.2.1
/-- a slot's word -/
def vsw (w : Nat → Int32) (pl : Nat → Nat) (F : vF) (k : Nat) : Int32 := if bt (w (2238 + F.1)) k then (match F.2.2.2.2.2 k with
  | none => -1
  | some q => nI (pl q.1 + 2 + q.2)) else F.2.2.2.2.1 k
/-- frames as words -/
def MR (mm w : Nat → Int32) (n : Nat) (fr : Nat → vF) (pl : Nat → Nat) : Prop := ∀ i, i < n → (fr i).1 < 10 ∧ mm (pl i) = (if i = 0 then -1 else nI (pl (i - 1))) ∧ mm (pl i + 1) = nI (fr i).2.2.2.1 ∧ ∀ k, k < vsz w (fr i).1 → mm (pl i + 2 + k) = vsw w pl (fr i) k
def VM (mm : Nat → Int32) (V : vV) : Prop := ∀ t, t < 6 → MR mm V.1 (V.2.2.1 t) (V.2.2.2 t) (vpl V t)
/-- places of scalars that are kept in mind -/
def vtr (i : Nat) : Prop := (2048 ≤ i ∧ i ≤ 2067) ∨ (2228 ≤ i ∧ i < 2898) ∨ (3923 ≤ i ∧ i < 3926) ∨ (3926 ≤ i ∧ i < 4073 ∧ (i - 3926) % 7 ≠ 6)
/-- the reference's row -/
def RR (w : Nat → Int32) (V : vV) : Prop := (∀ i, vtr i → w i = V.1 i) ∧ vr_P w V.2.1 ∧ ∃ mm, (∀ p, p < 2048 → w p = mm p) ∧ VM mm V
/-- a scalar is set -/
def vs (V : vV) (i : Nat) (v : Int32) : vV := (mj_upd V.1 i v, V.2)
theorem MR_w {mm w w' : Nat → Int32} {n : Nat} {fr : Nat → vF} {pl : Nat → Nat} (h : ∀ i, 2228 ≤ i → i < 2248 → w' i = w i) (hM : MR mm w n fr pl) : MR mm w' n fr pl := by
  intro i hi
  obtain ⟨h1, h2, h3, h4⟩ := hM i hi
  refine ⟨h1, h2, h3, fun k hk => ?_⟩
  unfold vsz at hk
  rw [h _ (by omega) (by omega)] at hk
  rw [h4 k hk]
  unfold vsw
  rw [h _ (by omega) (by omega)]
theorem VM_vs {mm : Nat → Int32} {V : vV} {i : Nat} {v : Int32} (hi : i < 2228 ∨ 2248 ≤ i) (h : VM mm V) : VM mm (vs V i v) :=
  fun t ht => MR_w (fun j h1 h2 => mj_upd_ne (by omega)) (h t ht)
theorem vr_P_upd {w : Nat → Int32} {ps : List vP} {i : Nat} {v : Int32} (hi : vout i) (h : vr_P w ps) : vr_P (mj_upd w i v) ps := by
  obtain ⟨h1, h2, h3⟩ := h
  unfold vout at hi
  refine ⟨by rw [mj_upd_ne (by omega)]; exact h1, h2, fun x q hx => ?_⟩
  have hx2 := (List.getElem?_eq_some_iff.mp hx).1
  exact vrow_upd (by omega) (by omega) (h3 x q hx)
theorem vr_P_eq {w w' : Nat → Int32} {ps : List vP} (he : ∀ i, 2898 ≤ i → i < 3923 → w' i = w i) (h : vr_P w ps) : vr_P w' ps := by
  obtain ⟨h1, h2, h3⟩ := h
  refine ⟨by rw [he _ (by omega) (by omega)]; exact h1, h2, fun x q hx => ?_⟩
  have hx2 := (List.getElem?_eq_some_iff.mp hx).1
  have := h3 x q hx
  unfold vrow at this ⊢
  rw [he _ (by omega) (by omega), he _ (by omega) (by omega), he _ (by omega) (by omega), he _ (by omega) (by omega)]
  exact this
theorem vtr_out {i : Nat} (h : vtr i) : vout i ∧ 2048 ≤ i := by
  unfold vtr at h
  unfold vout
  omega
theorem RR.vs {w : Nat → Int32} {V : vV} {i : Nat} {v : Int32} (hi : vtr i) (hp : i < 2228 ∨ 2248 ≤ i) (h : RR w V) : RR (mj_upd w i v) (vs V i v) := by
  obtain ⟨h1, h2, mm, h3, h4⟩ := h
  have ho := vtr_out hi
  refine ⟨fun j hj => ?_, vr_P_upd ho.1 h2, mm, fun p hp => ?_, VM_vs hp h4⟩
  · by_cases e : j = i
    · subst e
      show mj_upd w j v j = mj_upd V.1 j v j
      rw [mj_upd_self, mj_upd_self]
    · show mj_upd w i v j = mj_upd V.1 i v j
      rw [mj_upd_ne e, mj_upd_ne e]
      exact h1 j hj
  · rw [mj_upd_ne (by omega)]
    exact h3 p hp
theorem RR.at {w : Nat → Int32} {V : vV} {i : Nat} (h : RR w V) (hi : vtr i) : w i = V.1 i := h.1 i hi
/-- pieces change, nothing else -/
theorem RR.ps {w w' : Nat → Int32} {V : vV} {ps : List vP} (h : RR w V) (h1 : ∀ i, vout i → w' i = w i) (h2 : vr_P w' ps) (h3 : ∀ mm, VM mm V → VM mm (V.1, ps, V.2.2)) : RR w' (V.1, ps, V.2.2) := by
  obtain ⟨g1, -, mm, g3, g4⟩ := h
  refine ⟨fun i hi => ?_, h2, mm, fun p hp => ?_, h3 mm g4⟩
  · rw [h1 i (vtr_out hi).1]
    exact g1 i hi
  · rw [h1 p (Or.inl (by omega))]
    exact g3 p hp
/-- a line of the log came -/
def vlg1 (V : vV) : vV := vs V 2067 (V.1 2067 + 1)
theorem RR.lg {w w' : Nat → Int32} {V : vV} (h : RR w V) (h1 : w' 2067 = w 2067 + 1) (h2 : ∀ i, vlg i → w' i = w i) : RR w' (vlg1 V) := by
  have hq := RR.vs (i := 2067) (v := w 2067 + 1) (Or.inl (by omega)) (Or.inl (by omega)) h
  have e : V.1 2067 + 1 = w 2067 + 1 := by rw [h.at (Or.inl (by omega))]
  unfold vlg1
  rw [e]
  obtain ⟨g1, g2, mm, g3, g4⟩ := hq
  refine ⟨fun i hi => ?_, vr_P_eq (fun i q1 q2 => ?_) g2, mm, fun p hp => ?_, g4⟩
  · rw [← g1 i hi]
    by_cases e : i = 2067
    · subst e
      rw [mj_upd_self, h1]
    · rw [mj_upd_ne e]
      exact h2 i (by unfold vtr at hi; unfold vlg; omega)
  · rw [mj_upd_ne (by omega)]
    exact h2 i (Or.inr (by omega))
  · rw [← g3 p hp, mj_upd_ne (by omega)]
    exact h2 p (Or.inl (by omega))
/-! ### the reference: nothing else of the store changes -/
def RF (s s' : wt_S) : Prop := (∀ c, c < 110 → s' c = s c) ∧ s' 112 = s 112 ∧ s' 113 = s 113 ∧ s' 110 4 = s 110 4 ∧ s' 110 5 = s 110 5
theorem RF.refl {s : wt_S} : RF s s := ⟨fun _ _ => rfl, rfl, rfl, rfl, rfl⟩
theorem RF.trans {s s1 s2 : wt_S} (h : RF s s1) (h' : RF s1 s2) : RF s s2 := ⟨fun c hc => (h'.1 c hc).trans (h.1 c hc), h'.2.1.trans h.2.1, h'.2.2.1.trans h.2.2.1, h'.2.2.2.1.trans h.2.2.2.1, h'.2.2.2.2.trans h.2.2.2.2⟩
theorem RF.uf {s : wt_S} {f : Nat → Int32} {a : Nat} (ha : a = 111 ∨ (114 ≤ a)) : RF s (wt_uf s a f) :=
  ⟨fun c hc => wt_uf_ne (by omega), wt_uf_ne (by omega), wt_uf_ne (by omega), by rw [wt_uf_ne (by omega)], by rw [wt_uf_ne (by omega)]⟩
theorem RF.uo {s : wt_S} {k : Nat} {v : Int32} (hk : k ≠ 4) (hk5 : k ≠ 5) : RF s (wt_u s 110 k v) :=
  ⟨fun c hc => wt_u_ne (by omega), wt_u_ne (by omega), wt_u_ne (by omega), by rw [wt_u_nk (by omega)], by rw [wt_u_nk (by omega)]⟩
/-- the store holds the reference's picture, not on the endless stack -/
def RS (s : wt_S) (V : vV) : Prop := s 110 5 = 0 ∧ RR (s 111) V
theorem RS.uf {s : wt_S} {w : Nat → Int32} {V V' : vV} (h : RS s V) (h' : RR w V') : RS (wt_uf s 111 w) V' := by
  refine ⟨?_, ?_⟩
  · rw [wt_uf_ne (by omega)]
    exact h.1
  · rw [wt_uf_at]
    exact h'
theorem RS.u {s : wt_S} {V : vV} {i : Nat} {v : Int32} (h : RS s V) (hi : vtr i) (hp : i < 2228 ∨ 2248 ≤ i) : RS (wt_u s 111 i v) (vs V i v) := h.uf (h.2.vs hi hp)
def vcn (V : vV) (k : Nat) (v : Int32) : vV := vs V (2054 + k) (V.1 (2054 + k) + v)
theorem q_cnt {s : wt_S} {V : vV} {c : Nat} {v : Int32} (h : RS s V) (hc : c < 12) : gX11_counts s (nI c) v = some ((), wt_u s 111 (2054 + c) (V.1 (2054 + c) + v)) ∧ RS (wt_u s 111 (2054 + c) (V.1 (2054 + c) + v)) (vcn V c v) := by
  have ht : vtr (2054 + c) := Or.inl (by omega)
  refine ⟨?_, h.u ht (Or.inl (by omega))⟩
  rw [q_counts0 h.1 hc, h.2.at ht]
theorem q_log {s : wt_S} {V : vV} {a b c d : Int32} {k : Nat} (h : RS s V) (hk : V.1 2067 = nI k) (hl : k < 2147483648) : ∃ s', gX11_logs s a b c d = some ((), s') ∧ RS s' (vlg1 V) ∧ RF s s' := by
  obtain ⟨w', e1, e2, e3⟩ := q_logs (s := s) (a := a) (b := b) (c := c) (d := d) (by rw [h.2.at (Or.inl (by omega))]; exact hk) hl
  exact ⟨_, e1, h.uf (h.2.lg e2 e3), RF.uf (Or.inl rfl)⟩
