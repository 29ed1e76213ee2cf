/-! ===== pieces that no frame lies in come and go ===== -/
theorem Geo.ps {w : Nat → Int32} {ps ps' : List vP} {t np np' n : Nat} {fr : Nat → vF} (h : Geo w ps t np n fr) (hl : ∀ i, i < n → (fr i).2.1 < np' ∧ vln ps' t (fr i).2.1 = vln ps t (fr i).2.1) : Geo w ps' t np' n fr := by
  refine ⟨fun i hi => ⟨(hl i hi).1, ?_⟩, h.2.1, h.2.2⟩
  rw [(hl i hi).2]
  exact (h.1 i hi).2
theorem Ifr.ps {w : Nat → Int32} {ps ps' : List vP} {t n : Nat} {fr : Nat → vF} (h : Ifr w ps t n fr) (hl : ∀ i, i < n → vln ps' t (fr i).2.1 = vln ps t (fr i).2.1) : Ifr w ps' t n fr := by
  refine ⟨h.1, h.2.1, h.2.2.1, h.2.2.2.1, fun i hi hc => ?_, h.2.2.2.2.2⟩
  obtain ⟨d, d1, d2, d3⟩ := h.2.2.2.2.1 i hi hc
  exact ⟨d, d1, d2, by rw [hl i hi]; exact d3⟩
theorem Geo.less {w : Nat → Int32} {ps : List vP} {t np n n' : Nat} {fr : Nat → vF} (h : Geo w ps t np n fr) (hn : n' ≤ n) : Geo w ps t np n' fr := ⟨fun i hi => h.1 i (by omega), h.2.1, fun i hi => h.2.2 i (by omega)⟩
theorem Ifr.less {w : Nat → Int32} {ps : List vP} {t n n' : Nat} {fr : Nat → vF} (h : Ifr w ps t n fr) (hn : n' ≤ n) : Ifr w ps t n' fr := ⟨fun i hi => h.1 i (by omega), h.2.1, fun i hi => h.2.2.1 i (by omega), fun i hi => h.2.2.2.1 i (by omega), fun i hi => h.2.2.2.2.1 i (by omega), fun i hi => h.2.2.2.2.2 i (by omega)⟩
/-- how pieces may change beside the frames of a task -/
def vsame (V : vV) (ps' : List vP) (t np np' : Nat) : Prop := Itp ps' t np' ∧ ∀ i, i < V.2.2.1 t → (V.2.2.2 t i).2.1 < np' ∧ vat ps' t (V.2.2.2 t i).2.1 = vat V.2.1 t (V.2.2.2 t i).2.1 ∧ vln ps' t (V.2.2.2 t i).2.1 = vln V.2.1 t (V.2.2.2 t i).2.1
theorem VJ.ps {lim : Nat} {V : vV} {ps' : List vP} (hj : VJ lim V) (ho : vo lim ps') (hu : ps'.Pairwise (fun p q => ¬ (p.2.2.1 = q.2.2.1 ∧ p.2.2.2 = q.2.2.2))) (hs : ∀ t, t < 6 → 0 < V.2.2.1 t → ∀ np, Itp V.2.1 t np → Geo V.1 V.2.1 t np (V.2.2.1 t) (V.2.2.2 t) → ∃ np', vsame V ps' t np np') : VJ lim (vps V ps') := by
  refine ⟨hj.1, ho, hu, fun t ht hn => ?_⟩
  obtain ⟨np, a1, a2, a3⟩ := hj.geo ht hn
  obtain ⟨np', b1, b2⟩ := hs t ht hn np a1 a2
  exact ⟨np', b1, a2.ps (fun i hi => ⟨(b2 i hi).1, (b2 i hi).2.2⟩), a3.ps (fun i hi => (b2 i hi).2.2)⟩
/-- a piece is given back in which no frame lies, of no number below np -/
theorem vsame_flt {V : vV} {t n t' np : Nat} (h1 : Itp V.2.1 t' np) (h2 : Geo V.1 V.2.1 t' np (V.2.2.1 t') (V.2.2.2 t')) (hn : t' = t → np ≤ n ∨ (np = n + 1 ∧ vnof V t n)) : ∃ np', vsame V (V.2.1.filter (fun q => !vkey t n q)) t' np np' := by
  have key : ∀ k, ¬ (t' = t ∧ k = n) → (V.2.1.filter (fun q => !vkey t n q)).find? (vkey t' k) = V.2.1.find? (vkey t' k) := fun k hk => vfind_filter (fun q _ hq => by
    have hq : q.2.2.1 = t' ∧ q.2.2.2 = k := by simpa [vkey] using hq
    simp only [vkey, Bool.not_eq_true', decide_eq_false_iff_not]
    rintro ⟨e1, e2⟩
    exact hk ⟨hq.1.symm.trans e1, hq.2.symm.trans e2⟩)
  have itp : ∀ np', np' ≤ np → (t' = t → np' ≤ n) → (∀ q ∈ V.2.1, q.2.2.1 = t' → q.2.2.2 < np → t' = t ∧ q.2.2.2 = n ∨ q.2.2.2 < np') → Itp (V.2.1.filter (fun q => !vkey t n q)) t' np' := by
    intro np' hle hlt hex
    refine ⟨fun k hk => ?_, fun q hq e => ?_⟩
    · obtain ⟨q, q1, q2, q3⟩ := h1.1 k (by omega)
      refine ⟨q, List.mem_filter.mpr ⟨q1, ?_⟩, q2, q3⟩
      simp only [vkey, Bool.not_eq_true', decide_eq_false_iff_not]
      rintro ⟨e1, e2⟩
      have := hlt (q2.symm.trans e1)
      omega
    · obtain ⟨q1, q2⟩ := List.mem_filter.mp hq
      rcases h1.2 q q1 e with h | h
      · rcases hex q q1 e h with ⟨e1, e2⟩ | h
        · simp only [vkey, Bool.not_eq_true', decide_eq_false_iff_not] at q2
          exact absurd ⟨e.trans e1, e2⟩ q2
        · exact Or.inl h
      · exact Or.inr h
  by_cases et : t' = t
  · rcases hn et with hn | ⟨hn, hf⟩
    · refine ⟨np, itp np (Nat.le_refl _) (fun _ => hn) (fun q _ _ h => Or.inr h), fun i hi => ?_⟩
      have hp := (h2.1 i hi).1
      have := vat_eq (key (V.2.2.2 t' i).2.1 (by omega))
      exact ⟨hp, this.1, this.2⟩
    · refine ⟨n, itp n (by omega) (fun _ => Nat.le_refl _) (fun q _ _ h => by omega), fun i hi => ?_⟩
      have hp := (h2.1 i hi).1
      have hne : (V.2.2.2 t' i).2.1 ≠ n := by rw [et] at hi ⊢; exact hf i hi
      have := vat_eq (key (V.2.2.2 t' i).2.1 (by omega))
      exact ⟨by omega, this.1, this.2⟩
  · refine ⟨np, itp np (Nat.le_refl _) (fun e => absurd e et) (fun q _ _ h => Or.inr h), fun i hi => ?_⟩
    have := vat_eq (key (V.2.2.2 t' i).2.1 (fun e => et e.1))
    exact ⟨(h2.1 i hi).1, this.1, this.2⟩
theorem VJ.flt {lim : Nat} {V : vV} {t n : Nat} (hj : VJ lim V) (hn : ∀ np, 0 < V.2.2.1 t → Itp V.2.1 t np → Geo V.1 V.2.1 t np (V.2.2.1 t) (V.2.2.2 t) → np ≤ n ∨ (np = n + 1 ∧ vnof V t n)) : VJ lim (vps V (V.2.1.filter (fun q => !vkey t n q))) :=
  hj.ps (vo_sub hj.2.1 List.filter_sublist) (hj.2.2.1.sublist List.filter_sublist) (fun t' ht' h0 np a1 a2 => vsame_flt a1 a2 (fun e => by subst e; exact hn np h0 a1 a2))
/-- a task's scalars and frames, its pieces changed -/
theorem Ico.ps {V V' : vV} {t np np' : Nat} (hc : Ico V t np) (hw : vpe V.1 V'.1) (hp : Ipr V.1) (h2 : V'.2.2 = V.2.2) (hs : vsame V V'.2.1 t np np') (h1 : V'.1 (3954 + t) = V.1 (3954 + t)) (h3 : V'.1 (4066 + t) = nI np') (h4 : 1 ≤ np' ∧ np' ≤ 256) (h5 : (V'.1 (3933 + t) = 0 ∧ np' = 1 ∧ ∀ q ∈ V'.2.1, ¬ (q.2.2.1 = t ∧ q.2.2.2 = 1000)) ∨ V'.1 (3933 + t) = 1) (h6 : V'.1 (3961 + t) = V.1 (3961 + t)) (h7 : V'.1 (3982 + t) = V.1 (3982 + t)) (h8 : V'.1 (3975 + t) = V.1 (3975 + t)) (h9 : V.2.2.1 t = 0 → np' = 1) (h10 : 0 < V.2.2.1 t → (V.2.2.2 t (V.2.2.1 t - 1)).2.1 = np' - 1) : Ico V' t np' := by
  obtain ⟨c1, c2, c3, c4, c5, c6, c7, c8⟩ := hc
  unfold Ico
  have e1 : V'.2.2.1 = V.2.2.1 := by rw [h2]
  have e2 : V'.2.2.2 = V.2.2.2 := by rw [h2]
  rw [e1, e2]
  have hf : ∀ i, i < V.2.2.1 t → (V.2.2.2 t i).1 < 10 := fun i hi => ((c7 (by omega)).2.2.1.1 i hi).1
  refine ⟨h1.trans c1, h3, h4, hs.1, h5, ?_, fun hn => ?_, fun hn => ⟨h9 hn, h7.trans (c8 hn).2⟩⟩
  · rw [h6, c6, (hw.us (k := 0) hf).1]
  · obtain ⟨d1, d2, d3, d4, d5⟩ := c7 hn
    refine ⟨(d1.ps (fun i hi => ⟨(hs.2 i hi).1, (hs.2 i hi).2.2⟩)).ww hw hf, h10 hn, (d3.ps (fun i hi => (hs.2 i hi).2.2)).ww hw hp, ?_, h8.trans d5⟩
    rw [h7, d4]
    unfold vpl
    rw [e2, (hs.2 _ (by omega)).2.1]
theorem vsp_J {lim : Nat} {V : vV} {t np : Nat} (hj : VJ lim V) (hc : Ico V t np) (ht : t < 6) : VJ lim (vsp V t) ∧ Ico (vsp V t) t np := by
  have hnp := hc.2.2.1
  unfold vsp
  split
  · have hj1 : VJ lim (vlg1 V) := hj.vs (by omega)
    have hg : ∀ np', 0 < V.2.2.1 t → Itp V.2.1 t np' → Geo V.1 V.2.1 t np' (V.2.2.1 t) (V.2.2.2 t) → np' ≤ 1000 ∨ np' = 1000 + 1 ∧ vnof V t 1000 := fun np' h0 a1 a2 => by
      left
      apply Classical.byContradiction
      intro hgt
      obtain ⟨q, q1, q2, q3⟩ := a1.1 999 (by omega)
      rcases hc.2.2.2.1.2 q q1 q2 with h | h <;> omega
    have hcase : ∃ np', vsame V (V.2.1.filter (fun q => !vkey t 1000 q)) t np np' ∧ np' = np := by
      by_cases h0 : 0 < V.2.2.1 t
      · obtain ⟨g, -⟩ := hc.2.2.2.2.2.2.1 h0
        have key : ∀ k, k < np → (V.2.1.filter (fun q => !vkey t 1000 q)).find? (vkey t k) = V.2.1.find? (vkey t k) := fun k hk => vfind_filter (fun q _ hq => by
          have hq : q.2.2.1 = t ∧ q.2.2.2 = k := by simpa [vkey] using hq
          simp [vkey]
          omega)
        refine ⟨np, ⟨⟨fun k hk => ?_, fun q hq e => hc.2.2.2.1.2 q (List.mem_filter.mp hq).1 e⟩, fun i hi => ⟨(g.1 i hi).1, vat_eq (key _ (g.1 i hi).1)⟩⟩, rfl⟩
        obtain ⟨q, q1, q2, q3⟩ := hc.2.2.2.1.1 k hk
        exact ⟨q, List.mem_filter.mpr ⟨q1, by simp [vkey]; omega⟩, q2, q3⟩
      · refine ⟨np, ⟨⟨fun k hk => ?_, fun q hq e => hc.2.2.2.1.2 q (List.mem_filter.mp hq).1 e⟩, fun i hi => absurd hi (by omega)⟩, rfl⟩
        obtain ⟨q, q1, q2, q3⟩ := hc.2.2.2.1.1 k hk
        exact ⟨q, List.mem_filter.mpr ⟨q1, by simp [vkey]; omega⟩, q2, q3⟩
    obtain ⟨np', hv, rfl⟩ := hcase
    refine ⟨VJ.flt (V := vlg1 V) hj1 (fun np2 h0 a1 a2 => hg np2 h0 a1 (a2.ww (vpe.symm (vpe.upd (by omega))) (fun i hi => (hj.fit ht hi).1))), ?_⟩
    refine hc.ps (V' := vps (vlg1 V) (V.2.1.filter (fun q => !vkey t 1000 q))) (vpe.upd (by omega)) hj.1 rfl hv (mj_upd_ne (by omega)) ((mj_upd_ne (by omega)).trans hc.2.1) hnp ?_ (mj_upd_ne (by omega)) (mj_upd_ne (by omega)) (mj_upd_ne (by omega)) (fun h0 => (hc.2.2.2.2.2.2.2 h0).1) (fun h0 => (hc.2.2.2.2.2.2.1 h0).2.1)
    rcases hc.2.2.2.2.1 with ⟨m1, m2, m3⟩ | m1
    · exact Or.inl ⟨(mj_upd_ne (by omega)).trans m1, m2, fun q hq => m3 q (List.mem_filter.mp hq).1⟩
    · exact Or.inr ((mj_upd_ne (by omega)).trans m1)
  · exact ⟨hj, hc⟩
