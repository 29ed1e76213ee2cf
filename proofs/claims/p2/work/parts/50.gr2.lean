/-! ===== growing keeps what holds: linked, and all ===== -/
/-- before a frame comes: the last piece may have none yet -/
def Icn (V : vV) (t np : Nat) : Prop := V.1 (3954 + t) = nI (V.2.2.1 t) ∧ V.1 (4066 + t) = nI np ∧ (1 ≤ np ∧ np ≤ 256) ∧ Itp V.2.1 t np ∧ ((V.1 (3933 + t) = 0 ∧ np = 1 ∧ ∀ q ∈ V.2.1, ¬ (q.2.2.1 = t ∧ q.2.2.2 = 1000)) ∨ V.1 (3933 + t) = 1) ∧ V.1 (3961 + t) = nI (vus V.1 (V.2.2.2 t) (V.2.2.1 t)) ∧
  (0 < V.2.2.1 t → Geo V.1 V.2.1 t np (V.2.2.1 t) (V.2.2.2 t) ∧ ((V.2.2.2 t (V.2.2.1 t - 1)).2.1 + 1 = np ∨ (V.2.2.2 t (V.2.2.1 t - 1)).2.1 + 2 = np) ∧ Ifr V.1 V.2.1 t (V.2.2.1 t) (V.2.2.2 t) ∧ V.1 (3982 + t) = nI (vpl V t (V.2.2.1 t - 1)) ∧ V.1 (3975 + t) = nI (V.2.2.2 t (V.2.2.1 t - 1)).1) ∧ (V.2.2.1 t = 0 → np ≤ 2 ∧ V.1 (3982 + t) = 0)
section
variable {lim z t np : Nat} {V V' : vV}
theorem Ico.n' (h : Ico V t np) : Icn V t np := by
  obtain ⟨c1, c2, c3, c4, c5, c6, c7, c8⟩ := h
  exact ⟨c1, c2, c3, c4, c5, c6, fun h0 => by
    obtain ⟨d1, d2, d3⟩ := c7 h0
    exact ⟨d1, Or.inl (by omega), d3⟩, fun h0 => ⟨by rw [(c8 h0).1]; omega, (c8 h0).2⟩⟩
theorem Icn.ps {np' : Nat} (hc : Icn V t np) (hw : vpe V.1 V'.1) (hp : Ipr V.1) (h2 : V'.2.2 = V.2.2) (hs : vsame V V'.2.1 t np np') (h1 : V'.1 (3954 + t) = V.1 (3954 + t)) (h3 : V'.1 (4066 + t) = nI np') (h4 : 1 ≤ np' ∧ np' ≤ 256) (h5 : (V'.1 (3933 + t) = 0 ∧ np' = 1 ∧ ∀ q ∈ V'.2.1, ¬ (q.2.2.1 = t ∧ q.2.2.2 = 1000)) ∨ V'.1 (3933 + t) = 1) (h6 : V'.1 (3961 + t) = V.1 (3961 + t)) (h7 : V'.1 (3982 + t) = V.1 (3982 + t)) (h8 : V'.1 (3975 + t) = V.1 (3975 + t)) (h9 : V.2.2.1 t = 0 → np' ≤ 2) (h10 : 0 < V.2.2.1 t → (V.2.2.2 t (V.2.2.1 t - 1)).2.1 + 1 = np' ∨ (V.2.2.2 t (V.2.2.1 t - 1)).2.1 + 2 = np') : Icn V' t np' := by
  obtain ⟨c1, c2, c3, c4, c5, c6, c7, c8⟩ := hc
  unfold Icn
  have e1 : V'.2.2.1 = V.2.2.1 := by rw [h2]
  have e2 : V'.2.2.2 = V.2.2.2 := by rw [h2]
  rw [e1, e2]
  have hf : ∀ i, i < V.2.2.1 t → (V.2.2.2 t i).1 < 10 := fun i hi => ((c7 (by omega)).2.2.1.1 i hi).1
  refine ⟨h1.trans c1, h3, h4, hs.1, h5, ?_, fun hn => ?_, fun hn => ⟨h9 hn, h7.trans (c8 hn).2⟩⟩
  · rw [h6, c6, (hw.us (k := 0) hf).1]
  · obtain ⟨d1, d2, d3, d4, d5⟩ := c7 hn
    refine ⟨(d1.ps (fun i hi => ⟨(hs.2 i hi).1, (hs.2 i hi).2.2⟩)).ww hw hf, h10 hn, (d3.ps (fun i hi => (hs.2 i hi).2.2)).ww hw hp, ?_, h8.trans d5⟩
    rw [h7, d4]
    unfold vpl
    rw [e2, (hs.2 _ (by omega)).2.1]
theorem icn_vs {i : Nat} {v : Int32} (hc : Icn V t np) (hp : Ipr V.1) (hi : (i < 2228 ∨ 2898 ≤ i) ∧ i ≠ 2050 ∧ i ≠ 2051) (h : i ≠ 3954 + t ∧ i ≠ 4066 + t ∧ i ≠ 3933 + t ∧ i ≠ 3961 + t ∧ i ≠ 3982 + t ∧ i ≠ 3975 + t) : Icn (vs V i v) t np := by
  have hs : vsame V (vs V i v).2.1 t np np := ⟨hc.2.2.2.1, fun j hj => ⟨((hc.2.2.2.2.2.2.1 (by omega)).1.1 j hj).1, rfl, rfl⟩⟩
  refine hc.ps (V' := vs V i v) (vpe.upd hi) hp rfl hs (vs_ne (by omega)) ((vs_ne (by omega)).trans hc.2.1) hc.2.2.1 ?_ (vs_ne (by omega)) (vs_ne (by omega)) (vs_ne (by omega)) (fun h0 => (hc.2.2.2.2.2.2.2 h0).1) (fun h0 => (hc.2.2.2.2.2.2.1 h0).2.1)
  rw [vs_ne (by omega)]
  exact hc.2.2.2.2.1
theorem ico_vs {i : Nat} {v : Int32} (hc : Ico V t np) (hp : Ipr V.1) (hi : (i < 2228 ∨ 2898 ≤ i) ∧ i ≠ 2050 ∧ i ≠ 2051) (h : i ≠ 3954 + t ∧ i ≠ 4066 + t ∧ i ≠ 3933 + t ∧ i ≠ 3961 + t ∧ i ≠ 3982 + t ∧ i ≠ 3975 + t) : Ico (vs V i v) t np := by
  have hs : vsame V (vs V i v).2.1 t np np := ⟨hc.2.2.2.1, fun j hj => ⟨((hc.2.2.2.2.2.2.1 (by omega)).1.1 j hj).1, rfl, rfl⟩⟩
  refine hc.ps (V' := vs V i v) (vpe.upd hi) hp rfl hs (vs_ne (by omega)) ((vs_ne (by omega)).trans hc.2.1) hc.2.2.1 ?_ (vs_ne (by omega)) (vs_ne (by omega)) (vs_ne (by omega)) (fun h0 => (hc.2.2.2.2.2.2.2 h0).1) (fun h0 => (hc.2.2.2.2.2.2.1 h0).2.1)
  rw [vs_ne (by omega)]
  exact hc.2.2.2.2.1
/-- another piece of a number that no piece had -/
theorem vsame_ins {q : vP} (hc : Ico V t np) (ht : q.2.2.1 = t) (hn : q.2.2.2 = np) (ho : np ≠ 1000) : vsame V (vins q V.2.1) t np (np + 1) := by
  refine ⟨⟨fun k hk => ?_, fun p hp e => ?_⟩, fun i hi => ?_⟩
  · by_cases ek : k = np
    · exact ⟨q, vins_mem.mpr (Or.inl rfl), ht, by omega⟩
    · obtain ⟨p, p1, p2, p3⟩ := hc.2.2.2.1.1 k (by omega)
      exact ⟨p, vins_mem.mpr (Or.inr p1), p2, p3⟩
  · rcases vins_mem.mp hp with rfl | hp
    · exact Or.inl (by omega)
    · rcases hc.2.2.2.1.2 p hp e with h | h
      · exact Or.inl (by omega)
      · exact Or.inr h
  · have := ((hc.2.2.2.2.2.2.1 (by omega)).1.1 i hi).1
    exact ⟨by omega, vat_eq (vfind_ins_ne (by simp [vkey]; omega))⟩
theorem vsame_ren (hc : Ico V t np) (hs : ∃ q ∈ V.2.1, q.2.2.1 = t ∧ q.2.2.2 = 1000) : vsame V (vren t 1000 np V.2.1) t np (np + 1) := by
  have hnp := hc.2.2.1
  refine ⟨⟨fun k hk => ?_, fun p hp e => ?_⟩, fun i hi => ?_⟩
  · by_cases ek : k = np
    · obtain ⟨q, q1, q2, q3⟩ := hs
      exact ⟨(q.1, q.2.1, q.2.2.1, np), List.mem_map.mpr ⟨q, q1, if_pos (by simp [vkey, q2, q3])⟩, q2, by show np = k; omega⟩
    · obtain ⟨p, p1, p2, p3⟩ := hc.2.2.2.1.1 k (by omega)
      exact ⟨p, List.mem_map.mpr ⟨p, p1, if_neg (by simp [vkey]; omega)⟩, p2, p3⟩
  · obtain ⟨p0, a1, a2⟩ := List.mem_map.mp hp
    by_cases c : vkey t 1000 p0 = true
    · rw [if_pos c] at a2
      subst a2
      exact Or.inl (by show np < np + 1; omega)
    · rw [if_neg c] at a2
      subst a2
      rcases hc.2.2.2.1.2 p0 a1 e with h | h
      · exact Or.inl (by omega)
      · exact Or.inr h
  · have := ((hc.2.2.2.2.2.2.1 (by omega)).1.1 i hi).1
    exact ⟨by omega, vat_eq (vfind_ren (fun e => by omega))⟩
theorem VJ.ins {q : vP} (hj : VJ lim V) (hc : Ico V t np) (ht : q.2.2.1 = t) (h6 : t < 6) (hn : q.2.2.2 = np) (h1 : 1 ≤ q.2.1 ∧ q.1 + q.2.1 ≤ lim) (h2 : ∀ p ∈ V.2.1, q.1 + q.2.1 ≤ p.1 ∨ p.1 + p.2.1 ≤ q.1) : VJ lim (vps V (vins q V.2.1)) := by
  have hnp := hc.2.2.1
  refine hj.ps (vo_ins hj.2.1 ⟨h1.1, h1.2, by omega, by omega⟩ h2) (vkeys_pw (fun p q h e => h ⟨e.1.symm, e.2.symm⟩) hj.2.2.1 (fun p hp e => ?_)) (fun t' ht' h0 np' a1 a2 => ?_)
  · rcases hc.2.2.2.1.2 p hp (by omega) with h | h <;> omega
  · by_cases et : t' = t
    · subst et; exact ⟨np + 1, vsame_ins hc ht hn (by omega)⟩
    · refine ⟨np', ⟨fun k hk => ?_, fun p hp e => ?_⟩, fun i hi => ⟨(a2.1 i hi).1, vat_eq (vfind_ins_ne (by simp [vkey]; omega))⟩⟩
      · obtain ⟨p, p1, p2, p3⟩ := a1.1 k hk
        exact ⟨p, vins_mem.mpr (Or.inr p1), p2, p3⟩
      · rcases vins_mem.mp hp with rfl | hp
        · omega
        · exact a1.2 p hp e
theorem VJ.ren (hj : VJ lim V) (hc : Ico V t np) (hs : ∃ q ∈ V.2.1, q.2.2.1 = t ∧ q.2.2.2 = 1000) : VJ lim (vps V (vren t 1000 np V.2.1)) := by
  have hnp := hc.2.2.1
  have hmap : ∀ p, (if vkey t 1000 p then (p.1, p.2.1, p.2.2.1, np) else p).1 = p.1 ∧ (if vkey t 1000 p then (p.1, p.2.1, p.2.2.1, np) else p).2.1 = p.2.1 ∧ (if vkey t 1000 p then (p.1, p.2.1, p.2.2.1, np) else p).2.2.1 = p.2.2.1 := fun p => by split <;> exact ⟨rfl, rfl, rfl⟩
  refine hj.ps ⟨?_, fun q hq => ?_⟩ ?_ (fun t' ht' h0 np' a1 a2 => ?_)
  · unfold vren
    rw [List.pairwise_map]
    refine hj.2.1.1.imp (fun {a b} h => ?_)
    rw [(hmap a).1, (hmap a).2.1, (hmap b).1]
    exact h
  · obtain ⟨p, p1, rfl⟩ := List.mem_map.mp hq
    have := hj.2.1.2 p p1
    rw [(hmap p).1, (hmap p).2.1, (hmap p).2.2]
    refine ⟨this.1, this.2.1, this.2.2.1, ?_⟩
    split
    · show np < 4294967296; omega
    · exact this.2.2.2
  · unfold vren
    rw [List.pairwise_map]
    refine List.Pairwise.imp_of_mem (fun {a b} ha hb h e => ?_) hj.2.2.1
    rw [(hmap a).2.2, (hmap b).2.2] at e
    by_cases ca : vkey t 1000 a = true
    · by_cases cb : vkey t 1000 b = true
      · have ca : a.2.2.1 = t ∧ a.2.2.2 = 1000 := by simpa [vkey] using ca
        have cb : b.2.2.1 = t ∧ b.2.2.2 = 1000 := by simpa [vkey] using cb
        exact h ⟨e.1, by omega⟩
      · rw [if_pos ca, if_neg cb] at e
        have ca : a.2.2.1 = t ∧ a.2.2.2 = 1000 := by simpa [vkey] using ca
        have e2 : np = b.2.2.2 := e.2
        rcases hc.2.2.2.1.2 b hb (by omega) with h3 | h3 <;> omega
    · by_cases cb : vkey t 1000 b = true
      · rw [if_neg ca, if_pos cb] at e
        have cb : b.2.2.1 = t ∧ b.2.2.2 = 1000 := by simpa [vkey] using cb
        have e2 : a.2.2.2 = np := e.2
        rcases hc.2.2.2.1.2 a ha (by omega) with h3 | h3 <;> omega
      · rw [if_neg ca, if_neg cb] at e
        exact h e
  · by_cases et : t' = t
    · subst et; exact ⟨np + 1, vsame_ren hc hs⟩
    · refine ⟨np', ⟨fun k hk => ?_, fun p hp e => ?_⟩, fun i hi => ⟨(a2.1 i hi).1, vat_eq (vfind_ren (fun e => et e.1))⟩⟩
      · obtain ⟨p, p1, p2, p3⟩ := a1.1 k hk
        exact ⟨p, List.mem_map.mpr ⟨p, p1, if_neg (by simp [vkey]; omega)⟩, p2, p3⟩
      · obtain ⟨p0, b1, b2⟩ := List.mem_map.mp hp
        by_cases c : vkey t 1000 p0 = true
        · rw [if_pos c] at b2
          have c : p0.2.2.1 = t ∧ p0.2.2.2 = 1000 := by simpa [vkey] using c
          subst b2
          exact absurd (e.symm.trans c.1) et
        · rw [if_neg c] at b2
          subst b2
          exact a1.2 p0 b1 e
end
