/-! ===== a spare piece goes: what always holds is kept ===== -/
section
variable {lim B B' t : Nat} {V : vV} {ps : List vP}
theorem VI.mono (hI : VI lim B V) (h : B ≤ B') : VI lim B' V := by
  obtain ⟨a1, a2, a3, a4, ⟨k, k1, k2⟩, a6⟩ := hI
  exact ⟨a1, a2, a3, a4, ⟨k, Nat.le_trans k1 h, k2⟩, a6⟩
theorem find_sp {n : Nat} (hn : n ≠ 1000) : (ps.filter (fun q => !vkey t 1000 q)).find? (vkey t n) = ps.find? (vkey t n) := by
  refine vfind_filter (fun q _ hk => ?_)
  have hk : q.2.2.1 = t ∧ q.2.2.2 = n := by simpa [vkey] using hk
  simp [vkey]
  omega
theorem ibz_sp (hb : Ibz lim V t) : Ibz lim (vps V (V.2.1.filter (fun q => !vkey t 1000 q))) t := by
  obtain ⟨n, np, c1, c2, c3, c4, c5, c6, c7, c8, c9, c10, c11, c12, c13, c14, c15, c16, c17⟩ := hb
  have hn : ∀ i, i < n + 1 → (V.2.2.2 t i).2.1 < np := fun i hi => (c7.1 i hi).1
  have hv : ∀ i, i < n + 1 → vat (V.2.1.filter (fun q => !vkey t 1000 q)) t (V.2.2.2 t i).2.1 = vat V.2.1 t (V.2.2.2 t i).2.1 ∧ vln (V.2.1.filter (fun q => !vkey t 1000 q)) t (V.2.2.2 t i).2.1 = vln V.2.1 t (V.2.2.2 t i).2.1 := fun i hi => vat_eq (find_sp (by have := hn i hi; have := c4.2; omega))
  refine ⟨n, np, c1, c2, c3, c4, ⟨fun k hk => ?_, fun q hq => c5.2 q (List.mem_filter.mp hq).1⟩, ?_, c7.ps (fun i hi => ⟨hn i hi, (hv i hi).2⟩), c8, c9.ps (fun i hi => (hv i hi).2), c10, ?_, c12, c13, c14, c15, c16, c17⟩
  · obtain ⟨q, q1, q2, q3⟩ := c5.1 k hk
    refine ⟨q, List.mem_filter.mpr ⟨q1, ?_⟩, q2, q3⟩
    have := c4.2
    simp [vkey]
    omega
  · rcases c6 with ⟨x1, x2, x3⟩ | x
    · exact Or.inl ⟨x1, x2, fun q hq => x3 q (List.mem_filter.mp hq).1⟩
    · exact Or.inr x
  · show V.1 (3982 + t) = nI (vat (V.2.1.filter (fun q => !vkey t 1000 q)) t (V.2.2.2 t n).2.1 + (V.2.2.2 t n).2.2.1)
    rw [(hv n (by omega)).1]
    exact c11
theorem vi_lg (hI : VI lim B V) (ht : t < 6) (hb : vbz V.1 t) : VI lim (B + 1) (vlg1 V) := by
  refine hI.ot (OT.lg ht) ht hI.2.2.1 (isd_ot hI.2.2.2.1 (OT.lg ht) (fun i hi => vs_ne (by omega))) ?_ ?_
  · obtain ⟨k, k1, k2⟩ := hI.2.2.2.2.1
    refine ⟨k + 1, by omega, ?_⟩
    show mj_upd V.1 2067 (V.1 2067 + 1) 2067 = _
    rw [mj_upd_self, k2, nI_1]
  · rcases hI.2.2.2.2.2 t ht with ⟨b1, b2⟩ | b
    · refine Or.inl ⟨?_, b2.vs hI.2.1 (by omega) (by omega) (fun e => absurd e (by omega))⟩
      unfold vbz at b1 ⊢
      show (vs V 2067 (V.1 2067 + 1)).1 (3926 + t) = 1 ∨ (vs V 2067 (V.1 2067 + 1)).1 (3926 + t) = 2
      rw [vs_ne (by omega)]
      exact b1
    · exfalso
      rcases hb with e | e <;> rcases b.2.2.2.2.2.2.2.1 with g | g | g <;> rw [e] at g <;> exact absurd g (by decide)
theorem vi_sp (hI : VI lim B V) (ht : t < 6) (hb : vbz V.1 t) : VI lim (B + 1) (vsp V t) := by
  unfold vsp
  split
  · have h1 := vi_lg hI ht hb
    refine h1.ot (B' := B + 1) (OT.flt (V := vlg1 V) (n := 1000)) ht ⟨vo_sub h1.2.2.1.1 List.filter_sublist, h1.2.2.1.2.1.sublist List.filter_sublist, fun q hq => h1.2.2.1.2.2 q (List.mem_filter.mp hq).1⟩ h1.2.2.2.1 h1.2.2.2.2.1 ?_
    rcases h1.2.2.2.2.2 t ht with ⟨b1, b2⟩ | b
    · exact Or.inl ⟨b1, ibz_sp b2⟩
    · exfalso
      have hb' : vbz (vlg1 V).1 t := by
        unfold vbz at hb ⊢
        show (vs V 2067 (V.1 2067 + 1)).1 (3926 + t) = 1 ∨ (vs V 2067 (V.1 2067 + 1)).1 (3926 + t) = 2
        rw [vs_ne (by omega)]
        exact hb
      rcases hb' with e | e <;> rcases b.2.2.2.2.2.2.2.1 with g | g | g <;> rw [e] at g <;> exact absurd g (by decide)
  · exact hI.mono (by omega)
end
