/-! ===== a task is out, from a state between ===== -/
section
variable {lim B B' t : Nat} {V V' V0 : vV}
theorem OT.idl2 (hs : ∀ k, k < 3 → V.1 (3989 + t) = nI k → V.1 (3923 + k) = nI t) (ht : t < 6) (h2 : V'.2 = (V.2.1.filter (fun q => decide (q.2.2.1 ≠ t)), mj_upd V.2.2.1 t 0, V.2.2.2)) (hw : ∀ i, (2048 ≤ i ∧ i ≤ 2053) ∨ (2228 ≤ i ∧ i < 2898) ∨ (3926 ≤ i ∧ i < 4073 ∧ (i - 3926) % 7 ≠ t) → V'.1 i = V.1 i) (hsd : ∀ k, k < 3 → V'.1 (3923 + k) = if V.1 (3989 + t) = nI k then -1 else V.1 (3923 + k)) : OT t V V' := by
  refine ⟨fun i hi => hw i (by omega), fun i h3 h4 => hw i (by omega), fun t' ht' hne => ⟨fun j hj => hw _ (by omega), by rw [h2]; exact mj_upd_ne hne, by rw [h2]⟩, fun q hq => ?_, fun t' n hne => ?_, fun k hk t' ht' hne => ?_⟩
  · rw [h2]
    exact ⟨fun h => (List.mem_filter.mp h).1, fun h => List.mem_filter.mpr ⟨h, decide_eq_true hq⟩⟩
  · rw [h2]
    refine vfind_filter (fun q _ hk => decide_eq_true ?_)
    have hk : q.2.2.1 = t' ∧ q.2.2.2 = n := by simpa [vkey] using hk
    omega
  · rw [hsd k hk]
    by_cases e : V.1 (3989 + t) = nI k
    · rw [if_pos e, hs k hk e]
      constructor
      · intro g
        exact absurd g.symm (nI_m1 (by omega))
      · intro g
        exact absurd ((nI_inj (by omega) (by omega)).mp g).symm hne
    · rw [if_neg e]
theorem vi_out2 (hI : VI lim B V0) (hO : OT t V0 V) (ht : t < 6) (hj : VJ lim V) (hz : ∀ q ∈ V.2.1, (V0.1 2048).toInt.toNat ≤ q.2.1) (hsd : Isd V.1) (hlg : ∃ k, k + 1 ≤ B' ∧ V.1 2067 = nI k) (hs : V.1 (3989 + t) = -1 ∨ ∃ k, k < 3 ∧ V.1 (3989 + t) = nI k ∧ V.1 (3923 + k) = nI t) : VI lim B' (vot V t) := by
  have hs1 : V.1 (3989 + t) = -1 ∨ ∃ k, k < 3 ∧ V.1 (3989 + t) = nI k := by
    rcases hs with e | ⟨k, k1, k2, -⟩
    · exact Or.inl e
    · exact Or.inr ⟨k, k1, k2⟩
  have hs2 : ∀ k, k < 3 → V.1 (3989 + t) = nI k → V.1 (3923 + k) = nI t := fun k hk e => by
    rcases hs with g | ⟨k', k1, k2, k3⟩
    · rw [e] at g
      exact absurd g (nI_m1 (by omega))
    · rw [e] at k2
      have := (nI_inj (by omega) (by omega)).mp k2
      subst this
      exact k3
  obtain ⟨g1, g2⟩ := vga_is hs1 ht
  have hne : ∀ i, i ≠ 2067 → i ≠ 2055 → i ≠ 3926 + t → (vot V t).1 i = (vga V t).1 i := fun i h1 h2 h3 => by
    unfold vot vlg1
    rw [vs_ne h1, vcn_ne (by omega), vs_ne h3]
  have h2 : (vot V t).2 = (V.2.1.filter (fun q => decide (q.2.2.1 ≠ t)), mj_upd V.2.2.1 t 0, V.2.2.2) := vga_2 (V := V)
  have hw : ∀ i, (2048 ≤ i ∧ i ≤ 2053) ∨ (2228 ≤ i ∧ i < 2898) ∨ (3926 ≤ i ∧ i < 4073 ∧ (i - 3926) % 7 ≠ t) → (vot V t).1 i = V.1 i := fun i hi => by
    rw [hne i (by omega) (by omega) (by omega), g1 i (by omega)]
  have hsd2 : ∀ k, k < 3 → (vot V t).1 (3923 + k) = if V.1 (3989 + t) = nI k then -1 else V.1 (3923 + k) := fun k hk => by
    rw [hne _ (by omega) (by omega) (by omega), g2 k hk]
  refine hI.ot (hO.trans (OT.idl2 hs2 ht h2 hw hsd2)) ht ?_ ?_ ?_ (Or.inr ⟨?_, ?_, ?_, ?_, ?_, ?_, ?_, Or.inr (Or.inr ?_), ?_⟩)
  · rw [h2]
    exact ⟨vo_sub hj.2.1 List.filter_sublist, hj.2.2.1.sublist List.filter_sublist, fun q hq => hz q (List.mem_filter.mp hq).1⟩
  · intro k hk
    rw [hsd2 k hk]
    by_cases e : V.1 (3989 + t) = nI k
    · rw [if_pos e]; exact Or.inl rfl
    · rw [if_neg e]
      rcases hsd k hk with g | ⟨t', x1, x2, x3⟩
      · exact Or.inl g
      · refine Or.inr ⟨t', x1, x2, ?_⟩
        rw [hw _ ?_]
        · exact x3
        · have : t' ≠ t := fun g => by subst g; exact e x3
          omega
  · obtain ⟨k, k1, k2⟩ := hlg
    refine ⟨k + 1, k1, ?_⟩
    show mj_upd (vcn (vs (vga V t) (3926 + t) 4) 1 1).1 2067 ((vcn (vs (vga V t) (3926 + t) 4) 1 1).1 2067 + 1) 2067 = _
    rw [mj_upd_self, vcn_ne (by omega), vs_ne (by omega), g1 _ (by omega), k2, nI_1]
  · rw [h2]; exact mj_upd_self
  · rw [hne _ (by omega) (by omega) (by omega), vga_1, mj_upd_ne (by omega), mj_upd_ne (by omega), mj_upd_self]
  · rw [hne _ (by omega) (by omega) (by omega), vga_1, mj_upd_ne (by omega), mj_upd_ne (by omega), mj_upd_ne (by omega), mj_upd_self]
  · rw [hne _ (by omega) (by omega) (by omega), vga_1, mj_upd_ne (by omega), mj_upd_self]
  · rw [hne _ (by omega) (by omega) (by omega), vga_1, mj_upd_self]
  · rw [hne _ (by omega) (by omega) (by omega), vga_1, mj_upd_ne (by omega), mj_upd_ne (by omega), mj_upd_ne (by omega), mj_upd_ne (by omega), mj_upd_ne (by omega), mj_upd_self]
  · rw [hne _ (by omega) (by omega) (by omega), vga_1, mj_upd_ne (by omega), mj_upd_ne (by omega), mj_upd_ne (by omega), mj_upd_ne (by omega), mj_upd_self]
  · unfold vot vlg1
    rw [vs_ne (by omega), vcn_ne (by omega)]
    exact mj_upd_self
  · intro q hq
    rw [h2] at hq
    exact of_decide_eq_true (List.mem_filter.mp hq).2
end
