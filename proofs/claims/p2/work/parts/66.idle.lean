/-! ===== a task goes: what always holds is kept ===== -/
section
variable {lim B B' t : Nat} {V V' : vV}
theorem VI.sdt (hI : VI lim B V) (ht : t < 6) {k : Nat} (hk : k < 3) (h : V.1 (3989 + t) = nI k) : V.1 (3923 + k) = nI t := by
  rcases hI.2.2.2.2.2 t ht with ⟨b1, b2⟩ | b
  · obtain ⟨n, np, -, -, -, -, -, -, -, -, -, -, -, -, -, -, -, c16, -⟩ := b2
    rcases c16 with c | ⟨k', k1, k2, k3, -⟩
    · rw [h] at c
      exact absurd c.1 (nI_m1 (by omega))
    · rw [h] at k2
      have := (nI_inj (by omega) (by omega)).mp k2
      subst this
      exact k3
  · have := b.2.2.2.2.2.1
    rw [h] at this
    exact absurd this (nI_m1 (by omega))
theorem OT.idl (hI : VI lim B V) (ht : t < 6) (h2 : V'.2 = (V.2.1.filter (fun q => decide (q.2.2.1 ≠ t)), mj_upd V.2.2.1 t 0, V.2.2.2)) (hw : ∀ i, (2048 ≤ i ∧ i ≤ 2053) ∨ (2228 ≤ i ∧ i < 2898) ∨ (3926 ≤ i ∧ i < 4073 ∧ (i - 3926) % 7 ≠ t) → V'.1 i = V.1 i) (hsd : ∀ k, k < 3 → V'.1 (3923 + k) = if V.1 (3989 + t) = nI k then -1 else V.1 (3923 + k)) : OT t V V' := by
  refine ⟨fun i hi => hw i (by omega), fun i h3 h4 => hw i (by omega), fun t' ht' hne => ⟨fun j hj => hw _ (by omega), by rw [h2]; exact mj_upd_ne hne, by rw [h2]⟩, fun q hq => ?_, fun t' n hne => ?_, fun k hk t' ht' hne => ?_⟩
  · rw [h2]
    exact ⟨fun h => (List.mem_filter.mp h).1, fun h => List.mem_filter.mpr ⟨h, decide_eq_true hq⟩⟩
  · rw [h2]
    refine vfind_filter (fun q _ hk => decide_eq_true ?_)
    have hk : q.2.2.1 = t' ∧ q.2.2.2 = n := by simpa [vkey] using hk
    omega
  · rw [hsd k hk]
    by_cases e : V.1 (3989 + t) = nI k
    · rw [if_pos e, hI.sdt ht hk e]
      constructor
      · intro g
        exact absurd g.symm (nI_m1 (by omega))
      · intro g
        exact absurd ((nI_inj (by omega) (by omega)).mp g).symm hne
    · rw [if_neg e]
theorem VI.idl (hI : VI lim B V) (ht : t < 6) (h2 : V'.2 = (V.2.1.filter (fun q => decide (q.2.2.1 ≠ t)), mj_upd V.2.2.1 t 0, V.2.2.2)) (hw : ∀ i, (2048 ≤ i ∧ i ≤ 2053) ∨ (2228 ≤ i ∧ i < 2898) ∨ (3926 ≤ i ∧ i < 4073 ∧ (i - 3926) % 7 ≠ t) → V'.1 i = V.1 i) (hsd : ∀ k, k < 3 → V'.1 (3923 + k) = if V.1 (3989 + t) = nI k then -1 else V.1 (3923 + k)) (hlg : ∃ k, k ≤ B' ∧ V'.1 2067 = nI k)
    (hid : V'.1 (3954 + t) = 0 ∧ V'.1 (4066 + t) = 0 ∧ V'.1 (3961 + t) = 0 ∧ V'.1 (3975 + t) = -1 ∧ V'.1 (3989 + t) = -1 ∧ V'.1 (3996 + t) = 0 ∧ (V'.1 (3926 + t) = 0 ∨ V'.1 (3926 + t) = 3 ∨ V'.1 (3926 + t) = 4)) : VI lim B' V' := by
  refine hI.ot (OT.idl hI ht h2 hw hsd) ht ?_ ?_ hlg (Or.inr ?_)
  · rw [h2]
    exact ⟨vo_sub hI.2.2.1.1 List.filter_sublist, hI.2.2.1.2.1.sublist List.filter_sublist, fun q hq => hI.2.2.1.2.2 q (List.mem_filter.mp hq).1⟩
  · intro k hk
    rw [hsd k hk]
    by_cases e : V.1 (3989 + t) = nI k
    · rw [if_pos e]; exact Or.inl rfl
    · rw [if_neg e]
      rcases hI.2.2.2.1 k hk with g | ⟨t', g1, g2, g3⟩
      · exact Or.inl g
      · refine Or.inr ⟨t', g1, g2, ?_⟩
        rw [hw _ ?_]
        · exact g3
        · have : t' ≠ t := fun g => by subst g; exact e g3
          omega
  · obtain ⟨d1, d2, d3, d4, d5, d6, d7⟩ := hid
    refine ⟨by rw [h2]; exact mj_upd_self, d1, d2, d3, d4, d5, d6, d7, fun q hq => ?_⟩
    rw [h2] at hq
    exact of_decide_eq_true (List.mem_filter.mp hq).2
theorem vga_is (hs : V.1 (3989 + t) = -1 ∨ ∃ k, k < 3 ∧ V.1 (3989 + t) = nI k) (ht : t < 6) : (∀ i, (2048 ≤ i ∧ i < 3923) ∨ (3926 ≤ i ∧ i < 4073 ∧ (i - 3926) % 7 ≠ t) → (vga V t).1 i = V.1 i) ∧ (∀ k, k < 3 → (vga V t).1 (3923 + k) = if V.1 (3989 + t) = nI k then -1 else V.1 (3923 + k)) := by
  refine ⟨fun i hi => ?_, fun k hk => ?_⟩
  · rw [vga_1, mj_upd_ne (by omega), mj_upd_ne (by omega), mj_upd_ne (by omega), mj_upd_ne (by omega), mj_upd_ne (by omega), mj_upd_ne (by omega)]
    rcases hs with e | ⟨j, j1, j2⟩
    · rw [if_pos e]
    · rw [if_neg (by rw [j2]; exact nI_m1 (by omega)), j2, nI_int (by omega), mj_upd_ne]
      show i ≠ 3923 + j
      omega
  · rw [vga_1, mj_upd_ne (by omega), mj_upd_ne (by omega), mj_upd_ne (by omega), mj_upd_ne (by omega), mj_upd_ne (by omega), mj_upd_ne (by omega)]
    rcases hs with e | ⟨j, j1, j2⟩
    · rw [if_pos e, if_neg (by rw [e]; exact fun g => nI_m1 (by omega) g.symm)]
    · rw [if_neg (by rw [j2]; exact nI_m1 (by omega)), j2, nI_int (by omega)]
      show mj_upd V.1 (3923 + j) (-1) (3923 + k) = _
      by_cases e : k = j
      · subst e
        rw [if_pos rfl, mj_upd_self]
      · rw [mj_upd_ne (by omega), if_neg (fun g => e ((nI_inj (by omega) (by omega)).mp g).symm)]
theorem vcr_ne {i : Nat} (ht : t < 6) (h : i < 3926 ∨ 4073 ≤ i ∨ (i - 3926) % 7 ≠ t) : (vcr V t).1 i = V.1 i := by
  show mj_upd (mj_upd (vck V.1 t 0) (3989 + t) (-1)) (3975 + t) (-1) i = V.1 i
  rw [mj_upd_ne (by omega), mj_upd_ne (by omega)]
  unfold vck
  rw [if_neg (by omega)]
theorem vcr_0 {c : Nat} (ht : t < 6) (hc : 3926 ≤ c ∧ c ≤ 4066 ∧ (c - 3926) % 7 = 0) (h : c ≠ 3975 ∧ c ≠ 3989) : (vcr V t).1 (c + t) = 0 := by
  show mj_upd (mj_upd (vck V.1 t 0) (3989 + t) (-1)) (3975 + t) (-1) (c + t) = 0
  rw [mj_upd_ne (by omega), mj_upd_ne (by omega)]
  unfold vck
  rw [if_pos (by omega)]
theorem vcr_f : (vcr V t).1 (3975 + t) = -1 ∧ (vcr V t).1 (3989 + t) = -1 := by
  refine ⟨mj_upd_self, ?_⟩
  show mj_upd (mj_upd (vck V.1 t 0) (3989 + t) (-1)) (3975 + t) (-1) (3989 + t) = -1
  rw [mj_upd_ne (by omega), mj_upd_self]
/-- stop keeps it -/
theorem VI.stop {x : Int32} (hI : VI lim B V) : VI lim B (vsto V x).2 := by
  unfold vsto
  by_cases c : 0 ≤ x.toInt ∧ x.toInt ≤ 5
  · obtain ⟨t, t1, rfl⟩ := nI_ex c.1
    have t2 := c.2
    rw [nI_int t1] at t2
    have ht : t < 6 := by omega
    have htn : (nI t).toInt.toNat = t := by rw [nI_int t1]; rfl
    rw [if_pos c, htn]
    by_cases d : V.1 (3926 + t) ≠ 0
    · rw [if_pos d]
      obtain ⟨g1, g2⟩ := vga_is (hI.sid ht) ht
      refine hI.idl ht (vga_2 (V := V)) (fun i hi => ?_) (fun k hk => ?_) ?_ ⟨vcr_0 (c := 3954) ht (by omega) (by omega), vcr_0 (c := 4066) ht (by omega) (by omega), vcr_0 (c := 3961) ht (by omega) (by omega), vcr_f.1, vcr_f.2, vcr_0 (c := 3996) ht (by omega) (by omega), Or.inl (vcr_0 (c := 3926) ht (by omega) (by omega))⟩
      · rw [vcr_ne ht (by omega), g1 i (by omega)]
      · rw [vcr_ne ht (by omega), g2 k hk]
      · obtain ⟨k, k1, k2⟩ := hI.2.2.2.2.1
        exact ⟨k, k1, by rw [vcr_ne ht (by omega), g1 _ (by omega)]; exact k2⟩
    · rw [if_neg d]; exact hI
  · rw [if_neg c]; exact hI
/-- a task is out -/
theorem vi_out (hI : VI lim B V) (ht : t < 6) : VI lim (B + 1) (vot V t) := by
  obtain ⟨g1, g2⟩ := vga_is (hI.sid ht) ht
  have hne : ∀ i, i ≠ 2067 → i ≠ 2055 → i ≠ 3926 + t → (vot V t).1 i = (vga V t).1 i := fun i h1 h2 h3 => by
    unfold vot vlg1
    rw [vs_ne h1, vcn_ne (by omega), vs_ne h3]
  refine hI.idl ht (vga_2 (V := V)) (fun i hi => ?_) (fun k hk => ?_) ?_ ⟨?_, ?_, ?_, ?_, ?_, ?_, Or.inr (Or.inr ?_)⟩
  · rw [hne i (by omega) (by omega) (by omega), g1 i (by omega)]
  · rw [hne _ (by omega) (by omega) (by omega), g2 k hk]
  · obtain ⟨k, k1, k2⟩ := hI.2.2.2.2.1
    refine ⟨k + 1, by omega, ?_⟩
    show mj_upd (vcn (vs (vga V t) (3926 + t) 4) 1 1).1 2067 ((vcn (vs (vga V t) (3926 + t) 4) 1 1).1 2067 + 1) 2067 = _
    rw [mj_upd_self, vcn_ne (by omega), vs_ne (by omega), g1 _ (by omega), k2, nI_1]
  · rw [hne _ (by omega) (by omega) (by omega), vga_1, mj_upd_ne (by omega), mj_upd_ne (by omega), mj_upd_self]
  · rw [hne _ (by omega) (by omega) (by omega), vga_1, mj_upd_ne (by omega), mj_upd_ne (by omega), mj_upd_ne (by omega), mj_upd_self]
  · rw [hne _ (by omega) (by omega) (by omega), vga_1, mj_upd_ne (by omega), mj_upd_self]
  · rw [hne _ (by omega) (by omega) (by omega), vga_1, mj_upd_self]
  · rw [hne _ (by omega) (by omega) (by omega), vga_1, mj_upd_ne (by omega), mj_upd_ne (by omega), mj_upd_ne (by omega), mj_upd_ne (by omega), mj_upd_ne (by omega), mj_upd_self]
  · rw [hne _ (by omega) (by omega) (by omega), vga_1, mj_upd_ne (by omega), mj_upd_ne (by omega), mj_upd_ne (by omega), mj_upd_ne (by omega), mj_upd_self]
  · unfold vot vlg1
    rw [vs_ne (by omega), vcn_ne (by omega)]
    exact mj_upd_self
theorem mj_upd2 {f : Nat → Nat} {x y : Nat} : mj_upd (mj_upd f t x) t y = mj_upd f t y := by
  funext j
  by_cases e : j = t
  · subst e; rw [mj_upd_self, mj_upd_self]
  · rw [mj_upd_ne e, mj_upd_ne e, mj_upd_ne e]
/-- a task is done -/
theorem vi_dn {Z : (Nat → Int32) → Int32 → Int32 → Int32 → Bool} {x y v : Int32} (hI : VI lim B V) (ht : t < 6) : VI lim (B + 1) (vdn Z (vnf (vs (vs V (3961 + t) x) (3954 + t) y) t 0) t v) := by
  generalize hU : vs (vs (vnf (vs (vs V (3961 + t) x) (3954 + t) y) t 0) (3926 + t) 3) (3940 + t) v = U
  have hat : ∀ i, i ≠ 3961 + t → i ≠ 3954 + t → i ≠ 3926 + t → i ≠ 3940 + t → U.1 i = V.1 i := fun i h1 h2 h3 h4 => by
    rw [← hU, vs_ne h4, vs_ne h3]
    show (vs (vs V (3961 + t) x) (3954 + t) y).1 i = V.1 i
    rw [vs_ne h2, vs_ne h1]
  have h3926 : U.1 (3926 + t) = 3 := by
    rw [← hU, vs_ne (by omega)]
    exact mj_upd_self
  have hU2 : U.2 = (V.2.1, mj_upd V.2.2.1 t 0, V.2.2.2) := by rw [← hU]; rfl
  obtain ⟨g1, g2⟩ := vga_is (V := U) (t := t) (by rw [hat _ (by omega) (by omega) (by omega) (by omega)]; exact hI.sid ht) ht
  have hd : vdn Z (vnf (vs (vs V (3961 + t) x) (3954 + t) y) t 0) t v = vinc (vlg1 (vcn (vga U t) 0 1)) 2066 ∨ vdn Z (vnf (vs (vs V (3961 + t) x) (3954 + t) y) t 0) t v = vlg1 (vcn (vga U t) 0 1) := by
    unfold vdn
    dsimp only
    rw [hU]
    split
    · exact Or.inl rfl
    · exact Or.inr rfl
  generalize hW : vdn Z (vnf (vs (vs V (3961 + t) x) (3954 + t) y) t 0) t v = W at hd ⊢
  have hne : ∀ i, i ≠ 2067 → i ≠ 2066 → i ≠ 2054 → W.1 i = (vga U t).1 i := fun i h1 h2 h3 => by
    rcases hd with e | e
    · rw [e, vinc_ne h2]
      unfold vlg1
      rw [vs_ne h1, vcn_ne (by omega)]
    · rw [e]
      unfold vlg1
      rw [vs_ne h1, vcn_ne (by omega)]
  have hlg : W.1 2067 = V.1 2067 + 1 := by
    have : (vlg1 (vcn (vga U t) 0 1)).1 2067 = V.1 2067 + 1 := by
      show mj_upd (vcn (vga U t) 0 1).1 2067 ((vcn (vga U t) 0 1).1 2067 + 1) 2067 = _
      rw [mj_upd_self, vcn_ne (by omega), g1 _ (by omega), hat _ (by omega) (by omega) (by omega) (by omega)]
    rcases hd with e | e
    · rw [e, vinc_ne (by omega)]; exact this
    · rw [e]; exact this
  have hW2 : W.2 = (V.2.1.filter (fun q => decide (q.2.2.1 ≠ t)), mj_upd V.2.2.1 t 0, V.2.2.2) := by
    have : (vga U t).2 = (V.2.1.filter (fun q => decide (q.2.2.1 ≠ t)), mj_upd V.2.2.1 t 0, V.2.2.2) := by
      rw [vga_2, hU2, mj_upd2]
    rcases hd with e | e
    · rw [e]; exact this
    · rw [e]; exact this
  refine hI.idl ht hW2 (fun i hi => ?_) (fun k hk => ?_) ?_ ⟨?_, ?_, ?_, ?_, ?_, ?_, Or.inr (Or.inl ?_)⟩
  · rw [hne i (by omega) (by omega) (by omega), g1 i (by omega), hat i (by omega) (by omega) (by omega) (by omega)]
  · rw [hne _ (by omega) (by omega) (by omega), g2 k hk, hat _ (by omega) (by omega) (by omega) (by omega), hat _ (by omega) (by omega) (by omega) (by omega)]
  · obtain ⟨k, k1, k2⟩ := hI.2.2.2.2.1
    exact ⟨k + 1, by omega, by rw [hlg, k2, nI_1]⟩
  · rw [hne _ (by omega) (by omega) (by omega), vga_1, mj_upd_ne (by omega), mj_upd_ne (by omega), mj_upd_self]
  · rw [hne _ (by omega) (by omega) (by omega), vga_1, mj_upd_ne (by omega), mj_upd_ne (by omega), mj_upd_ne (by omega), mj_upd_self]
  · rw [hne _ (by omega) (by omega) (by omega), vga_1, mj_upd_ne (by omega), mj_upd_self]
  · rw [hne _ (by omega) (by omega) (by omega), vga_1, mj_upd_self]
  · rw [hne _ (by omega) (by omega) (by omega), vga_1, mj_upd_ne (by omega), mj_upd_ne (by omega), mj_upd_ne (by omega), mj_upd_ne (by omega), mj_upd_ne (by omega), mj_upd_self]
  · rw [hne _ (by omega) (by omega) (by omega), vga_1, mj_upd_ne (by omega), mj_upd_ne (by omega), mj_upd_ne (by omega), mj_upd_ne (by omega), mj_upd_self]
  · rw [hne _ (by omega) (by omega) (by omega), vga_1, mj_upd_ne (by omega), mj_upd_ne (by omega), mj_upd_ne (by omega), mj_upd_ne (by omega), mj_upd_ne (by omega), mj_upd_ne (by omega)]
    have hs : U.1 (3989 + t) = -1 ∨ ∃ k, k < 3 ∧ U.1 (3989 + t) = nI k := by
      rw [hat _ (by omega) (by omega) (by omega) (by omega)]; exact hI.sid ht
    rcases hs with e | ⟨j, j1, j2⟩
    · rw [if_pos e]; exact h3926
    · rw [if_neg (by rw [j2]; exact nI_m1 (by omega)), j2, nI_int (by omega), mj_upd_ne]
      · exact h3926
      · show 3926 + t ≠ 3923 + j
        omega
end
