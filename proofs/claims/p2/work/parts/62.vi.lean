/-! ===== what holds of a task that is busy ===== -/
theorem vos_w {w w' : Nat → Int32} {ps : List vP} {t N : Nat} {fr : Nat → vF} (hw : vpe w w') (hp : Ipr w) (hf : Ifr w ps t N fr) : ∀ m, m ≤ N → vos w' fr m = vos w fr m := by
  intro m
  induction m with
  | zero => intro _; rfl
  | succ m ih =>
    intro hm
    unfold vos
    rw [ih (by omega)]
    congr 1
    unfold vfo
    split
    · rename_i c
      cases m with
      | zero => rcases hf.2.1 with e | e <;> omega
      | succ m =>
        obtain ⟨d1, d2, d3, d4, -⟩ := hf.2.2.1 m (by omega)
        have hfm := (hf.1 m (by omega)).1
        have hl := (hp.li hfm).2
        rw [hw.co (by rw [d2]; exact hfm) (by omega) (by omega)]
    · rfl
def vLn (v : Int32) : Prop := ∃ l, l ≤ 16 ∧ v = nI l
section
variable {lim B t : Nat} {V : vV}
theorem Ibz.vs {i : Nat} {v : Int32} (hb : Ibz lim V t) (hp : Ipr V.1) (hi : (i < 2228 ∨ 2898 ≤ i) ∧ i ≠ 2050 ∧ i ≠ 2051 ∧ (i < 3923 ∨ 3926 ≤ i)) (h : i ≠ 3954 + t ∧ i ≠ 4066 + t ∧ i ≠ 3933 + t ∧ i ≠ 3961 + t ∧ i ≠ 3982 + t ∧ i ≠ 3975 + t ∧ i ≠ 3996 + t ∧ i ≠ 3989 + t ∧ i ≠ 4052 + t) (hl : i = 3968 + t → vLn v) : Ibz lim (mj_upd V.1 i v, V.2) t := by
  have hw : vpe V.1 (mj_upd V.1 i v) := vpe.upd (by omega)
  obtain ⟨n, np, c1, c2, c3, c4, c5, c6, c7, c8, c9, c10, c11, c12, c13, c14, c15, c16, c17⟩ := hb
  have hf : ∀ j, j < n + 1 → (V.2.2.2 t j).1 < 10 := fun j hj => (c9.1 j hj).1
  have hvos := vos_w hw hp c9
  refine ⟨n, np, c1, (mj_upd_ne (by omega)).trans c2, (mj_upd_ne (by omega)).trans c3, c4, c5, ?_, c7.ww hw hf, c8, c9.ww hw hp, ?_, (mj_upd_ne (by omega)).trans c11, (mj_upd_ne (by omega)).trans c12, ?_, ?_, ?_, ?_, ?_⟩
  · show (mj_upd V.1 i v (3933 + t) = 0 ∧ _) ∨ mj_upd V.1 i v (3933 + t) = 1
    rw [mj_upd_ne (by omega)]; exact c6
  · show mj_upd V.1 i v (3961 + t) = nI (vus (mj_upd V.1 i v) (V.2.2.2 t) (n + 1))
    rw [mj_upd_ne (by omega), (hw.us (k := 0) hf).1]; exact c10
  · show ∃ l, l ≤ 16 ∧ mj_upd V.1 i v (3968 + t) = nI l
    by_cases e : i = 3968 + t
    · obtain ⟨l, l1, l2⟩ := hl e
      subst e
      exact ⟨l, l1, by rw [mj_upd_self]; exact l2⟩
    · rw [mj_upd_ne (by omega)]; exact c13
  · show mj_upd V.1 i v (3996 + t) = nI (vos (mj_upd V.1 i v) (V.2.2.2 t) (n + 1))
    rw [mj_upd_ne (by omega), hvos _ (Nat.le_refl _)]; exact c14
  · show vos (mj_upd V.1 i v) (V.2.2.2 t) (n + 1) ≤ _
    rw [hvos _ (Nat.le_refl _)]; exact c15
  · show (mj_upd V.1 i v (3989 + t) = -1 ∧ vos (mj_upd V.1 i v) (V.2.2.2 t) (n + 1) = 0) ∨ ∃ k, k < 3 ∧ mj_upd V.1 i v (3989 + t) = nI k ∧ mj_upd V.1 i v (3923 + k) = nI t ∧ 1 ≤ vos (mj_upd V.1 i v) (V.2.2.2 t) (n + 1)
    rw [mj_upd_ne (by omega), hvos _ (Nat.le_refl _)]
    rcases c16 with c16 | ⟨k, k1, k2, k3, k4⟩
    · exact Or.inl c16
    · exact Or.inr ⟨k, k1, k2, (mj_upd_ne (by omega)).trans k3, k4⟩
  · show tld (mj_upd V.1 i v) (mj_upd V.1 i v (4052 + t))
    rw [mj_upd_ne (by omega)]
    exact hw.tl.mpr c17
/-- a scalar that nothing hangs on; or LINE -/
theorem VI.vs {i : Nat} {v : Int32} (hI : VI lim B V) (ht : t < 6) (hb : vbz V.1 t) (ho : vown t i) (h : i ≠ 3926 + t ∧ i ≠ 3954 + t ∧ i ≠ 4066 + t ∧ i ≠ 3933 + t ∧ i ≠ 3961 + t ∧ i ≠ 3982 + t ∧ i ≠ 3975 + t ∧ i ≠ 3996 + t ∧ i ≠ 3989 + t ∧ i ≠ 4052 + t ∧ i ≠ 2067) (hl : i = 3968 + t → vLn v) : VI lim B (mj_upd V.1 i v, V.2) := by
  have hi : (i < 2228 ∨ 3926 ≤ i) ∧ 2054 ≤ i := by rcases ho with g | ⟨j, g1, g2⟩ <;> omega
  refine hI.ot (B' := B) (OT.vs (v := v) ht ho) ht ⟨hI.2.2.1.1, hI.2.2.1.2.1, hI.2.2.1.2.2⟩ ?_ ?_ ?_
  · intro k hk
    show mj_upd V.1 i v (3923 + k) = -1 ∨ ∃ t, t < 6 ∧ mj_upd V.1 i v (3923 + k) = nI t ∧ mj_upd V.1 i v (3989 + t) = nI k
    rw [mj_upd_ne (by omega)]
    rcases hI.2.2.2.1 k hk with e | ⟨t', g1, g2, g3⟩
    · exact Or.inl e
    · refine Or.inr ⟨t', g1, g2, (mj_upd_ne ?_).trans g3⟩
      rcases ho with g | ⟨j, g4, g5⟩ <;> omega
  · obtain ⟨k, k1, k2⟩ := hI.2.2.2.2.1
    exact ⟨k, k1, (mj_upd_ne (by omega)).trans k2⟩
  · rcases hI.2.2.2.2.2 t ht with ⟨b1, b2⟩ | b
    · refine Or.inl ⟨?_, b2.vs hI.2.1 (by omega) (by omega) hl⟩
      unfold vbz at b1 ⊢
      show mj_upd V.1 i v (3926 + t) = 1 ∨ mj_upd V.1 i v (3926 + t) = 2
      rw [mj_upd_ne (by omega)]
      exact b1
    · exfalso
      rcases hb with e | e <;> rcases b.2.2.2.2.2.2.2.1 with g | g | g <;> rw [e] at g <;> exact absurd g (by decide)
/-- all that a step wants -/
theorem VI.opn (hI : VI lim B V) (ht : t < 6) (hb : vbz V.1 t) (hl : lim ≤ 10000) : ∃ np z z2 z3 k l, Vpre lim V t np z ∧ 0 < V.2.2.1 t ∧ (V.1 2049 = 0 ∨ V.1 2049 = 1) ∧ (V.1 2051 = nI z2 ∧ 10 ≤ z2 ∧ z2 ≤ 80) ∧ (V.1 2052 = nI z3 ∧ 1 ≤ z3 ∧ z3 ≤ 3) ∧ (V.1 2067 = nI k ∧ k ≤ B) ∧ (V.1 (3968 + t) = nI l ∧ l ≤ 16) ∧ (V.1 (3989 + t) = -1 ∨ ∃ k, k < 3 ∧ V.1 (3989 + t) = nI k) ∧ tld V.1 (V.1 (4052 + t)) ∧ (2048 ≤ (V.2.2.2 t (V.2.2.1 t - 1)).2.2.2.1 → ∃ ks, ks < 3 ∧ V.1 (3989 + t) = nI ks) := by
  have hJ := hI.J
  rcases hI.2.2.2.2.2 t ht with ⟨b1, b2⟩ | b
  · obtain ⟨n, np, c1, c2, c3, c4, c5, c6, c7, c8, c9, c10, c11, c12, ⟨l, l1, l2⟩, c14, c15, c16, c17⟩ := b2
    obtain ⟨⟨z, z1, z2, z3, z4⟩, s1, s2, ⟨r, r1, r2, r3⟩, ⟨d, d1, d2, d3⟩, -⟩ := hI.1
    obtain ⟨k, k1, k2⟩ := hI.2.2.2.2.1
    have hzz : (V.1 2048).toInt.toNat = z := by rw [z1, nI_int (by omega)]; rfl
    refine ⟨np, z, r, d, k, l, ⟨hJ, ⟨by rw [c1]; exact c2, c3, c4, c5, c6, by rw [c1]; exact c10, fun _ => ?_, fun h0 => by omega⟩, ht, z1, z2, z3, hl, z4, fun q hq => by have := hI.2.2.1.2.2 q hq; omega⟩, by omega, s1, ⟨r1, r2, r3⟩, ⟨d1, d2, d3⟩, ⟨k2, k1⟩, ⟨l2, l1⟩, ?_, c17, fun hcb => ?_⟩
    · rw [c1, Nat.add_sub_cancel]
      exact ⟨c7, c8, c9, c11, c12⟩
    · rcases c16 with c16 | ⟨k, k1, k2, -⟩
      · exact Or.inl c16.1
      · exact Or.inr ⟨k, k1, k2⟩
    · rw [c1, Nat.add_sub_cancel] at hcb
      rcases c16 with ⟨-, c16⟩ | ⟨k, k1, k2, -⟩
      · exfalso
        have hfo : 1 ≤ vfo V.1 (V.2.2.2 t n) := by
          unfold vfo
          rw [if_pos hcb]
          cases n with
          | zero => rcases c9.2.1 with e | e <;> omega
          | succ n =>
            obtain ⟨e1, e2, e3, e4, e5⟩ := c9.2.2.1 n (by omega)
            have hfn := (c9.1 n (by omega)).1
            rcases e5 with ⟨e5, -⟩ | ⟨-, e5, -⟩
            · omega
            · have hv := (hI.2.1 _ hfn).2.2 _ e4
              unfold vlin vcan at hv
              obtain ⟨⟨x, x1, x2, x3⟩, -⟩ := hv.2.2.2.2.2.2.2.2.2 e5
              rw [e2, x1, nI_int (by omega)]
              show 1 ≤ (x : Int).toNat
              omega
        unfold vos at c16
        omega
      · exact ⟨k, k1, k2⟩
  · exfalso
    rcases hb with e | e <;> rcases b.2.2.2.2.2.2.2.1 with g | g | g <;> rw [e] at g <;> exact absurd g (by decide)
end
