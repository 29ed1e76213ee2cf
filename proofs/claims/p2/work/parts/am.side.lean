/-! ===== the class: sides, the end of a foreign call ===== -/
section
variable {b lim : Nat} {s : wt_S} {V : vV} {zs : List (vP × Nat)} {fr : List Nat} {t ks : Nat} {words l1 : Int32} {K2 : wt_S → Int32 → Option (Int32 × wt_S)}
theorem fs_a : ∀ m j fu, j + m = 6 → m < fu → gX9_freeSide_26 b K2 fu s l1 0 6 (nI j) = K2 s (l1 + 1) := by
  have l6 : (6 : Int32).toInt = 6 := rfl
  intro m
  induction m with
  | zero =>
    intro j fu hj hfu
    obtain ⟨fu, rfl⟩ : ∃ m, fu = m + 1 := ⟨fu - 1, by omega⟩
    rw [gX9_freeSide_26, if_pos (by rw [l6, nI_int (by omega)]; omega), if_pos rfl]
  | succ m ih =>
    intro j fu hj hfu
    obtain ⟨fu, rfl⟩ : ∃ m, fu = m + 1 := ⟨fu - 1, by omega⟩
    rw [gX9_freeSide_26, if_neg (by rw [l6, nI_int (by omega)]; omega), ix_nI (by omega) (by omega), if_pos rfl]
    unfold gX9_freeSide_56 gX9_freeSide_57
    rw [nI_1, ih (j + 1) fu (by omega) (by omega)]
theorem fs_b : ∀ m j fu, j + m = 6 → m < fu → (∀ j', j ≤ j' → j' < 6 → s (b + 17 + 2 * j') 7 ≠ l1) → gX9_freeSide_26 b K2 fu s l1 1 6 (nI j) = some (l1, s) := by
  have l6 : (6 : Int32).toInt = 6 := rfl
  intro m
  induction m with
  | zero =>
    intro j fu hj hfu _
    obtain ⟨fu, rfl⟩ : ∃ m, fu = m + 1 := ⟨fu - 1, by omega⟩
    rw [gX9_freeSide_26, if_pos (by rw [l6, nI_int (by omega)]; omega), if_neg (by decide)]
  | succ m ih =>
    intro j fu hj hfu hn
    obtain ⟨fu, rfl⟩ : ∃ m, fu = m + 1 := ⟨fu - 1, by omega⟩
    rw [gX9_freeSide_26, if_neg (by rw [l6, nI_int (by omega)]; omega), ix_nI (by omega) (by omega), if_neg (by decide), if_neg (hn j (Nat.le_refl _) (by omega))]
    unfold gX9_freeSide_57
    rw [nI_1, ih (j + 1) fu (by omega) (by omega) (fun j' h1 h2 => hn j' (by omega) h2)]
theorem fs_c {j0 : Nat} (h0 : j0 < 6) (he : s (b + 17 + 2 * j0) 7 = l1) : ∀ m j fu, j + m = 6 → m < fu → j ≤ j0 → gX9_freeSide_26 b K2 fu s l1 1 6 (nI j) = K2 s (l1 + 1) := by
  have l6 : (6 : Int32).toInt = 6 := rfl
  intro m
  induction m with
  | zero =>
    intro j fu hj hfu hl
    omega
  | succ m ih =>
    intro j fu hj hfu hl
    obtain ⟨fu, rfl⟩ : ∃ m, fu = m + 1 := ⟨fu - 1, by omega⟩
    rw [gX9_freeSide_26, if_neg (by rw [l6, nI_int (by omega)]; omega), ix_nI (by omega) (by omega), if_neg (by decide)]
    by_cases c : s (b + 17 + 2 * j) 7 = l1
    · rw [if_pos c]
      unfold gX9_freeSide_56 gX9_freeSide_57
      rw [nI_1, fs_a m (j + 1) fu (by omega) (by omega)]
    · rw [if_neg c]
      unfold gX9_freeSide_57
      have : j ≠ j0 := fun e => c (by rw [e]; exact he)
      rw [nI_1, ih (j + 1) fu (by omega) (by omega) (by omega)]
theorem c_freeSide {z : Nat} (h : RC b lim s V zs fr) (hsd : Isd V.1) (hS : ∀ t', t' < 6 → ∀ k, k < 3 → V.1 (3989 + t') = nI k → V.1 (3923 + k) = nI t') (hz : V.1 2052 = nI z) (hz3 : z ≤ 3) : gX9_freeSide b s = some (oI (vfs V.1 z 0), s) := by
  have hg : s (b + 1) 4 = nI z := (h.2.2.1.1 4 (by omega)).trans hz
  have loop : ∀ (m k fu : Nat), k + m = z → m < fu → gX9_freeSide_2 b fu s (nI k) = some (oI (vfs V.1 m k), s) := by
    intro m
    induction m with
    | zero =>
      intro k fu hk hfu
      obtain ⟨fu, rfl⟩ : ∃ m, fu = m + 1 := ⟨fu - 1, by omega⟩
      rw [gX9_freeSide_2, hg, nI_int (by omega), nI_int (by omega), if_pos (by omega)]
      rfl
    | succ m ih =>
      intro k fu hk hfu
      obtain ⟨fu, rfl⟩ : ∃ m, fu = m + 1 := ⟨fu - 1, by omega⟩
      have ev : vfs V.1 (m + 1) k = if V.1 (3923 + k) = -1 then some k else vfs V.1 m (k + 1) := by rw [vfs]
      rw [gX9_freeSide_2, hg, nI_int (by omega), nI_int (by omega), if_neg (by omega), ev]
      by_cases c : V.1 (3923 + k) = -1
      · rw [if_pos c, show (0 : Int32) = nI 0 from rfl, fs_b 6 0 wt_N (by omega) (by unfold wt_N; omega) (fun j' _ hj' he => ?_)]
        · rfl
        · rw [h.at hj' (e := (7, 3989)) (by decide)] at he
          have := hS j' hj' k (by omega) he
          rw [c] at this
          exact nI_m1 (by omega) this.symm
      · rw [if_neg c]
        rcases hsd k (by omega) with e | ⟨t', t1, t2, t3⟩
        · exact absurd e c
        · rw [show (0 : Int32) = nI 0 from rfl, fs_c (j0 := t') t1 (by rw [h.at t1 (e := (7, 3989)) (by decide)]; exact t3) 6 0 wt_N (by omega) (by unfold wt_N; omega) (by omega), nI_1, ih (k + 1) fu (by omega) (by omega)]
  exact loop z 0 wt_N (by omega) (by unfold wt_N; omega)
theorem vs_cm {i j : Nat} {v w : Int32} (h : i ≠ j) : vs (vs V i v) j w = vs (vs V j w) i v := by
  unfold vs
  refine Prod.ext (funext fun x => ?_) rfl
  show mj_upd (mj_upd V.1 i v) j w x = mj_upd (mj_upd V.1 j w) i v x
  by_cases e1 : x = j
  · subst e1
    rw [mj_upd_self, mj_upd_ne (Ne.symm h), mj_upd_self]
  · rw [mj_upd_ne e1]
    by_cases e2 : x = i
    · subst e2
      rw [mj_upd_self, mj_upd_self]
    · rw [mj_upd_ne e2, mj_upd_ne e2, mj_upd_ne e1]
theorem vcn_cm {i k : Nat} {v w : Int32} (h : i ≠ 2054 + k) : vcn (vs V i v) k w = vs (vcn V k w) i v := by
  unfold vcn
  rw [vs_ne (Ne.symm h), vs_cm h]
theorem c_ef {m : Nat} (h : RC b lim s V zs fr) (hx : CX b lim) (hp : Ipr V.1) (hf : VFR V) (ht : t < 6) (hm : V.1 (3996 + t) - words = nI m) (hm2 : m < 2147483648) (hks : ks < 3) (hs : V.1 (3989 + t) = nI ks) : ∃ s', gX2_endForeign b (b + 17 + 2 * t) s words = some ((), s') ∧ RC b lim s' (vfv V t words) zs fr ∧ TO b t s s' := by
  have hpv : ∀ {i : Nat} {v : Int32} {U : vV}, Ipr U.1 → ((i < 2228 ∨ 2898 ≤ i) ∧ i ≠ 2050 ∧ i ≠ 2051) → Ipr (vs U i v).1 := fun {i v U} h1 h2 => Ipr.vs1 h1 h2
  have a1 := h.ut hx hp hf ht (e := (8, 3996)) (by decide) (v := V.1 (3996 + t) - words) (fun q => absurd q (by decide))
  have e8 := h.at ht (e := (8, 3996)) (by decide)
  have hto1 : TO b t s (wt_u s (b + 17 + 2 * t) 8 (V.1 (3996 + t) - words)) := TO.u (Or.inr (Or.inl rfl)) ht
  unfold gX2_endForeign
  rw [wr_eq, show s (b + 17 + 2 * t) 8 = V.1 (3996 + t) from e8, wt_u_self]
  unfold vfv
  dsimp only
  rw [vs_at]
  have a1 : RC b lim (wt_u s (b + 17 + 2 * t) 8 (V.1 (3996 + t) - words)) (vs V (3996 + t) (V.1 (3996 + t) - words)) zs fr := a1
  by_cases c : V.1 (3996 + t) - words ≠ 0
  · rw [if_pos c, if_pos (by
      rw [hm] at c ⊢
      rw [nI_int hm2]
      rcases Nat.eq_zero_or_pos m with rfl | hq
      · exact absurd rfl c
      · omega)]
    unfold gX2_endForeign_22
    obtain ⟨s', b1, b2, b3, -⟩ := c_addn (k := 9) (v := 1) a1 hx (hpv hp (by omega)) hf ht (by omega)
    refine ⟨s', by rw [show (9 : Int32) = nI 9 from rfl, b1, cl_some], ?_, hto1.trans b3⟩
    rw [vcn_cm (by omega)] at b2
    exact b2
  · rw [if_neg c, if_neg (by rw [Decidable.not_not.mp c]; decide), wr_eq]
    unfold gX2_endForeign_22
    have a2 := a1.ut hx (hpv hp (by omega)) hf ht (e := (7, 3989)) (by decide) (v := -1) (fun q => absurd q (by decide))
    have a2 : RC b lim (wt_u (wt_u s (b + 17 + 2 * t) 8 (V.1 (3996 + t) - words)) (b + 17 + 2 * t) 7 (-1)) (vs (vs V (3996 + t) (V.1 (3996 + t) - words)) (3989 + t) (-1)) zs fr := a2
    obtain ⟨s', b1, b2, b3, -⟩ := c_addn (k := 9) (v := 1) a2 hx (hpv (hpv hp (by omega)) (by omega)) hf ht (by omega)
    have hto2 : TO b t (wt_u s (b + 17 + 2 * t) 8 (V.1 (3996 + t) - words)) (wt_u (wt_u s (b + 17 + 2 * t) 8 (V.1 (3996 + t) - words)) (b + 17 + 2 * t) 7 (-1)) := TO.u (Or.inr (Or.inl rfl)) ht
    refine ⟨s', by rw [show (9 : Int32) = nI 9 from rfl, b1, cl_some], ?_, (hto1.trans hto2).trans b3⟩
    have b4 := b2.v hx (by
      show Ipr (vcn (vs (vs V (3996 + t) (V.1 (3996 + t) - words)) (3989 + t) (-1)) 9 1).1
      exact hpv (hpv (hpv hp (by omega)) (by omega)) (by omega)) hf (i := 3923 + (V.1 (3989 + t)).toInt.toNat) (v := -1) (by rw [hs, nI_int (by omega)]; right; right; show 3923 ≤ 3923 + ks ∧ 3923 + ks < 3926; omega)
    rw [vcn_cm (by omega), vcn_cm (by omega), vs_cm (i := 3989 + t) (by rw [hs, nI_int (by omega)]; show 3989 + t ≠ 3923 + ks; omega)] at b4
    exact b4
end
