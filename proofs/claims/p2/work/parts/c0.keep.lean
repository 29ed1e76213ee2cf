/-! ===== no step changes with what a task began ===== -/
def KE (t : Nat) (V V' : vV) : Prop := (V'.1 (4052 + t) = V.1 (4052 + t) ∧ V'.1 (4059 + t) = V.1 (4059 + t)) ∧ Sd t V'
section
variable {t lim : Nat} {V V1 V2 : vV}
theorem KE.refl (h : Sd t V) : KE t V V := ⟨⟨rfl, rfl⟩, h⟩
theorem KE.trans (h : KE t V V1) (h' : KE t V1 V2) : KE t V V2 := ⟨⟨h'.1.1.trans h.1.1, h'.1.2.trans h.1.2⟩, h'.2⟩
theorem ke_vs {i : Nat} {v : Int32} (h : Sd t V) (hi : i ≠ 4052 + t ∧ i ≠ 4059 + t ∧ i ≠ 3989 + t) : KE t V (vs V i v) := ⟨⟨vs_ne (by omega), vs_ne (by omega)⟩, by unfold Sd; rw [vs_ne (by omega)]; exact h⟩
theorem ke_m1 : KE t V (vs V (3989 + t) (-1)) := ⟨⟨vs_ne (by omega), vs_ne (by omega)⟩, Or.inl vs_at⟩
theorem ke_same (h : Sd t V) (e : V1.1 = V.1) : KE t V V1 := ⟨⟨by rw [e], by rw [e]⟩, by unfold Sd; rw [e]; exact h⟩
theorem KE.s {i : Nat} {v : Int32} (h : KE t V V1) (hi : i ≠ 4052 + t ∧ i ≠ 4059 + t ∧ i ≠ 3989 + t) : KE t V (vs V1 i v) := h.trans (ke_vs h.2 hi)
theorem KE.p {ps : List vP} (h : KE t V V1) : KE t V (vps V1 ps) := h.trans (ke_same h.2 rfl)
theorem KE.n {n : Nat} (h : KE t V V1) : KE t V (vnf V1 t n) := h.trans (ke_same h.2 rfl)
theorem KE.c {k : Nat} {v : Int32} (h : KE t V V1) (hk : k < 12) : KE t V (vcn V1 k v) := h.trans (ke_vs h.2 (by omega))
theorem KE.l (h : KE t V V1) : KE t V (vlg1 V1) := h.trans (ke_vs h.2 (by omega))
theorem KE.i {i : Nat} (h : KE t V V1) (hi : i ≠ 4052 + t ∧ i ≠ 4059 + t ∧ i ≠ 3989 + t) : KE t V (vinc V1 i) := h.trans (ke_vs h.2 hi)
theorem ke_ga (h : Sd t V) : KE t V (vga V t) := by
  unfold vga
  dsimp only
  have h1 : KE t V (if V.1 (3989 + t) = -1 then vps V (V.2.1.filter (fun q => decide (q.2.2.1 ≠ t))) else vs (vps V (V.2.1.filter (fun q => decide (q.2.2.1 ≠ t)))) (3923 + (V.1 (3989 + t)).toInt.toNat) (-1)) := by
    split
    · exact ke_same h rfl
    · rename_i c
      obtain ⟨k, k1, k2⟩ := h.resolve_left c
      rw [k2, nI_int (by omega), Int.toNat_natCast]
      exact (ke_same (V1 := vps V (V.2.1.filter (fun q => decide (q.2.2.1 ≠ t)))) h rfl).trans (ke_vs (V := vps V (V.2.1.filter (fun q => decide (q.2.2.1 ≠ t)))) h (by omega))
  exact KE.s (KE.s (KE.n (KE.s (KE.s (KE.s (h1.trans ke_m1) (by omega)) (by omega)) (by omega))) (by omega)) (by omega)
theorem ke_lg (h : Sd t V) : KE t V (vlg1 V) := ke_vs h (by omega)
theorem ke_cn {k : Nat} {v : Int32} (h : Sd t V) (hk : k < 12) : KE t V (vcn V k v) := ke_vs h (by omega)
theorem ke_inc {i : Nat} (h : Sd t V) (hi : i ≠ 4052 + t ∧ i ≠ 4059 + t ∧ i ≠ 3989 + t) : KE t V (vinc V i) := ke_vs h hi
theorem ke_out (h : Sd t V) : KE t V (vot V t) := by
  unfold vot
  have h1 := ke_ga h
  have h2 := h1.trans (ke_vs (i := 3926 + t) (v := 4) h1.2 (by omega))
  have h3 := h2.trans (ke_cn (k := 1) (v := 1) h2.2 (by omega))
  exact h3.trans (ke_lg h3.2)
theorem ke_sp (h : Sd t V) : KE t V (vsp V t) := by
  unfold vsp
  split
  · have h1 := ke_lg h
    exact h1.trans (ke_same h1.2 rfl)
  · exact KE.refl h
theorem ke_mv {g words : Nat} (h : Sd t V) : KE t V (vmv V t g words) := by
  unfold vmv
  dsimp only
  exact KE.c (KE.s (KE.p (KE.s (KE.refl h) (by omega))) (by omega)) (by omega)
theorem ke_spl {need : Nat} (h : Sd t V) : KE t V (vspl lim V t need).2 := by
  unfold vspl
  dsimp only
  split
  · exact KE.refl h
  · exact KE.i (KE.l (KE.c (KE.i (KE.p (KE.refl h)) (by omega)) (by omega))) (by omega)
theorem ke_gr {need : Nat} (h : Sd t V) : KE t V (vgr lim V t need).2 := by
  unfold vgr
  split
  · dsimp only
    split
    · exact KE.refl h
    · exact KE.l (KE.c (KE.i (ke_mv h) (by omega)) (by omega))
  · split
    · split
      · exact KE.i (KE.l (KE.c (KE.i (KE.p (KE.refl h)) (by omega)) (by omega))) (by omega)
      · exact (ke_sp h).trans (ke_spl (ke_sp h).2)
    · exact ke_spl h
theorem ke_rm {f : Nat} (h : Sd t V) : KE t V (vrm lim V t f).2 := by
  have h1 := ke_inc (i := 4003 + t) h (by omega)
  have h2 := h1.trans (ke_cn (k := 3) (v := 1) h1.2 (by omega))
  have h3 := h2.trans (ke_gr (lim := lim) (need := vnd V.1 f) h2.2)
  unfold vrm
  dsimp only
  split
  · exact h2
  · split
    · rename_i V2 e
      rw [e] at h3
      exact h3
    · rename_i V2 e
      rw [e] at h3
      exact h3.trans (ke_out h3.2)
theorem ke_pu {f bk : Nat} {a : Int32} {q : Option (Nat × Nat)} (h : Sd t V) : KE t V (vpu V t f bk a q) := by
  obtain ⟨w1, -⟩ := vpu_w (V := V) (t := t) (f := f) (bk := bk) (a := a) (q := q)
  exact ⟨⟨w1 _ (by omega) (by omega) (by omega) (by omega) (by omega) (by omega), w1 _ (by omega) (by omega) (by omega) (by omega) (by omega) (by omega)⟩, by unfold Sd; rw [w1 _ (by omega) (by omega) (by omega) (by omega) (by omega) (by omega)]; exact h⟩
theorem ke_cl {f bk : Nat} {hh : Int32 × Option (Nat × Nat)} (h : Sd t V) : KE t V (vcl lim V t f bk hh) := by
  have h3 := ke_rm (lim := lim) (f := f) h
  unfold vcl
  split
  · have h1 := ke_cn (k := 11) (v := 1) h (by omega)
    exact h1.trans (ke_pu h1.2)
  · split
    · rename_i V1 e
      rw [e] at h3
      exact h3.trans (ke_pu h3.2)
    · rename_i V1 e
      rw [e] at h3
      exact h3
theorem ke_fr {i : Nat} {F : vF} (h : Sd t V) : KE t V (vfr V t i F) := ke_same h rfl
theorem ke_nu {i k : Nat} {v : Int32} (h : Sd t V) : KE t V (vnu V t i k v) := ke_same h rfl
theorem ke_po {i k : Nat} {q : Option (Nat × Nat)} (h : Sd t V) : KE t V (vpo V t i k q) := ke_same h rfl
theorem ke_fv {words : Int32} (h : Sd t V) (hn : V.1 (3989 + t) ≠ -1) : KE t V (vfv V t words) := by
  obtain ⟨k, k1, k2⟩ := h.resolve_left hn
  have h1 := ke_cn (k := 9) (v := 1) h (by omega)
  have h2 := h1.trans (ke_vs (i := 3996 + t) (v := V.1 (3996 + t) - words) h1.2 (by omega))
  unfold vfv
  dsimp only
  split
  · exact h2
  · rw [k2, nI_int (by omega), Int.toNat_natCast]
    exact (h2.trans (ke_vs (i := 3923 + k) (v := -1) h2.2 (by omega))).trans ke_m1
theorem ke_lv {F : vF} (h : Sd t V) : KE t V (vlv V t F) := by
  unfold vlv
  split
  · exact KE.refl h
  · have h1 := ke_vs (i := 4066 + t) (v := V.1 (4066 + t) - 1) h (by omega)
    dsimp only
    split
    · have h2 := h1.trans (ke_lg h1.2)
      exact h2.trans (ke_same h2.2 rfl)
    · have h2 := h1.trans (ke_sp h1.2)
      have h3 := h2.trans (ke_same (V1 := vps (vsp (vs V (4066 + t) (V.1 (4066 + t) - 1)) t) ((vsp (vs V (4066 + t) (V.1 (4066 + t) - 1)) t).2.1.map (fun p => if vkey t F.2.1 p then (p.1, p.2.1, p.2.2.1, 1000) else p))) h2.2 rfl)
      exact h3.trans (ke_lg h3.2)
theorem ke_dn {Z : (Nat → Int32) → Int32 → Int32 → Int32 → Bool} {v : Int32} (h : Sd t V) : KE t V (vdn Z V t v) := by
  have h1 := ke_vs (i := 3926 + t) (v := 3) h (by omega)
  have h2 := h1.trans (ke_vs (i := 3940 + t) (v := v) h1.2 (by omega))
  have h3 := h2.trans (ke_ga h2.2)
  have h4 := h3.trans (ke_cn (k := 0) (v := 1) h3.2 (by omega))
  have h5 := h4.trans (ke_lg h4.2)
  unfold vdn
  dsimp only
  split
  · exact h5.trans (ke_inc (i := 2066) h5.2 (by omega))
  · exact h5
theorem ke_rt {Z : (Nat → Int32) → Int32 → Int32 → Int32 → Bool} {v : Int32} (h : Sd t V) (hcb : 2048 ≤ (V.2.2.2 t (V.2.2.1 t - 1)).2.2.2.1 → V.1 (3989 + t) ≠ -1) : KE t V (vrt Z V t v) := by
  have h1 := ke_vs (i := 3961 + t) (v := V.1 (3961 + t) - (V.1 (2228 + (V.2.2.2 t (V.2.2.1 t - 1)).1) + 2)) h (by omega)
  have h2 := h1.trans (ke_vs (i := 3954 + t) (v := V.1 (3954 + t) - 1) h1.2 (by omega))
  have h3 := h2.trans (ke_same (V1 := vnf (vs (vs V (3961 + t) (V.1 (3961 + t) - (V.1 (2228 + (V.2.2.2 t (V.2.2.1 t - 1)).1) + 2))) (3954 + t) (V.1 (3954 + t) - 1)) t (V.2.2.1 t - 1)) h2.2 rfl)
  have e89 : (vnf (vs (vs V (3961 + t) (V.1 (3961 + t) - (V.1 (2228 + (V.2.2.2 t (V.2.2.1 t - 1)).1) + 2))) (3954 + t) (V.1 (3954 + t) - 1)) t (V.2.2.1 t - 1)).1 (3989 + t) = V.1 (3989 + t) := (vs_ne (by omega)).trans (vs_ne (by omega))
  unfold vrt
  dsimp only
  generalize vnf (vs (vs V (3961 + t) (V.1 (3961 + t) - (V.1 (2228 + (V.2.2.2 t (V.2.2.1 t - 1)).1) + 2))) (3954 + t) (V.1 (3954 + t) - 1)) t (V.2.2.1 t - 1) = V1 at *
  split
  · exact h3.trans (ke_dn h3.2)
  · have hlv : ∀ i, i = 3989 + t → (vlv V1 t (V.2.2.2 t (V.2.2.1 t - 1))).1 i = V1.1 i := fun i hi => by
      unfold vlv
      split
      · rfl
      · dsimp only
        split
        · show (vlg1 (vs V1 (4066 + t) (V1.1 (4066 + t) - 1))).1 i = _
          rw [vlg1_ne (by omega), vs_ne (by omega)]
        · rw [vlg1_ne (by omega)]
          show (vsp (vs V1 (4066 + t) (V1.1 (4066 + t) - 1)) t).1 i = _
          rw [vsp_w (by omega), vs_ne (by omega)]
    have h4 : KE t V (if V.1 (3933 + t) = 1 then vlv V1 t (V.2.2.2 t (V.2.2.1 t - 1)) else V1) ∧ (if V.1 (3933 + t) = 1 then vlv V1 t (V.2.2.2 t (V.2.2.1 t - 1)) else V1).1 (3989 + t) = V.1 (3989 + t) := by
      split
      · exact ⟨h3.trans (ke_lv h3.2), (hlv _ rfl).trans e89⟩
      · exact ⟨h3, e89⟩
    generalize (if V.1 (3933 + t) = 1 then vlv V1 t (V.2.2.2 t (V.2.2.1 t - 1)) else V1) = V2 at *
    obtain ⟨h4, e4⟩ := h4
    have h5 := h4.trans (ke_vs (i := 3982 + t) (v := nI (vpl V2 t (V.2.2.1 t - 1 - 1))) h4.2 (by omega))
    have h6 := h5.trans (ke_vs (i := 3975 + t) (v := nI ((V.2.2.2 t (V.2.2.1 t - 1)).2.2.2.1 % 1024 / 32)) h5.2 (by omega))
    have h7 := h6.trans (ke_vs (i := 3968 + t) (v := nI ((V.2.2.2 t (V.2.2.1 t - 1)).2.2.2.1 % 32)) h6.2 (by omega))
    have h8 := h7.trans (ke_nu (i := V.2.2.1 t - 1 - 1) (k := (V.1 (vco ((V.2.2.2 t (V.2.2.1 t - 1)).2.2.2.1 % 1024 / 32) ((V.2.2.2 t (V.2.2.1 t - 1)).2.2.2.1 % 32 - 1) + 3)).toInt.toNat) (v := v) h7.2)
    split
    · rename_i c
      refine h8.trans (ke_fv h8.2 ?_)
      show (vs (vs (vs V2 (3982 + t) _) (3975 + t) _) (3968 + t) _).1 (3989 + t) ≠ -1
      rw [vs_ne (by omega), vs_ne (by omega), vs_ne (by omega), e4]
      exact hcb c
    · exact h8
theorem ke_sd (hz : (V.1 2052).toInt.toNat ≤ 3) (h : Sd t V) (e : vsd V t = some V1) : KE t V V1 ∧ V1.1 (3989 + t) ≠ -1 := by
  unfold vsd at e
  split at e
  · split at e
    · cases e
    · rename_i k hk
      cases e
      have hk3 := vfs_lt hk
      have h1 := ke_vs (i := 3923 + k) (v := nI t) h (by omega)
      exact ⟨h1.trans ⟨⟨vs_ne (by omega), vs_ne (by omega)⟩, Or.inr ⟨k, by omega, vs_at⟩⟩, by rw [vs_at]; exact nI_m1 (by omega)⟩
  · rename_i c
    cases e
    exact ⟨KE.refl h, c⟩
theorem ke_fg {words f slot : Int32} (hz : (V.1 2052).toInt.toNat ≤ 3) (h : Sd t V) : KE t V (vfg lim V t words f slot) := by
  unfold vfg
  cases hsd : vsd V t with
  | none =>
    rw [vhs_0 hsd]
    have h1 := ke_vs (i := 3926 + t) (v := 2) h (by omega)
    have h2 := h1.trans (ke_vs (i := 3968 + t) (v := V.1 (3968 + t) - 1) h1.2 (by omega))
    exact h2.trans (ke_cn (k := 10) (v := 1) h2.2 (by omega))
  | some V1 =>
    obtain ⟨h0, hn0⟩ := ke_sd hz h hsd
    have h1 := h0.trans (ke_vs (i := 3926 + t) (v := 1) h0.2 (by omega))
    by_cases c : ((vs V1 (3926 + t) 1).1 (3996 + t) + words).toInt ≤ ((vs V1 (3926 + t) 1).1 2053).toInt
    · rw [vhs_1 hsd c]
      have h2 := h1.trans (ke_vs (i := 3996 + t) (v := (vs V1 (3926 + t) 1).1 (3996 + t) + words) h1.2 (by omega))
      dsimp only
      split
      · exact h2.trans (ke_cl h2.2)
      · have h3 := h2.trans (ke_nu (i := (vs (vs V1 (3926 + t) 1) (3996 + t) ((vs V1 (3926 + t) 1).1 (3996 + t) + words)).2.2.1 t - 1) (k := slot.toInt.toNat) (v := 3 * vnm (vlf (vs (vs V1 (3926 + t) 1) (3996 + t) ((vs V1 (3926 + t) 1).1 (3996 + t) + words)) t) slot + 1) h2.2)
        refine h3.trans (ke_fv h3.2 ?_)
        show (vs (vs V1 (3926 + t) 1) (3996 + t) _).1 (3989 + t) ≠ -1
        rw [vs_ne (by omega), vs_ne (by omega)]
        exact hn0
    · rw [vhs_2 hsd c]
      exact h1.trans (ke_out h1.2)
theorem ke_qu (h : Sd t V) : KE t V (vqu lim V t).2 := by
  unfold vqu
  split
  · exact ke_sp h
  split
  · exact KE.refl h
  split
  · exact KE.refl h
  · exact KE.l (KE.c (KE.i (ke_mv h) (by omega)) (by omega))
theorem ke_ln {l : Nat} {kind a b c : Int32} {Z : (Nat → Int32) → Int32 → Int32 → Int32 → Bool} (hz : (V.1 2052).toInt.toNat ≤ 3) (h : Sd t V) (hcb : 2048 ≤ (V.2.2.2 t (V.2.2.1 t - 1)).2.2.2.1 → V.1 (3989 + t) ≠ -1) : KE t V (vln1 lim Z V t l kind a b c) := by
  unfold vln1
  dsimp only
  by_cases c0 : kind = 0
  · rw [if_pos c0]; exact ke_nu h
  rw [if_neg c0]
  by_cases c1 : kind = 1
  · rw [if_pos c1]; exact ke_nu h
  rw [if_neg c1]
  by_cases c2 : kind = 2
  · rw [if_pos c2]; exact ke_nu h
  rw [if_neg c2]
  by_cases c3 : kind = 3
  · rw [if_pos c3]; exact ke_po h
  rw [if_neg c3]
  by_cases c4 : kind = 4
  · rw [if_pos c4]; exact ke_nu h
  rw [if_neg c4]
  by_cases c5 : kind = 5
  · rw [if_pos c5]
    cases (vlf V t).2.2.2.2.2 a.toInt.toNat with
    | none => exact KE.refl h
    | some q => exact ke_nu h
  rw [if_neg c5]
  by_cases c6 : kind = 6
  · rw [if_pos c6]
    by_cases ct : tld V.1 a
    · rw [if_pos ct]; exact ke_cl h
    · rw [if_neg ct]; exact ke_nu h
  rw [if_neg c6]
  by_cases c7 : kind = 7
  · rw [if_pos c7]
    by_cases ct : (vnm (vlf V t) a).toInt ≤ 0
    · rw [if_pos ct]; exact KE.refl h
    · rw [if_neg ct]; exact ke_vs h (by omega)
  rw [if_neg c7]
  by_cases c8 : kind = 8
  · rw [if_pos c8]; exact ke_rt h hcb
  rw [if_neg c8]
  by_cases c9 : kind = 9
  · rw [if_pos c9]; exact ke_fg hz h
  rw [if_neg c9]
  exact ke_qu h
theorem ke_st {B : Nat} {Z : (Nat → Int32) → Int32 → Int32 → Int32 → Bool} (hI : VI lim B V) (ht : t < 6) (hb : vbz V.1 t) (hlm : lim ≤ 10000) : (vst lim Z V t).1 (4052 + t) = V.1 (4052 + t) ∧ (vst lim Z V t).1 (4059 + t) = V.1 (4059 + t) := by
  obtain ⟨np, z, z2, z3, k, l, hP, h0, -, -, ⟨s1, s2, s3⟩, -, -, hs, -, hcb⟩ := hI.opn ht hb hlm
  have h : Sd t V := hs
  have hcb' : 2048 ≤ (V.2.2.2 t (V.2.2.1 t - 1)).2.2.2.1 → V.1 (3989 + t) ≠ -1 := fun e e2 => by
    obtain ⟨ks, k1, k2⟩ := hcb e
    rw [e2] at k2
    exact absurd k2.symm (nI_m1 (by omega))
  have h1 := ke_inc (i := 3947 + t) h (by omega)
  have h2 := h1.trans (ke_cn (k := 2) (v := 1) h1.2 (by omega))
  have hz : ∀ V' : vV, (∀ i, i ≠ 3947 + t → i ≠ 2056 → i ≠ 3968 + t → V'.1 i = V.1 i) → ((V'.1 2052).toInt.toNat ≤ 3) := fun V' hv => by
    rw [hv 2052 (by omega) (by omega) (by omega), s1, nI_int (by omega)]
    show (z3 : Int).toNat ≤ 3
    omega
  have e1 : ∀ i, i ≠ 3947 + t → i ≠ 2056 → (vcn (vinc V (3947 + t)) 2 1).1 i = V.1 i := fun i g1 g2 => (vcn_ne (by omega)).trans (vinc_ne g1)
  have e12 : (vcn (vinc V (3947 + t)) 2 1).2 = V.2 := rfl
  unfold vst
  dsimp only
  generalize vcn (vinc V (3947 + t)) 2 1 = V1 at *
  split
  · have h3 := h2.trans (ke_vs (i := 3968 + t) (v := V1.1 (3968 + t) + 1) h2.2 (by omega))
    have e3 : ∀ i, i ≠ 3947 + t → i ≠ 2056 → i ≠ 3968 + t → (vs V1 (3968 + t) (V1.1 (3968 + t) + 1)).1 i = V.1 i := fun i g1 g2 g3 => (vs_ne g3).trans (e1 i g1 g2)
    have e32 : (vs V1 (3968 + t) (V1.1 (3968 + t) + 1)).2 = V.2 := e12
    generalize vs V1 (3968 + t) (V1.1 (3968 + t) + 1) = V3 at *
    exact (h3.trans (ke_ln (hz V3 e3) h3.2 (by rw [e32, e3 _ (by omega) (by omega) (by omega)]; exact hcb'))).1
  · exact (h2.trans (ke_rt h2.2 (by rw [e12, e1 _ (by omega) (by omega)]; exact hcb'))).1
end
