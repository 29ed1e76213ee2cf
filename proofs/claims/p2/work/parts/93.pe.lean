/-! ===== no step changes what is told ===== -/
def Sd (t : Nat) (V : vV) : Prop := V.1 (3989 + t) = -1 ∨ ∃ k, k < 3 ∧ V.1 (3989 + t) = nI k
def PE (t : Nat) (V V' : vV) : Prop := vpe V.1 V'.1 ∧ Sd t V'
section
variable {t lim : Nat} {V V1 V2 : vV}
theorem PE.refl (h : Sd t V) : PE t V V := ⟨vpe.refl, h⟩
theorem PE.trans (h : PE t V V1) (h' : PE t V1 V2) : PE t V V2 := ⟨h.1.trans h'.1, h'.2⟩
theorem pe_vs {i : Nat} {v : Int32} (h : Sd t V) (hi : (i < 2228 ∨ 2898 ≤ i) ∧ i ≠ 2050 ∧ i ≠ 2051 ∧ i ≠ 3989 + t) : PE t V (vs V i v) := ⟨vpe.upd (by omega), by unfold Sd; rw [vs_ne (by omega)]; exact h⟩
theorem pe_m1 : PE t V (vs V (3989 + t) (-1)) := ⟨vpe.upd (by omega), Or.inl vs_at⟩
theorem pe_same (h : Sd t V) (e : V1.1 = V.1) : PE t V V1 := ⟨by rw [e]; exact vpe.refl, by unfold Sd; rw [e]; exact h⟩
theorem PE.s {i : Nat} {v : Int32} (h : PE t V V1) (hi : (i < 2228 ∨ 2898 ≤ i) ∧ i ≠ 2050 ∧ i ≠ 2051 ∧ i ≠ 3989 + t) : PE t V (vs V1 i v) := h.trans (pe_vs h.2 hi)
theorem PE.p {ps : List vP} (h : PE t V V1) : PE t V (vps V1 ps) := h.trans (pe_same h.2 rfl)
theorem PE.n {n : Nat} (h : PE t V V1) : PE t V (vnf V1 t n) := h.trans (pe_same h.2 rfl)
theorem PE.c {k : Nat} {v : Int32} (h : PE t V V1) (hk : k < 12) : PE t V (vcn V1 k v) := h.trans (pe_vs h.2 (by omega))
theorem PE.l (h : PE t V V1) : PE t V (vlg1 V1) := h.trans (pe_vs h.2 (by omega))
theorem PE.i {i : Nat} (h : PE t V V1) (hi : (i < 2228 ∨ 2898 ≤ i) ∧ i ≠ 2050 ∧ i ≠ 2051 ∧ i ≠ 3989 + t) : PE t V (vinc V1 i) := h.trans (pe_vs h.2 hi)
theorem pe_ga (h : Sd t V) : PE t V (vga V t) := by
  unfold vga
  dsimp only
  have h1 : PE t V (if V.1 (3989 + t) = -1 then vps V (V.2.1.filter (fun q => decide (q.2.2.1 ≠ t))) else vs (vps V (V.2.1.filter (fun q => decide (q.2.2.1 ≠ t)))) (3923 + (V.1 (3989 + t)).toInt.toNat) (-1)) := by
    split
    · exact pe_same h rfl
    · rename_i c
      obtain ⟨k, k1, k2⟩ := h.resolve_left c
      rw [k2, nI_int (by omega), Int.toNat_natCast]
      exact (pe_same (V1 := vps V (V.2.1.filter (fun q => decide (q.2.2.1 ≠ t)))) h rfl).trans (pe_vs (V := vps V (V.2.1.filter (fun q => decide (q.2.2.1 ≠ t)))) h (by omega))
  exact PE.s (PE.s (PE.n (PE.s (PE.s (PE.s (h1.trans pe_m1) (by omega)) (by omega)) (by omega))) (by omega)) (by omega)
theorem pe_lg (h : Sd t V) : PE t V (vlg1 V) := pe_vs h (by omega)
theorem pe_cn {k : Nat} {v : Int32} (h : Sd t V) (hk : k < 12) : PE t V (vcn V k v) := pe_vs h (by omega)
theorem pe_inc {i : Nat} (h : Sd t V) (hi : (i < 2228 ∨ 2898 ≤ i) ∧ i ≠ 2050 ∧ i ≠ 2051 ∧ i ≠ 3989 + t) : PE t V (vinc V i) := pe_vs h hi
theorem pe_out (h : Sd t V) : PE t V (vot V t) := by
  unfold vot
  have h1 := pe_ga h
  have h2 := h1.trans (pe_vs (i := 3926 + t) (v := 4) h1.2 (by omega))
  have h3 := h2.trans (pe_cn (k := 1) (v := 1) h2.2 (by omega))
  exact h3.trans (pe_lg h3.2)
theorem pe_sp (h : Sd t V) : PE t V (vsp V t) := by
  unfold vsp
  split
  · have h1 := pe_lg h
    exact h1.trans (pe_same h1.2 rfl)
  · exact PE.refl h
theorem pe_mv {g words : Nat} (h : Sd t V) : PE t V (vmv V t g words) := by
  unfold vmv
  dsimp only
  exact PE.c (PE.s (PE.p (PE.s (PE.refl h) (by omega))) (by omega)) (by omega)
theorem pe_spl {need : Nat} (h : Sd t V) : PE t V (vspl lim V t need).2 := by
  unfold vspl
  dsimp only
  split
  · exact PE.refl h
  · exact PE.i (PE.l (PE.c (PE.i (PE.p (PE.refl h)) (by omega)) (by omega))) (by omega)
theorem pe_gr {need : Nat} (h : Sd t V) : PE t V (vgr lim V t need).2 := by
  unfold vgr
  split
  · dsimp only
    split
    · exact PE.refl h
    · exact PE.l (PE.c (PE.i (pe_mv h) (by omega)) (by omega))
  · split
    · split
      · exact PE.i (PE.l (PE.c (PE.i (PE.p (PE.refl h)) (by omega)) (by omega))) (by omega)
      · exact (pe_sp h).trans (pe_spl (pe_sp h).2)
    · exact pe_spl h
theorem pe_rm {f : Nat} (h : Sd t V) : PE t V (vrm lim V t f).2 := by
  have h1 := pe_inc (i := 4003 + t) h (by omega)
  have h2 := h1.trans (pe_cn (k := 3) (v := 1) h1.2 (by omega))
  have h3 := h2.trans (pe_gr (lim := lim) (need := vnd V.1 f) h2.2)
  unfold vrm
  dsimp only
  split
  · exact h2
  · split
    · rename_i V2 e
      rw [e] at h3
      exact h3
    · rename_i V2 e
      rw [e] at h3
      exact h3.trans (pe_out h3.2)
theorem pe_pu {f bk : Nat} {a : Int32} {q : Option (Nat × Nat)} (h : Sd t V) : PE t V (vpu V t f bk a q) := by
  obtain ⟨w1, -⟩ := vpu_w (V := V) (t := t) (f := f) (bk := bk) (a := a) (q := q)
  exact ⟨fun i hi => w1 i (by omega) (by omega) (by omega) (by omega) (by omega) (by omega), by unfold Sd; rw [w1 _ (by omega) (by omega) (by omega) (by omega) (by omega) (by omega)]; exact h⟩
theorem pe_cl {f bk : Nat} {hh : Int32 × Option (Nat × Nat)} (h : Sd t V) : PE t V (vcl lim V t f bk hh) := by
  have h3 := pe_rm (lim := lim) (f := f) h
  unfold vcl
  split
  · have h1 := pe_cn (k := 11) (v := 1) h (by omega)
    exact h1.trans (pe_pu h1.2)
  · split
    · rename_i V1 e
      rw [e] at h3
      exact h3.trans (pe_pu h3.2)
    · rename_i V1 e
      rw [e] at h3
      exact h3
theorem pe_fr {i : Nat} {F : vF} (h : Sd t V) : PE t V (vfr V t i F) := pe_same h rfl
theorem pe_nu {i k : Nat} {v : Int32} (h : Sd t V) : PE t V (vnu V t i k v) := pe_same h rfl
theorem pe_po {i k : Nat} {q : Option (Nat × Nat)} (h : Sd t V) : PE t V (vpo V t i k q) := pe_same h rfl
theorem pe_fv {words : Int32} (h : Sd t V) (hn : V.1 (3989 + t) ≠ -1) : PE t V (vfv V t words) := by
  obtain ⟨k, k1, k2⟩ := h.resolve_left hn
  have h1 := pe_cn (k := 9) (v := 1) h (by omega)
  have h2 := h1.trans (pe_vs (i := 3996 + t) (v := V.1 (3996 + t) - words) h1.2 (by omega))
  unfold vfv
  dsimp only
  split
  · exact h2
  · rw [k2, nI_int (by omega), Int.toNat_natCast]
    exact (h2.trans (pe_vs (i := 3923 + k) (v := -1) h2.2 (by omega))).trans pe_m1
theorem pe_lv {F : vF} (h : Sd t V) : PE t V (vlv V t F) := by
  unfold vlv
  split
  · exact PE.refl h
  · have h1 := pe_vs (i := 4066 + t) (v := V.1 (4066 + t) - 1) h (by omega)
    dsimp only
    split
    · have h2 := h1.trans (pe_lg h1.2)
      exact h2.trans (pe_same h2.2 rfl)
    · have h2 := h1.trans (pe_sp h1.2)
      have h3 := h2.trans (pe_same (V1 := vps (vsp (vs V (4066 + t) (V.1 (4066 + t) - 1)) t) ((vsp (vs V (4066 + t) (V.1 (4066 + t) - 1)) t).2.1.map (fun p => if vkey t F.2.1 p then (p.1, p.2.1, p.2.2.1, 1000) else p))) h2.2 rfl)
      exact h3.trans (pe_lg h3.2)
theorem pe_dn {Z : (Nat → Int32) → Int32 → Int32 → Int32 → Bool} {v : Int32} (h : Sd t V) : PE t V (vdn Z V t v) := by
  have h1 := pe_vs (i := 3926 + t) (v := 3) h (by omega)
  have h2 := h1.trans (pe_vs (i := 3940 + t) (v := v) h1.2 (by omega))
  have h3 := h2.trans (pe_ga h2.2)
  have h4 := h3.trans (pe_cn (k := 0) (v := 1) h3.2 (by omega))
  have h5 := h4.trans (pe_lg h4.2)
  unfold vdn
  dsimp only
  split
  · exact h5.trans (pe_inc (i := 2066) h5.2 (by omega))
  · exact h5
theorem pe_rt {Z : (Nat → Int32) → Int32 → Int32 → Int32 → Bool} {v : Int32} (h : Sd t V) (hcb : 2048 ≤ (V.2.2.2 t (V.2.2.1 t - 1)).2.2.2.1 → V.1 (3989 + t) ≠ -1) : PE t V (vrt Z V t v) := by
  have h1 := pe_vs (i := 3961 + t) (v := V.1 (3961 + t) - (V.1 (2228 + (V.2.2.2 t (V.2.2.1 t - 1)).1) + 2)) h (by omega)
  have h2 := h1.trans (pe_vs (i := 3954 + t) (v := V.1 (3954 + t) - 1) h1.2 (by omega))
  have h3 := h2.trans (pe_same (V1 := vnf (vs (vs V (3961 + t) (V.1 (3961 + t) - (V.1 (2228 + (V.2.2.2 t (V.2.2.1 t - 1)).1) + 2))) (3954 + t) (V.1 (3954 + t) - 1)) t (V.2.2.1 t - 1)) h2.2 rfl)
  have e89 : (vnf (vs (vs V (3961 + t) (V.1 (3961 + t) - (V.1 (2228 + (V.2.2.2 t (V.2.2.1 t - 1)).1) + 2))) (3954 + t) (V.1 (3954 + t) - 1)) t (V.2.2.1 t - 1)).1 (3989 + t) = V.1 (3989 + t) := (vs_ne (by omega)).trans (vs_ne (by omega))
  unfold vrt
  dsimp only
  generalize vnf (vs (vs V (3961 + t) (V.1 (3961 + t) - (V.1 (2228 + (V.2.2.2 t (V.2.2.1 t - 1)).1) + 2))) (3954 + t) (V.1 (3954 + t) - 1)) t (V.2.2.1 t - 1) = V1 at *
  split
  · exact h3.trans (pe_dn h3.2)
  · have hlv : ∀ i, i = 3989 + t → (vlv V1 t (V.2.2.2 t (V.2.2.1 t - 1))).1 i = V1.1 i := fun i hi => by
      unfold vlv
      split
      · rfl
      · dsimp only
        split
        · show (vlg1 (vs V1 (4066 + t) (V1.1 (4066 + t) - 1))).1 i = _
          rw [vlg1_ne (by omega), vs_ne (by omega)]
        · rw [vlg1_ne (by omega)]
          show (vsp (vs V1 (4066 + t) (V1.1 (4066 + t) - 1)) t).1 i = _
          rw [vsp_w (by omega), vs_ne (by omega)]
    have h4 : PE t V (if V.1 (3933 + t) = 1 then vlv V1 t (V.2.2.2 t (V.2.2.1 t - 1)) else V1) ∧ (if V.1 (3933 + t) = 1 then vlv V1 t (V.2.2.2 t (V.2.2.1 t - 1)) else V1).1 (3989 + t) = V.1 (3989 + t) := by
      split
      · exact ⟨h3.trans (pe_lv h3.2), (hlv _ rfl).trans e89⟩
      · exact ⟨h3, e89⟩
    generalize (if V.1 (3933 + t) = 1 then vlv V1 t (V.2.2.2 t (V.2.2.1 t - 1)) else V1) = V2 at *
    obtain ⟨h4, e4⟩ := h4
    have h5 := h4.trans (pe_vs (i := 3982 + t) (v := nI (vpl V2 t (V.2.2.1 t - 1 - 1))) h4.2 (by omega))
    have h6 := h5.trans (pe_vs (i := 3975 + t) (v := nI ((V.2.2.2 t (V.2.2.1 t - 1)).2.2.2.1 % 1024 / 32)) h5.2 (by omega))
    have h7 := h6.trans (pe_vs (i := 3968 + t) (v := nI ((V.2.2.2 t (V.2.2.1 t - 1)).2.2.2.1 % 32)) h6.2 (by omega))
    have h8 := h7.trans (pe_nu (i := V.2.2.1 t - 1 - 1) (k := (V.1 (vco ((V.2.2.2 t (V.2.2.1 t - 1)).2.2.2.1 % 1024 / 32) ((V.2.2.2 t (V.2.2.1 t - 1)).2.2.2.1 % 32 - 1) + 3)).toInt.toNat) (v := v) h7.2)
    split
    · rename_i c
      refine h8.trans (pe_fv h8.2 ?_)
      show (vs (vs (vs V2 (3982 + t) _) (3975 + t) _) (3968 + t) _).1 (3989 + t) ≠ -1
      rw [vs_ne (by omega), vs_ne (by omega), vs_ne (by omega), e4]
      exact hcb c
    · exact h8
theorem pe_sd (hz : (V.1 2052).toInt.toNat ≤ 3) (h : Sd t V) (e : vsd V t = some V1) : PE t V V1 ∧ V1.1 (3989 + t) ≠ -1 := by
  unfold vsd at e
  split at e
  · split at e
    · cases e
    · rename_i k hk
      cases e
      have hk3 := vfs_lt hk
      have h1 := pe_vs (i := 3923 + k) (v := nI t) h (by omega)
      exact ⟨h1.trans ⟨vpe.upd (by omega), Or.inr ⟨k, by omega, vs_at⟩⟩, by rw [vs_at]; exact nI_m1 (by omega)⟩
  · rename_i c
    cases e
    exact ⟨PE.refl h, c⟩
theorem pe_fg {words f slot : Int32} (hz : (V.1 2052).toInt.toNat ≤ 3) (h : Sd t V) : PE t V (vfg lim V t words f slot) := by
  unfold vfg
  cases hsd : vsd V t with
  | none =>
    rw [vhs_0 hsd]
    have h1 := pe_vs (i := 3926 + t) (v := 2) h (by omega)
    have h2 := h1.trans (pe_vs (i := 3968 + t) (v := V.1 (3968 + t) - 1) h1.2 (by omega))
    exact h2.trans (pe_cn (k := 10) (v := 1) h2.2 (by omega))
  | some V1 =>
    obtain ⟨h0, hn0⟩ := pe_sd hz h hsd
    have h1 := h0.trans (pe_vs (i := 3926 + t) (v := 1) h0.2 (by omega))
    by_cases c : ((vs V1 (3926 + t) 1).1 (3996 + t) + words).toInt ≤ ((vs V1 (3926 + t) 1).1 2053).toInt
    · rw [vhs_1 hsd c]
      have h2 := h1.trans (pe_vs (i := 3996 + t) (v := (vs V1 (3926 + t) 1).1 (3996 + t) + words) h1.2 (by omega))
      dsimp only
      split
      · exact h2.trans (pe_cl h2.2)
      · have h3 := h2.trans (pe_nu (i := (vs (vs V1 (3926 + t) 1) (3996 + t) ((vs V1 (3926 + t) 1).1 (3996 + t) + words)).2.2.1 t - 1) (k := slot.toInt.toNat) (v := 3 * vnm (vlf (vs (vs V1 (3926 + t) 1) (3996 + t) ((vs V1 (3926 + t) 1).1 (3996 + t) + words)) t) slot + 1) h2.2)
        refine h3.trans (pe_fv h3.2 ?_)
        show (vs (vs V1 (3926 + t) 1) (3996 + t) _).1 (3989 + t) ≠ -1
        rw [vs_ne (by omega), vs_ne (by omega)]
        exact hn0
    · rw [vhs_2 hsd c]
      exact h1.trans (pe_out h1.2)
theorem pe_qu (h : Sd t V) : PE t V (vqu lim V t).2 := by
  unfold vqu
  split
  · exact pe_sp h
  split
  · exact PE.refl h
  split
  · exact PE.refl h
  · exact PE.l (PE.c (PE.i (pe_mv h) (by omega)) (by omega))
theorem pe_ln {l : Nat} {kind a b c : Int32} {Z : (Nat → Int32) → Int32 → Int32 → Int32 → Bool} (hz : (V.1 2052).toInt.toNat ≤ 3) (h : Sd t V) (hcb : 2048 ≤ (V.2.2.2 t (V.2.2.1 t - 1)).2.2.2.1 → V.1 (3989 + t) ≠ -1) : PE t V (vln1 lim Z V t l kind a b c) := by
  unfold vln1
  dsimp only
  by_cases c0 : kind = 0
  · rw [if_pos c0]; exact pe_nu h
  rw [if_neg c0]
  by_cases c1 : kind = 1
  · rw [if_pos c1]; exact pe_nu h
  rw [if_neg c1]
  by_cases c2 : kind = 2
  · rw [if_pos c2]; exact pe_nu h
  rw [if_neg c2]
  by_cases c3 : kind = 3
  · rw [if_pos c3]; exact pe_po h
  rw [if_neg c3]
  by_cases c4 : kind = 4
  · rw [if_pos c4]; exact pe_nu h
  rw [if_neg c4]
  by_cases c5 : kind = 5
  · rw [if_pos c5]
    cases (vlf V t).2.2.2.2.2 a.toInt.toNat with
    | none => exact PE.refl h
    | some q => exact pe_nu h
  rw [if_neg c5]
  by_cases c6 : kind = 6
  · rw [if_pos c6]
    by_cases ct : tld V.1 a
    · rw [if_pos ct]; exact pe_cl h
    · rw [if_neg ct]; exact pe_nu h
  rw [if_neg c6]
  by_cases c7 : kind = 7
  · rw [if_pos c7]
    by_cases ct : (vnm (vlf V t) a).toInt ≤ 0
    · rw [if_pos ct]; exact PE.refl h
    · rw [if_neg ct]; exact pe_vs h (by omega)
  rw [if_neg c7]
  by_cases c8 : kind = 8
  · rw [if_pos c8]; exact pe_rt h hcb
  rw [if_neg c8]
  by_cases c9 : kind = 9
  · rw [if_pos c9]; exact pe_fg hz h
  rw [if_neg c9]
  exact pe_qu h
theorem pe_st {B : Nat} {Z : (Nat → Int32) → Int32 → Int32 → Int32 → Bool} (hI : VI lim B V) (ht : t < 6) (hb : vbz V.1 t) (hlm : lim ≤ 10000) : vpe V.1 (vst lim Z V t).1 := by
  obtain ⟨np, z, z2, z3, k, l, hP, h0, -, -, ⟨s1, s2, s3⟩, -, -, hs, -, hcb⟩ := hI.opn ht hb hlm
  have h : Sd t V := hs
  have hcb' : 2048 ≤ (V.2.2.2 t (V.2.2.1 t - 1)).2.2.2.1 → V.1 (3989 + t) ≠ -1 := fun e e2 => by
    obtain ⟨ks, k1, k2⟩ := hcb e
    rw [e2] at k2
    exact absurd k2.symm (nI_m1 (by omega))
  have h1 := pe_inc (i := 3947 + t) h (by omega)
  have h2 := h1.trans (pe_cn (k := 2) (v := 1) h1.2 (by omega))
  have hz : ∀ V' : vV, (∀ i, i ≠ 3947 + t → i ≠ 2056 → i ≠ 3968 + t → V'.1 i = V.1 i) → ((V'.1 2052).toInt.toNat ≤ 3) := fun V' hv => by
    rw [hv 2052 (by omega) (by omega) (by omega), s1, nI_int (by omega)]
    show (z3 : Int).toNat ≤ 3
    omega
  have e1 : ∀ i, i ≠ 3947 + t → i ≠ 2056 → (vcn (vinc V (3947 + t)) 2 1).1 i = V.1 i := fun i g1 g2 => (vcn_ne (by omega)).trans (vinc_ne g1)
  have e12 : (vcn (vinc V (3947 + t)) 2 1).2 = V.2 := rfl
  unfold vst
  dsimp only
  generalize vcn (vinc V (3947 + t)) 2 1 = V1 at *
  split
  · have h3 := h2.trans (pe_vs (i := 3968 + t) (v := V1.1 (3968 + t) + 1) h2.2 (by omega))
    have e3 : ∀ i, i ≠ 3947 + t → i ≠ 2056 → i ≠ 3968 + t → (vs V1 (3968 + t) (V1.1 (3968 + t) + 1)).1 i = V.1 i := fun i g1 g2 g3 => (vs_ne g3).trans (e1 i g1 g2)
    have e32 : (vs V1 (3968 + t) (V1.1 (3968 + t) + 1)).2 = V.2 := e12
    generalize vs V1 (3968 + t) (V1.1 (3968 + t) + 1) = V3 at *
    exact (h3.trans (pe_ln (hz V3 e3) h3.2 (by rw [e32, e3 _ (by omega) (by omega) (by omega)]; exact hcb'))).1
  · exact (h2.trans (pe_rt h2.2 (by rw [e12, e1 _ (by omega) (by omega)]; exact hcb'))).1
end
