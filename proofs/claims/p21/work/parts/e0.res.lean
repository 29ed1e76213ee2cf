section
/-! ===== the count of other results changes with DONE alone (made out of c0.keep) ===== -/
def K6 (t : Nat) (V V' : vV) : Prop := (V'.1 2066 = V.1 2066 ∧ (V.1 (3926 + t) ≠ 3 → V'.1 (3926 + t) ≠ 3)) ∧ Sd t V'
section
variable {t lim : Nat} {V V1 V2 : vV}
theorem K6.refl (h : Sd t V) : K6 t V V := ⟨⟨rfl, fun q => q⟩, h⟩
theorem K6.trans (h : K6 t V V1) (h' : K6 t V1 V2) : K6 t V V2 := ⟨⟨h'.1.1.trans h.1.1, fun q => h'.1.2 (h.1.2 q)⟩, h'.2⟩
theorem k6_vs {i : Nat} {v : Int32} (h : Sd t V) (hi : i ≠ 2066 ∧ i ≠ 3926 + t ∧ i ≠ 3989 + t) : K6 t V (vs V i v) := ⟨⟨vs_ne (by omega), fun q => by rw [vs_ne (by omega)]; exact q⟩, by unfold Sd; rw [vs_ne (by omega)]; exact h⟩
theorem k6_sta {v : Int32} (h : Sd t V) (hv : v ≠ 3) : K6 t V (vs V (3926 + t) v) := ⟨⟨vs_ne (by omega), fun _ => by rw [vs_at]; exact hv⟩, by unfold Sd; rw [vs_ne (by omega)]; exact h⟩
theorem k6_m1 : K6 t V (vs V (3989 + t) (-1)) := ⟨⟨vs_ne (by omega), fun q => by rw [vs_ne (by omega)]; exact q⟩, Or.inl vs_at⟩
theorem k6_same (h : Sd t V) (e : V1.1 = V.1) : K6 t V V1 := ⟨⟨by rw [e], fun q => by rw [e]; exact q⟩, by unfold Sd; rw [e]; exact h⟩
theorem K6.s {i : Nat} {v : Int32} (h : K6 t V V1) (hi : i ≠ 2066 ∧ i ≠ 3926 + t ∧ i ≠ 3989 + t) : K6 t V (vs V1 i v) := h.trans (k6_vs h.2 hi)
theorem K6.p {ps : List vP} (h : K6 t V V1) : K6 t V (vps V1 ps) := h.trans (k6_same h.2 rfl)
theorem K6.n {n : Nat} (h : K6 t V V1) : K6 t V (vnf V1 t n) := h.trans (k6_same h.2 rfl)
theorem K6.c {k : Nat} {v : Int32} (h : K6 t V V1) (hk : k < 12) : K6 t V (vcn V1 k v) := h.trans (k6_vs h.2 (by omega))
theorem K6.l (h : K6 t V V1) : K6 t V (vlg1 V1) := h.trans (k6_vs h.2 (by omega))
theorem K6.i {i : Nat} (h : K6 t V V1) (hi : i ≠ 2066 ∧ i ≠ 3926 + t ∧ i ≠ 3989 + t) : K6 t V (vinc V1 i) := h.trans (k6_vs h.2 hi)
theorem k6_ga (h : Sd t V) : K6 t V (vga V t) := by
  unfold vga
  dsimp only
  have h1 : K6 t V (if V.1 (3989 + t) = -1 then vps V (V.2.1.filter (fun q => decide (q.2.2.1 ≠ t))) else vs (vps V (V.2.1.filter (fun q => decide (q.2.2.1 ≠ t)))) (3923 + (V.1 (3989 + t)).toInt.toNat) (-1)) := by
    split
    · exact k6_same h rfl
    · rename_i c
      obtain ⟨k, k1, k2⟩ := h.resolve_left c
      rw [k2, nI_int (by omega), Int.toNat_natCast]
      exact (k6_same (V1 := vps V (V.2.1.filter (fun q => decide (q.2.2.1 ≠ t)))) h rfl).trans (k6_vs (V := vps V (V.2.1.filter (fun q => decide (q.2.2.1 ≠ t)))) h (by omega))
  exact K6.s (K6.s (K6.n (K6.s (K6.s (K6.s (h1.trans k6_m1) (by omega)) (by omega)) (by omega))) (by omega)) (by omega)
theorem k6_lg (h : Sd t V) : K6 t V (vlg1 V) := k6_vs h (by omega)
theorem k6_cn {k : Nat} {v : Int32} (h : Sd t V) (hk : k < 12) : K6 t V (vcn V k v) := k6_vs h (by omega)
theorem k6_inc {i : Nat} (h : Sd t V) (hi : i ≠ 2066 ∧ i ≠ 3926 + t ∧ i ≠ 3989 + t) : K6 t V (vinc V i) := k6_vs h hi
theorem k6_out (h : Sd t V) : K6 t V (vot V t) := by
  unfold vot
  have h1 := k6_ga h
  have h2 := h1.trans (k6_sta (v := 4) h1.2 (by decide))
  have h3 := h2.trans (k6_cn (k := 1) (v := 1) h2.2 (by omega))
  exact h3.trans (k6_lg h3.2)
theorem k6_sp (h : Sd t V) : K6 t V (vsp V t) := by
  unfold vsp
  split
  · have h1 := k6_lg h
    exact h1.trans (k6_same h1.2 rfl)
  · exact K6.refl h
theorem k6_mv {g words : Nat} (h : Sd t V) : K6 t V (vmv V t g words) := by
  unfold vmv
  dsimp only
  exact K6.c (K6.s (K6.p (K6.s (K6.refl h) (by omega))) (by omega)) (by omega)
theorem k6_spl {need : Nat} (h : Sd t V) : K6 t V (vspl lim V t need).2 := by
  unfold vspl
  dsimp only
  split
  · exact K6.refl h
  · exact K6.i (K6.l (K6.c (K6.i (K6.p (K6.refl h)) (by omega)) (by omega))) (by omega)
theorem k6_gr {need : Nat} (h : Sd t V) : K6 t V (vgr lim V t need).2 := by
  unfold vgr
  split
  · dsimp only
    split
    · exact K6.refl h
    · exact K6.l (K6.c (K6.i (k6_mv h) (by omega)) (by omega))
  · split
    · split
      · exact K6.i (K6.l (K6.c (K6.i (K6.p (K6.refl h)) (by omega)) (by omega))) (by omega)
      · exact (k6_sp h).trans (k6_spl (k6_sp h).2)
    · exact k6_spl h
theorem k6_rm {f : Nat} (h : Sd t V) : K6 t V (vrm lim V t f).2 := by
  have h1 := k6_inc (i := 4003 + t) h (by omega)
  have h2 := h1.trans (k6_cn (k := 3) (v := 1) h1.2 (by omega))
  have h3 := h2.trans (k6_gr (lim := lim) (need := vnd V.1 f) h2.2)
  unfold vrm
  dsimp only
  split
  · exact h2
  · split
    · rename_i V2 e
      rw [e] at h3
      exact h3
    · rename_i V2 e
      rw [e] at h3
      exact h3.trans (k6_out h3.2)
theorem k6_pu {f bk : Nat} {a : Int32} {q : Option (Nat × Nat)} (h : Sd t V) : K6 t V (vpu V t f bk a q) := by
  obtain ⟨w1, -⟩ := vpu_w (V := V) (t := t) (f := f) (bk := bk) (a := a) (q := q)
  exact ⟨⟨w1 _ (by omega) (by omega) (by omega) (by omega) (by omega) (by omega), fun q => by rw [w1 _ (by omega) (by omega) (by omega) (by omega) (by omega) (by omega)]; exact q⟩, by unfold Sd; rw [w1 _ (by omega) (by omega) (by omega) (by omega) (by omega) (by omega)]; exact h⟩
theorem k6_cl {f bk : Nat} {hh : Int32 × Option (Nat × Nat)} (h : Sd t V) : K6 t V (vcl lim V t f bk hh) := by
  have h3 := k6_rm (lim := lim) (f := f) h
  unfold vcl
  split
  · have h1 := k6_cn (k := 11) (v := 1) h (by omega)
    exact h1.trans (k6_pu h1.2)
  · split
    · rename_i V1 e
      rw [e] at h3
      exact h3.trans (k6_pu h3.2)
    · rename_i V1 e
      rw [e] at h3
      exact h3
theorem k6_fr {i : Nat} {F : vF} (h : Sd t V) : K6 t V (vfr V t i F) := k6_same h rfl
theorem k6_nu {i k : Nat} {v : Int32} (h : Sd t V) : K6 t V (vnu V t i k v) := k6_same h rfl
theorem k6_po {i k : Nat} {q : Option (Nat × Nat)} (h : Sd t V) : K6 t V (vpo V t i k q) := k6_same h rfl
theorem k6_fv {words : Int32} (h : Sd t V) (hn : V.1 (3989 + t) ≠ -1) : K6 t V (vfv V t words) := by
  obtain ⟨k, k1, k2⟩ := h.resolve_left hn
  have h1 := k6_cn (k := 9) (v := 1) h (by omega)
  have h2 := h1.trans (k6_vs (i := 3996 + t) (v := V.1 (3996 + t) - words) h1.2 (by omega))
  unfold vfv
  dsimp only
  split
  · exact h2
  · rw [k2, nI_int (by omega), Int.toNat_natCast]
    exact (h2.trans (k6_vs (i := 3923 + k) (v := -1) h2.2 (by omega))).trans k6_m1
theorem k6_lv {F : vF} (h : Sd t V) : K6 t V (vlv V t F) := by
  unfold vlv
  split
  · exact K6.refl h
  · have h1 := k6_vs (i := 4066 + t) (v := V.1 (4066 + t) - 1) h (by omega)
    dsimp only
    split
    · have h2 := h1.trans (k6_lg h1.2)
      exact h2.trans (k6_same h2.2 rfl)
    · have h2 := h1.trans (k6_sp h1.2)
      have h3 := h2.trans (k6_same (V1 := vps (vsp (vs V (4066 + t) (V.1 (4066 + t) - 1)) t) ((vsp (vs V (4066 + t) (V.1 (4066 + t) - 1)) t).2.1.map (fun p => if vkey t F.2.1 p then (p.1, p.2.1, p.2.2.1, 1000) else p))) h2.2 rfl)
      exact h3.trans (k6_lg h3.2)
/-- what the step that brings DONE does to it -/
def K3 (Z : (Nat → Int32) → Int32 → Int32 → Int32 → Bool) (t : Nat) (V V' : vV) : Prop := (V'.1 (3926 + t) ≠ 3 ∧ V'.1 2066 = V.1 2066) ∨ (V'.1 (3926 + t) = 3 ∧ ∃ w0, vpe V.1 w0 ∧ V'.1 2066 = V.1 2066 + if Z w0 (V.1 (4052 + t)) (V.1 (4059 + t)) (V'.1 (3940 + t)) = true then 1 else 0)
theorem K6.k3 {Z : (Nat → Int32) → Int32 → Int32 → Int32 → Bool} (h : K6 t V V1) (hn : V.1 (3926 + t) ≠ 3) : K3 Z t V V1 := Or.inl ⟨h.1.2 hn, h.1.1⟩
theorem K3.pre {Z : (Nat → Int32) → Int32 → Int32 → Int32 → Bool} (h : K3 Z t V1 V2) (h1 : V1.1 2066 = V.1 2066) (h2 : V1.1 (4052 + t) = V.1 (4052 + t)) (h3 : V1.1 (4059 + t) = V.1 (4059 + t)) (hw : vpe V.1 V1.1) : K3 Z t V V2 := by
  rcases h with ⟨a, b⟩ | ⟨a, w0, b, c⟩
  · exact Or.inl ⟨a, b.trans h1⟩
  · exact Or.inr ⟨a, w0, hw.trans b, by rw [c, h1, h2, h3]⟩
theorem sd_3 (h : Sd t V) : (V.1 (3989 + t)).toInt.toNat < 3 := by
  rcases h with e | ⟨k, k1, e⟩
  · rw [e]; decide
  · rw [e, nI_int (by omega)]; exact k1
theorem vga_kt {i : Nat} (hs : Sd t V) (hi : ¬ (3923 ≤ i ∧ i < 3926) ∧ i ≠ 3989 + t ∧ i ≠ 3996 + t ∧ i ≠ 4066 + t ∧ i ≠ 3954 + t ∧ i ≠ 3961 + t ∧ i ≠ 3975 + t) : (vga V t).1 i = V.1 i := by
  have h3 := sd_3 hs
  rw [vga_1, mj_upd_ne (by omega), mj_upd_ne (by omega), mj_upd_ne (by omega), mj_upd_ne (by omega), mj_upd_ne (by omega), mj_upd_ne (by omega)]
  by_cases c : V.1 (3989 + t) = -1
  · rw [if_pos c]
  · rw [if_neg c, mj_upd_ne (by omega)]
theorem k3_dn {Z : (Nat → Int32) → Int32 → Int32 → Int32 → Bool} {v : Int32} (h : Sd t V) : K3 Z t V (vdn Z V t v) := by
  have hX : Sd t (vs (vs V (3926 + t) 3) (3940 + t) v) := by unfold Sd; rw [vs_ne (by omega), vs_ne (by omega)]; exact h
  have e26 : (vlg1 (vcn (vga (vs (vs V (3926 + t) 3) (3940 + t) v) t) 0 1)).1 (3926 + t) = 3 := by
    rw [vlg1_ne (by omega), vcn_ne (by omega), vga_kt hX (by omega), vs_ne (by omega), vs_at]
  have e40 : (vlg1 (vcn (vga (vs (vs V (3926 + t) 3) (3940 + t) v) t) 0 1)).1 (3940 + t) = v := by
    rw [vlg1_ne (by omega), vcn_ne (by omega), vga_kt hX (by omega), vs_at]
  have e66 : (vlg1 (vcn (vga (vs (vs V (3926 + t) 3) (3940 + t) v) t) 0 1)).1 2066 = V.1 2066 := by
    rw [vlg1_ne (by omega), vcn_ne (by omega), vga_kt hX (by omega), vs_ne (by omega), vs_ne (by omega)]
  unfold vdn
  dsimp only
  generalize vlg1 (vcn (vga (vs (vs V (3926 + t) 3) (3940 + t) v) t) 0 1) = U at *
  by_cases c : Z V.1 (V.1 (4052 + t)) (V.1 (4059 + t)) v = true
  · rw [if_pos c]
    refine Or.inr ⟨?_, V.1, vpe.refl, ?_⟩
    · rw [vinc_ne (by omega)]; exact e26
    · rw [vinc_ne (show 3940 + t ≠ 2066 by omega), e40, if_pos c]
      unfold vinc
      rw [vs_at, e66]
  · rw [if_neg c]
    refine Or.inr ⟨e26, V.1, vpe.refl, ?_⟩
    rw [e40, if_neg c, e66, Int32.add_zero]
theorem k3_rt {Z : (Nat → Int32) → Int32 → Int32 → Int32 → Bool} {v : Int32} (h : Sd t V) (hcb : 2048 ≤ (V.2.2.2 t (V.2.2.1 t - 1)).2.2.2.1 → V.1 (3989 + t) ≠ -1) (hn3 : V.1 (3926 + t) ≠ 3) : K3 Z t V (vrt Z V t v) := by
  have h1 := k6_vs (i := 3961 + t) (v := V.1 (3961 + t) - (V.1 (2228 + (V.2.2.2 t (V.2.2.1 t - 1)).1) + 2)) h (by omega)
  have h2 := h1.trans (k6_vs (i := 3954 + t) (v := V.1 (3954 + t) - 1) h1.2 (by omega))
  have h3 := h2.trans (k6_same (V1 := vnf (vs (vs V (3961 + t) (V.1 (3961 + t) - (V.1 (2228 + (V.2.2.2 t (V.2.2.1 t - 1)).1) + 2))) (3954 + t) (V.1 (3954 + t) - 1)) t (V.2.2.1 t - 1)) h2.2 rfl)
  have e89 : (vnf (vs (vs V (3961 + t) (V.1 (3961 + t) - (V.1 (2228 + (V.2.2.2 t (V.2.2.1 t - 1)).1) + 2))) (3954 + t) (V.1 (3954 + t) - 1)) t (V.2.2.1 t - 1)).1 (3989 + t) = V.1 (3989 + t) := (vs_ne (by omega)).trans (vs_ne (by omega))
  have hk : (vnf (vs (vs V (3961 + t) (V.1 (3961 + t) - (V.1 (2228 + (V.2.2.2 t (V.2.2.1 t - 1)).1) + 2))) (3954 + t) (V.1 (3954 + t) - 1)) t (V.2.2.1 t - 1)).1 (4052 + t) = V.1 (4052 + t) ∧ (vnf (vs (vs V (3961 + t) (V.1 (3961 + t) - (V.1 (2228 + (V.2.2.2 t (V.2.2.1 t - 1)).1) + 2))) (3954 + t) (V.1 (3954 + t) - 1)) t (V.2.2.1 t - 1)).1 (4059 + t) = V.1 (4059 + t) := ⟨(vs_ne (by omega)).trans (vs_ne (by omega)), (vs_ne (by omega)).trans (vs_ne (by omega))⟩
  have hpe : vpe V.1 (vnf (vs (vs V (3961 + t) (V.1 (3961 + t) - (V.1 (2228 + (V.2.2.2 t (V.2.2.1 t - 1)).1) + 2))) (3954 + t) (V.1 (3954 + t) - 1)) t (V.2.2.1 t - 1)).1 := (vpe.upd (by omega)).trans (vpe.upd (by omega))
  unfold vrt
  dsimp only
  generalize vnf (vs (vs V (3961 + t) (V.1 (3961 + t) - (V.1 (2228 + (V.2.2.2 t (V.2.2.1 t - 1)).1) + 2))) (3954 + t) (V.1 (3954 + t) - 1)) t (V.2.2.1 t - 1) = V1 at *
  split
  · exact (k3_dn h3.2).pre h3.1.1 hk.1 hk.2 hpe
  · have hlv : ∀ i, i = 3989 + t → (vlv V1 t (V.2.2.2 t (V.2.2.1 t - 1))).1 i = V1.1 i := fun i hi => by
      unfold vlv
      split
      · rfl
      · dsimp only
        split
        · show (vlg1 (vs V1 (4066 + t) (V1.1 (4066 + t) - 1))).1 i = _
          rw [vlg1_ne (by omega), vs_ne (by omega)]
        · rw [vlg1_ne (by omega)]
          show (vsp (vs V1 (4066 + t) (V1.1 (4066 + t) - 1)) t).1 i = _
          rw [vsp_w (by omega), vs_ne (by omega)]
    have h4 : K6 t V (if V.1 (3933 + t) = 1 then vlv V1 t (V.2.2.2 t (V.2.2.1 t - 1)) else V1) ∧ (if V.1 (3933 + t) = 1 then vlv V1 t (V.2.2.2 t (V.2.2.1 t - 1)) else V1).1 (3989 + t) = V.1 (3989 + t) := by
      split
      · exact ⟨h3.trans (k6_lv h3.2), (hlv _ rfl).trans e89⟩
      · exact ⟨h3, e89⟩
    generalize (if V.1 (3933 + t) = 1 then vlv V1 t (V.2.2.2 t (V.2.2.1 t - 1)) else V1) = V2 at *
    obtain ⟨h4, e4⟩ := h4
    have h5 := h4.trans (k6_vs (i := 3982 + t) (v := nI (vpl V2 t (V.2.2.1 t - 1 - 1))) h4.2 (by omega))
    have h6 := h5.trans (k6_vs (i := 3975 + t) (v := nI ((V.2.2.2 t (V.2.2.1 t - 1)).2.2.2.1 % 1024 / 32)) h5.2 (by omega))
    have h7 := h6.trans (k6_vs (i := 3968 + t) (v := nI ((V.2.2.2 t (V.2.2.1 t - 1)).2.2.2.1 % 32)) h6.2 (by omega))
    have h8 := h7.trans (k6_nu (i := V.2.2.1 t - 1 - 1) (k := (V.1 (vco ((V.2.2.2 t (V.2.2.1 t - 1)).2.2.2.1 % 1024 / 32) ((V.2.2.2 t (V.2.2.1 t - 1)).2.2.2.1 % 32 - 1) + 3)).toInt.toNat) (v := v) h7.2)
    split
    · rename_i c
      refine (h8.trans (k6_fv h8.2 ?_)).k3 hn3
      show (vs (vs (vs V2 (3982 + t) _) (3975 + t) _) (3968 + t) _).1 (3989 + t) ≠ -1
      rw [vs_ne (by omega), vs_ne (by omega), vs_ne (by omega), e4]
      exact hcb c
    · exact h8.k3 hn3
theorem k6_sd (hz : (V.1 2052).toInt.toNat ≤ 3) (h : Sd t V) (e : vsd V t = some V1) : K6 t V V1 ∧ V1.1 (3989 + t) ≠ -1 := by
  unfold vsd at e
  split at e
  · split at e
    · cases e
    · rename_i k hk
      cases e
      have hk3 := vfs_lt hk
      have h1 := k6_vs (i := 3923 + k) (v := nI t) h (by omega)
      exact ⟨h1.trans ⟨⟨vs_ne (by omega), fun q => by rw [vs_ne (by omega)]; exact q⟩, Or.inr ⟨k, by omega, vs_at⟩⟩, by rw [vs_at]; exact nI_m1 (by omega)⟩
  · rename_i c
    cases e
    exact ⟨K6.refl h, c⟩
theorem k6_fg {words f slot : Int32} (hz : (V.1 2052).toInt.toNat ≤ 3) (h : Sd t V) : K6 t V (vfg lim V t words f slot) := by
  unfold vfg
  cases hsd : vsd V t with
  | none =>
    rw [vhs_0 hsd]
    have h1 := k6_sta (v := 2) h (by decide)
    have h2 := h1.trans (k6_vs (i := 3968 + t) (v := V.1 (3968 + t) - 1) h1.2 (by omega))
    exact h2.trans (k6_cn (k := 10) (v := 1) h2.2 (by omega))
  | some V1 =>
    obtain ⟨h0, hn0⟩ := k6_sd hz h hsd
    have h1 := h0.trans (k6_sta (v := 1) h0.2 (by decide))
    by_cases c : ((vs V1 (3926 + t) 1).1 (3996 + t) + words).toInt ≤ ((vs V1 (3926 + t) 1).1 2053).toInt
    · rw [vhs_1 hsd c]
      have h2 := h1.trans (k6_vs (i := 3996 + t) (v := (vs V1 (3926 + t) 1).1 (3996 + t) + words) h1.2 (by omega))
      dsimp only
      split
      · exact h2.trans (k6_cl h2.2)
      · have h3 := h2.trans (k6_nu (i := (vs (vs V1 (3926 + t) 1) (3996 + t) ((vs V1 (3926 + t) 1).1 (3996 + t) + words)).2.2.1 t - 1) (k := slot.toInt.toNat) (v := 3 * vnm (vlf (vs (vs V1 (3926 + t) 1) (3996 + t) ((vs V1 (3926 + t) 1).1 (3996 + t) + words)) t) slot + 1) h2.2)
        refine h3.trans (k6_fv h3.2 ?_)
        show (vs (vs V1 (3926 + t) 1) (3996 + t) _).1 (3989 + t) ≠ -1
        rw [vs_ne (by omega), vs_ne (by omega)]
        exact hn0
    · rw [vhs_2 hsd c]
      exact h1.trans (k6_out h1.2)
theorem k6_qu (h : Sd t V) : K6 t V (vqu lim V t).2 := by
  unfold vqu
  split
  · exact k6_sp h
  split
  · exact K6.refl h
  split
  · exact K6.refl h
  · exact K6.l (K6.c (K6.i (k6_mv h) (by omega)) (by omega))
theorem k3_ln {l : Nat} {kind a b c : Int32} {Z : (Nat → Int32) → Int32 → Int32 → Int32 → Bool} (hz : (V.1 2052).toInt.toNat ≤ 3) (h : Sd t V) (hcb : 2048 ≤ (V.2.2.2 t (V.2.2.1 t - 1)).2.2.2.1 → V.1 (3989 + t) ≠ -1) (hn3 : V.1 (3926 + t) ≠ 3) : K3 Z t V (vln1 lim Z V t l kind a b c) := by
  unfold vln1
  dsimp only
  by_cases c0 : kind = 0
  · rw [if_pos c0]; exact K6.k3 (k6_nu h) hn3
  rw [if_neg c0]
  by_cases c1 : kind = 1
  · rw [if_pos c1]; exact K6.k3 (k6_nu h) hn3
  rw [if_neg c1]
  by_cases c2 : kind = 2
  · rw [if_pos c2]; exact K6.k3 (k6_nu h) hn3
  rw [if_neg c2]
  by_cases c3 : kind = 3
  · rw [if_pos c3]; exact K6.k3 (k6_po h) hn3
  rw [if_neg c3]
  by_cases c4 : kind = 4
  · rw [if_pos c4]; exact K6.k3 (k6_nu h) hn3
  rw [if_neg c4]
  by_cases c5 : kind = 5
  · rw [if_pos c5]
    cases (vlf V t).2.2.2.2.2 a.toInt.toNat with
    | none => exact K6.k3 (K6.refl h) hn3
    | some q => exact K6.k3 (k6_nu h) hn3
  rw [if_neg c5]
  by_cases c6 : kind = 6
  · rw [if_pos c6]
    by_cases ct : tld V.1 a
    · rw [if_pos ct]; exact K6.k3 (k6_cl h) hn3
    · rw [if_neg ct]; exact K6.k3 (k6_nu h) hn3
  rw [if_neg c6]
  by_cases c7 : kind = 7
  · rw [if_pos c7]
    by_cases ct : (vnm (vlf V t) a).toInt ≤ 0
    · rw [if_pos ct]; exact K6.k3 (K6.refl h) hn3
    · rw [if_neg ct]; exact K6.k3 (k6_vs h (by omega)) hn3
  rw [if_neg c7]
  by_cases c8 : kind = 8
  · rw [if_pos c8]; exact k3_rt h hcb hn3
  rw [if_neg c8]
  by_cases c9 : kind = 9
  · rw [if_pos c9]; exact K6.k3 (k6_fg hz h) hn3
  rw [if_neg c9]
  exact K6.k3 (k6_qu h) hn3
theorem k3_st {B : Nat} {Z : (Nat → Int32) → Int32 → Int32 → Int32 → Bool} (hI : VI lim B V) (ht : t < 6) (hb : vbz V.1 t) (hlm : lim ≤ 10000) : K3 Z t V (vst lim Z V t) := by
  obtain ⟨np, z, z2, z3, k, l, hP, h0, -, -, ⟨s1, s2, s3⟩, -, -, hs, -, hcb⟩ := hI.opn ht hb hlm
  have h : Sd t V := hs
  have hcb' : 2048 ≤ (V.2.2.2 t (V.2.2.1 t - 1)).2.2.2.1 → V.1 (3989 + t) ≠ -1 := fun e e2 => by
    obtain ⟨ks, k1, k2⟩ := hcb e
    rw [e2] at k2
    exact absurd k2.symm (nI_m1 (by omega))
  have h1 := k6_inc (i := 3947 + t) h (by omega)
  have h2 := h1.trans (k6_cn (k := 2) (v := 1) h1.2 (by omega))
  have hz : ∀ V' : vV, (∀ i, i ≠ 3947 + t → i ≠ 2056 → i ≠ 3968 + t → V'.1 i = V.1 i) → ((V'.1 2052).toInt.toNat ≤ 3) := fun V' hv => by
    rw [hv 2052 (by omega) (by omega) (by omega), s1, nI_int (by omega)]
    show (z3 : Int).toNat ≤ 3
    omega
  have e1 : ∀ i, i ≠ 3947 + t → i ≠ 2056 → (vcn (vinc V (3947 + t)) 2 1).1 i = V.1 i := fun i g1 g2 => (vcn_ne (by omega)).trans (vinc_ne g1)
  have e12 : (vcn (vinc V (3947 + t)) 2 1).2 = V.2 := rfl
  have hn3 : V.1 (3926 + t) ≠ 3 := by
    rcases hb with e | e
    · rw [e]; decide
    · rw [e]; decide
  have hpe : vpe V.1 (vcn (vinc V (3947 + t)) 2 1).1 := (vpe.upd (by omega)).trans (vpe.upd (by omega))
  unfold vst
  dsimp only
  generalize vcn (vinc V (3947 + t)) 2 1 = V1 at *
  split
  · have h3 := h2.trans (k6_vs (i := 3968 + t) (v := V1.1 (3968 + t) + 1) h2.2 (by omega))
    have e3 : ∀ i, i ≠ 3947 + t → i ≠ 2056 → i ≠ 3968 + t → (vs V1 (3968 + t) (V1.1 (3968 + t) + 1)).1 i = V.1 i := fun i g1 g2 g3 => (vs_ne g3).trans (e1 i g1 g2)
    have hp3 : vpe V.1 (vs V1 (3968 + t) (V1.1 (3968 + t) + 1)).1 := hpe.trans (vpe.upd (by omega))
    have e32 : (vs V1 (3968 + t) (V1.1 (3968 + t) + 1)).2 = V.2 := e12
    generalize vs V1 (3968 + t) (V1.1 (3968 + t) + 1) = V3 at *
    exact (k3_ln (hz V3 e3) h3.2 (by rw [e32, e3 _ (by omega) (by omega) (by omega)]; exact hcb') (by rw [e3 _ (by omega) (by omega) (by omega)]; exact hn3)).pre (e3 _ (by omega) (by omega) (by omega)) (e3 _ (by omega) (by omega) (by omega)) (e3 _ (by omega) (by omega) (by omega)) hp3
  · exact (k3_rt h2.2 (by rw [e12, e1 _ (by omega) (by omega)]; exact hcb') (by rw [e1 _ (by omega) (by omega)]; exact hn3)).pre (e1 _ (by omega) (by omega)) (e1 _ (by omega) (by omega)) (e1 _ (by omega) (by omega)) hpe
end
end
section
/-! ===== the class: how often there was another result ===== -/
/-- what steps do to it: it grows as DONE comes -/
def K7 (t : Nat) (V V' : vV) : Prop := (V'.1 (3926 + t) ≠ 3 ∧ V'.1 2066 = V.1 2066) ∨ (V'.1 (3926 + t) = 3 ∧ V'.1 2066 = V.1 2066 + if vZ V'.1 (V'.1 (4052 + t)) (V'.1 (4059 + t)) (V'.1 (3940 + t)) = true then 1 else 0)
section
variable {B B' : Nat} {s s' : wt_S} {V V' V1 Vk : vV} {t f np : Nat} {x v r : Int32}
theorem vZ_pe {w w' : Nat → Int32} {f a v : Int32} (h : vpe w w') : vZ w' f a v = vZ w f a v := by
  have e : eend w' f a = eend w f a := by
    unfold eend
    rw [ecw_eq h]
  unfold vZ
  rw [e]
theorem k7_st (hI : VI 2048 B V) (ht : t < 6) (hb : vbz V.1 t) : K7 t V (vst 2048 vZ V t) := by
  obtain ⟨k1, k2⟩ := ke_st (Z := vZ) hI ht hb (by omega)
  have hp := pe_st (Z := vZ) hI ht hb (by omega)
  rcases k3_st (Z := vZ) hI ht hb (by omega) with h | ⟨h1, w0, h2, h3⟩
  · exact Or.inl h
  · refine Or.inr ⟨h1, ?_⟩
    rw [h3, k1, k2, vZ_pe (hp.symm.trans h2)]
theorem vrun_idle (h : vby V t = false) : ∀ n, vrun vZ t n V = (0, V) := by
  intro n
  cases n with
  | zero => rfl
  | succ n =>
    unfold vrun
    rw [if_neg (by rw [h]; decide)]
theorem vrun_0 : ∀ n, (vrun vZ t n V).1 = 0 → (vrun vZ t n V).2 = V := by
  intro n
  cases n with
  | zero => intro _; rfl
  | succ n =>
    unfold vrun
    by_cases c : vby V t = true
    · rw [if_pos c]
      intro h
      exact absurd h (Nat.succ_ne_zero _)
    · rw [if_neg c]
      intro _
      rfl
theorem vby_3 (h : V.1 (3926 + t) = 3) : vby V t = false := by
  cases q : vby V t with
  | false => rfl
  | true =>
    rcases vby_iff.mp q with x | x
    · rw [h] at x; exact absurd x (by decide)
    · rw [h] at x; exact absurd x (by decide)
theorem k7_run (ht : t < 6) : ∀ (n : Nat) (B : Nat) (V : vV), VI 2048 B V → V.1 (3926 + t) ≠ 3 → K7 t V (vrun vZ t n V).2 := by
  intro n
  induction n with
  | zero => intro B V hI h; exact Or.inl ⟨h, rfl⟩
  | succ n ih =>
    intro B V hI h
    unfold vrun
    by_cases c : vby V t = true
    · rw [if_pos c]
      have hb := vby_iff.mp c
      have hI1 := vi_st (Z := vZ) hI ht hb (by omega)
      rcases k7_st hI ht hb with ⟨a1, a2⟩ | ⟨a1, a2⟩
      · rcases ih (B + 4) (vst 2048 vZ V t) hI1 a1 with ⟨b1, b2⟩ | ⟨b1, b2⟩
        · exact Or.inl ⟨b1, b2.trans a2⟩
        · rw [a2] at b2
          exact Or.inr ⟨b1, b2⟩
      · rw [vrun_idle (vby_3 a1)]
        exact Or.inr ⟨a1, a2⟩
    · rw [if_neg c]
      exact Or.inl ⟨h, rfl⟩
/-- a result is held against that of an endless stack -/
theorem nw_cmp6 (h : NW B s V) (ht : t < 6) (htl : tld V.1 (V.1 (4052 + t))) (hst : V.1 (3926 + t) = 3) (hc : V.1 2066 = s 11 8 + if vZ V.1 (V.1 (4052 + t)) (V.1 (4059 + t)) (V.1 (3940 + t)) = true then 1 else 0) : ∃ s', (wt_cl (gX10_thinkEndless s (s (11 + 17 + 2 * t) 15) (s (11 + 17 + 2 * t) 16)) fun a2 s1 => if a2 = 57 then (wt_cl (gX10_compareResults (11 + 17 + 2 * t) 57 s1) fun _ s3 => some ((), s3)) else none) = some ((), s') ∧ NW B s' V ∧ NF s s' ∧ s' 11 8 = V.1 2066 := by
  have h' := h
  obtain ⟨⟨zs, fr, hR⟩, hI, hW, hK, hT⟩ := h'
  obtain ⟨f, f10, e1, -, e3⟩ := tld_nat htl
  have e15 : s (11 + 17 + 2 * t) 15 = nI f := ((hR.2.2.2.1 t ht).2.2.2.2.1 (by rw [hst]; decide)).trans e1
  have e16 : V.1 (4059 + t) = s (11 + 17 + 2 * t) 16 := (hR.at ht (e := (16, 4059)) (by decide)).symm
  rw [e1, e16] at hc
  rw [e15]
  generalize s (11 + 17 + 2 * t) 16 = a at hc ⊢
  obtain ⟨s1, zs1, fr1, a1, a2, a3, a4⟩ := nw_think (a := a) (Z := vZ) h f10 e3
  have hE := vET_end (Z := vZ) (W := V.1) (f := f) (a := a) hI.2.1 f10 e3
  have z1 : s1 57 1 = (vET vZ V.1 f a).1 3926 := a4.at (t := 0) (by omega) (e := (1, 3926)) (by decide)
  have z3 : s1 57 3 = (vET vZ V.1 f a).1 3940 := a4.at (t := 0) (by omega) (e := (3, 3940)) (by decide)
  have zT : s1 (11 + 17 + 2 * t) 3 = V.1 (3940 + t) := by rw [a3 _ (by omega)]; exact hR.at ht (e := (3, 3940)) (by decide)
  have z8 : s1 11 = s 11 := a3 11 (by omega)
  have hn : NF s s1 := fun c hc => a3 c (by omega)
  rw [a1, cl_some, if_pos rfl]
  unfold gX10_compareResults
  unfold vZ at hc
  cases er : eend V.1 (nI f) a with
  | none =>
    rw [er] at hE hc
    have hE : (vET vZ V.1 f a).1 3926 ≠ 3 := hE
    have hc : V.1 2066 = s 11 8 + if false = true then 1 else 0 := hc
    rw [if_neg (by decide), Int32.add_zero] at hc
    rw [if_pos (by rw [z1]; exact hE), cl_some]
    exact ⟨s1, rfl, a2, hn, by rw [z8, hc]⟩
  | some r =>
    rw [er] at hE hc
    obtain ⟨d1, d2, -, -⟩ := hE
    have hc : V.1 2066 = s 11 8 + if decide (r.1 ≠ V.1 (3940 + t)) = true then 1 else 0 := hc
    rw [if_neg (fun q => q (z1.trans d1))]
    by_cases c2 : s1 57 3 = s1 (11 + 17 + 2 * t) 3
    · have hv : r.1 = V.1 (3940 + t) := d2.symm.trans (z3.symm.trans (c2.trans zT))
      rw [if_neg (show ¬ decide (r.1 ≠ V.1 (3940 + t)) = true from fun q => absurd hv (of_decide_eq_true q)), Int32.add_zero] at hc
      rw [if_pos c2, cl_some]
      exact ⟨s1, rfl, a2, hn, by rw [z8, hc]⟩
    · have hv : r.1 ≠ V.1 (3940 + t) := fun q => c2 (z3.trans (d2.trans (q.trans zT.symm)))
      rw [if_pos (decide_eq_true hv)] at hc
      rw [if_neg c2, wr_eq, cl_some]
      exact ⟨_, rfl, nw_u8 a2, hn.trans (fun c hc => wt_u_ne (by omega)), by rw [wt_u_self, z8, hc]⟩
theorem c_37_6 (ht : t < 6) : ∀ (r m fu B : Nat) (s : wt_S) (V : vV), r < fu → m + r < 100000 → NW B s V → ∃ s', gX10_step_37 fu s (nI (m + r)) (11 + 17 + 2 * t) (nI m) (nI m) = gX10_step_67 s' (11 + 17 + 2 * t) (nI (m + (vrun vZ t r V).1)) ∧ NW (B + 4 * r) s' (vrun vZ t r V).2 ∧ CF 11 s s' := by
  intro r
  induction r with
  | zero =>
    intro m fu B s V hfu hm h
    obtain ⟨fu, rfl⟩ : ∃ k, fu = k + 1 := ⟨fu - 1, by omega⟩
    refine ⟨s, ?_, h, CF.refl⟩
    rw [gX10_step_37, if_pos (show (nI (m + 0)).toInt ≤ (nI m).toInt from Int.le_refl _)]
    rfl
  | succ r ih =>
    intro m fu B s V hfu hm h
    obtain ⟨fu, rfl⟩ : ∃ k, fu = k + 1 := ⟨fu - 1, by omega⟩
    obtain ⟨⟨zs, fr, hR⟩, -⟩ := id h
    rw [gX10_step_37, if_neg (by rw [nI_int (by omega), nI_int (by omega)]; omega), c_on hR ht, cl_some, if_rb]
    unfold vrun
    by_cases c : vby V t = true
    · rw [if_pos c, if_pos c]
      obtain ⟨s1, a1, a2, a3⟩ := nw_step (Z := vZ) h ht (vby_iff.mp c)
      obtain ⟨s', b1, b2, b3⟩ := ih (m + 1) fu (B + 4) s1 (vst 2048 vZ V t) (by omega) (by omega) a2
      rw [a1, cl_some, show nI m + 1 = nI (m + 1) from nI_add m 1, show m + (r + 1) = m + 1 + r by omega, b1]
      refine ⟨s', ?_, b2.mono (by omega), a3.trans b3⟩
      rw [show m + 1 + (vrun vZ t r (vst 2048 vZ V t)).1 = m + ((vrun vZ t r (vst 2048 vZ V t)).1 + 1) by omega]
    · rw [if_neg c, if_neg c]
      exact ⟨s, rfl, h.mono (by omega), CF.refl⟩
theorem c_step6 {x n : Int32} (h : NW B s V) (h6 : s 11 8 = V.1 2066) : ∃ s', gX10_step s x n = some ((vstep vZ V x n).1, s') ∧ s' 11 8 = (vstep vZ V x n).2.1 2066 := by
  unfold gX10_step
  rw [c_isTask, cl_some, if_rb]
  by_cases c1 : 0 ≤ x.toInt ∧ x.toInt ≤ 5
  · obtain ⟨t, ht, rfl, etn⟩ := i_task c1
    rw [if_pos c1]
    by_cases c2 : 1 ≤ n.toInt ∧ n.toInt ≤ 200
    · obtain ⟨m, m1, rfl, m3, m4⟩ := i_nat (x := n) (by omega)
      obtain ⟨s1, a1, a2, a3⟩ := c_37_6 ht m 0 wt_N B s V (by unfold wt_N; omega) (by omega) h
      rw [Nat.zero_add, Nat.zero_add] at a1
      have a1 : gX10_step_37 wt_N s (nI m) (11 + 17 + 2 * t) 0 0 = gX10_step_67 s1 (11 + 17 + 2 * t) (nI (vrun vZ t m V).1) := a1
      have z8 : s1 11 = s 11 := a3 11 (Or.inl (Nat.le_refl _))
      have hle := vrun_le (Z := vZ) (t := t) (n := m) (V := V)
      rw [if_neg (show ¬ (nI m).toInt < (1 : Int32).toInt by show ¬ (nI m).toInt < 1; omega), if_pos (show (nI m).toInt ≤ (200 : Int32).toInt from c2.2), ix_nI ht (by omega), a1]
      have hv : vstep vZ V (nI t) (nI m) = (nI (vrun vZ t m V).1, (vrun vZ t m V).2) := by unfold vstep; rw [if_pos ⟨c1, c2⟩, etn, m3]
      unfold gX10_step_67
      rw [hv]
      by_cases c3 : (vrun vZ t m V).1 = 0
      · rw [if_pos (by rw [c3]; decide)]
        refine ⟨s1, rfl, ?_⟩
        show s1 11 8 = (vrun vZ t m V).2.1 2066
        rw [vrun_0 m c3, z8, h6]
      · have hb : vby V t = true := by
          cases q : vby V t with
          | true => rfl
          | false => exact absurd (by rw [vrun_idle q]) c3
        have hn3 : V.1 (3926 + t) ≠ 3 := fun q => by rw [vby_3 q] at hb; cases hb
        have hk := k7_run ht m B V h.2.1 hn3
        rw [if_neg (by rw [nI_int (by omega), ci0]; omega)]
        obtain ⟨⟨zs1, fr1, hR1⟩, -⟩ := id a2
        have e1 : s1 (11 + 17 + 2 * t) 1 = (vrun vZ t m V).2.1 (3926 + t) := hR1.at ht (e := (1, 3926)) (by decide)
        rw [e1]
        by_cases c4 : (vrun vZ t m V).2.1 (3926 + t) = 3
        · rw [if_neg (fun q => q c4)]
          have hc : (vrun vZ t m V).2.1 2066 = s1 11 8 + if vZ (vrun vZ t m V).2.1 ((vrun vZ t m V).2.1 (4052 + t)) ((vrun vZ t m V).2.1 (4059 + t)) ((vrun vZ t m V).2.1 (3940 + t)) = true then 1 else 0 := by
            rcases hk with q | q
            · exact absurd c4 q.1
            · rw [z8, h6]; exact q.2
          obtain ⟨s2, b1, b2, b3, b4⟩ := nw_cmp6 a2 ht (run_made h.2.1 ht (by omega)) c4 hc
          have key : (wt_cl (gX10_thinkEndless s1 (s1 (11 + 17 + 2 * t) 15) (s1 (11 + 17 + 2 * t) 16)) fun a2 s1 => if a2 = 57 then (wt_cl (gX10_compareResults (11 + 17 + 2 * t) 57 s1) fun _ s3 => some (nI (vrun vZ t m V).1, s3)) else none) = some (nI (vrun vZ t m V).1, s2) := by
            cases e : gX10_thinkEndless s1 (s1 (11 + 17 + 2 * t) 15) (s1 (11 + 17 + 2 * t) 16) with
            | none => rw [e] at b1; cases b1
            | some p =>
              obtain ⟨a, s3⟩ := p
              rw [e, cl_some] at b1
              rw [cl_some]
              by_cases ca : a = 57
              · rw [if_pos ca] at b1 ⊢
                cases e2 : gX10_compareResults (11 + 17 + 2 * t) 57 s3 with
                | none => rw [e2] at b1; cases b1
                | some p =>
                  obtain ⟨u4, s4⟩ := p
                  rw [e2, cl_some] at b1
                  rw [cl_some]
                  cases b1
                  rfl
              · rw [if_neg ca] at b1
                cases b1
          exact ⟨s2, key, b4⟩
        · rw [if_pos c4]
          refine ⟨s1, rfl, ?_⟩
          show s1 11 8 = (vrun vZ t m V).2.1 2066
          rcases hk with q | q
          · rw [z8, h6]; exact q.2.symm
          · exact absurd q.1 c4
    · have hv : vstep vZ V (nI t) n = (-1, V) := by unfold vstep; rw [if_neg (fun e => c2 e.2)]
      rw [hv]
      refine ⟨s, ?_, h6⟩
      have q1 : (1 : Int32).toInt = 1 := by decide
      have q2 : (200 : Int32).toInt = 200 := by decide
      by_cases c3 : n.toInt < (1 : Int32).toInt
      · rw [if_pos c3]
      · rw [if_neg c3, if_neg (by rw [q2]; rw [q1] at c3; omega)]
  · have hv : vstep vZ V x n = (-1, V) := by unfold vstep; rw [if_neg (fun e => c1 e.1)]
    rw [if_neg c1, hv]
    exact ⟨s, rfl, h6⟩
theorem c_39_6 {K : wt_S → Int32 → Int32 → Int32 → Option (Int32 × wt_S)} {l1 l3 : Int32} : ∀ (r t m fu B : Nat) (s : wt_S) (V : vV), r < fu → t + r = 6 → NW B s V → s 11 8 = V.1 2066 → ∃ s', gX10_round_39 K fu s l1 (nI m) l3 6 (nI t) = K s' l1 (nI (vrn6 vZ r t m V).1) (l3 + 1) ∧ NW (B + 4 * r) s' (vrn6 vZ r t m V).2 ∧ s' 11 8 = (vrn6 vZ r t m V).2.1 2066 := by
  intro r
  induction r with
  | zero =>
    intro t m fu B s V hfu ht h h6
    obtain ⟨fu, rfl⟩ : ∃ k, fu = k + 1 := ⟨fu - 1, by omega⟩
    refine ⟨s, ?_, h, h6⟩
    rw [gX10_round_39, if_pos (by rw [nI_int (by omega)]; show (6 : Int) ≤ _; omega)]
    rfl
  | succ r ih =>
    intro t m fu B s V hfu ht h h6
    obtain ⟨fu, rfl⟩ : ∃ k, fu = k + 1 := ⟨fu - 1, by omega⟩
    have ht6 : t < 6 := by omega
    obtain ⟨⟨zs, fr, hR⟩, -⟩ := id h
    rw [gX10_round_39, if_neg (by rw [nI_int (by omega)]; show ¬ (6 : Int) ≤ _; omega), ix_nI ht6 (by omega), c_on hR ht6, cl_some, if_rb, show nI t + 1 = nI (t + 1) from nI_add t 1]
    unfold vrn6
    have hrun : vrun vZ t 1 V = if vby V t then (0 + 1, vst 2048 vZ V t) else (0, V) := rfl
    by_cases c : vby V t = true
    · rw [if_pos c] at hrun
      rw [if_pos c, hrun]
      obtain ⟨s1, a1, a2, a3⟩ := nw_step (Z := vZ) h ht6 (vby_iff.mp c)
      have z8 : s1 11 = s 11 := a3 11 (Or.inl (Nat.le_refl _))
      have hk := k7_st h.2.1 ht6 (vby_iff.mp c)
      obtain ⟨⟨zs1, fr1, hR1⟩, -⟩ := id a2
      have e1 : s1 (11 + 17 + 2 * t) 1 = (vst 2048 vZ V t).1 (3926 + t) := hR1.at ht6 (e := (1, 3926)) (by decide)
      rw [a1, cl_some, e1, show nI m + 1 = nI (m + 1) from nI_add m 1]
      by_cases c4 : (vst 2048 vZ V t).1 (3926 + t) = 3
      · rw [if_neg (fun q => q c4)]
        have htl := run_made (Z := vZ) (n := 1) h.2.1 ht6 (by rw [hrun]; exact Nat.lt_succ_self 0)
        rw [hrun] at htl
        have hc : (vst 2048 vZ V t).1 2066 = s1 11 8 + if vZ (vst 2048 vZ V t).1 ((vst 2048 vZ V t).1 (4052 + t)) ((vst 2048 vZ V t).1 (4059 + t)) ((vst 2048 vZ V t).1 (3940 + t)) = true then 1 else 0 := by
          rcases hk with q | q
          · exact absurd c4 q.1
          · rw [z8, h6]; exact q.2
        obtain ⟨s2, b1, b2, b3, b4⟩ := nw_cmp6 a2 ht6 htl c4 hc
        obtain ⟨s', d1, d2, d3⟩ := ih (t + 1) (m + 1) fu (B + 4) s2 (vst 2048 vZ V t) (by omega) (by omega) b2 b4
        refine ⟨s', ?_, d2.mono (by omega), d3⟩
        rw [← d1]
        cases e : gX10_thinkEndless s1 (s1 (11 + 17 + 2 * t) 15) (s1 (11 + 17 + 2 * t) 16) with
        | none => rw [e] at b1; cases b1
        | some p =>
          obtain ⟨a, s3⟩ := p
          rw [e, cl_some] at b1
          rw [cl_some]
          by_cases ca : a = 57
          · rw [if_pos ca] at b1 ⊢
            cases e2 : gX10_compareResults (11 + 17 + 2 * t) 57 s3 with
            | none => rw [e2] at b1; cases b1
            | some p =>
              obtain ⟨u4, s4⟩ := p
              rw [e2, cl_some] at b1
              rw [cl_some]
              cases b1
              rfl
          · rw [if_neg ca] at b1
            cases b1
      · rw [if_pos c4]
        have h6' : s1 11 8 = (vst 2048 vZ V t).1 2066 := by
          rcases hk with q | q
          · rw [z8, h6]; exact q.2.symm
          · exact absurd q.1 c4
        obtain ⟨s', d1, d2, d3⟩ := ih (t + 1) (m + 1) fu (B + 4) s1 (vst 2048 vZ V t) (by omega) (by omega) a2 h6'
        exact ⟨s', d1, d2.mono (by omega), d3⟩
    · rw [if_neg c] at hrun
      rw [if_neg c, hrun]
      obtain ⟨s', d1, d2, d3⟩ := ih (t + 1) m fu B s V (by omega) (by omega) h h6
      exact ⟨s', d1, d2.mono (by omega), d3⟩
theorem c_17_6 : ∀ (r k m fu B N : Nat) (s : wt_S) (V : vV), r < fu → k + r = N → N ≤ 1000 → NW B s V → s 11 8 = V.1 2066 → ∃ s', gX10_round_17 fu s (nI N) (nI m) (nI k) = some (nI (vrnd vZ r m V).1, s') ∧ s' 11 8 = (vrnd vZ r m V).2.1 2066 := by
  intro r
  induction r with
  | zero =>
    intro k m fu B N s V hfu hk hN h h6
    obtain ⟨fu, rfl⟩ : ∃ k, fu = k + 1 := ⟨fu - 1, by omega⟩
    obtain rfl : k = N := by omega
    refine ⟨s, ?_, h6⟩
    rw [gX10_round_17, if_pos (Int.le_refl _)]
    rfl
  | succ r ih =>
    intro k m fu B N s V hfu hk hN h h6
    obtain ⟨fu, rfl⟩ : ∃ k, fu = k + 1 := ⟨fu - 1, by omega⟩
    rw [gX10_round_17, if_neg (by rw [nI_int (by omega), nI_int (by omega)]; omega)]
    obtain ⟨s1, a1, a2, a3⟩ := c_39_6 (K := gX10_round_17 fu) (l1 := nI N) (l3 := nI k) 6 0 m wt_N B s V (by unfold wt_N; omega) (by omega) h h6
    have a1 : gX10_round_39 (gX10_round_17 fu) wt_N s (nI N) (nI m) (nI k) 6 0 = _ := a1
    rw [a1, show nI k + 1 = nI (k + 1) from nI_add k 1]
    obtain ⟨s', b1, b2⟩ := ih (k + 1) (vrn6 vZ 6 0 m V).1 fu (B + 24) N s1 (vrn6 vZ 6 0 m V).2 (by omega) (by omega) hN a2 a3
    exact ⟨s', b1, b2⟩
theorem c_round6 {n : Int32} (h : NW B s V) (h6 : s 11 8 = V.1 2066) : ∃ s', gX10_round s n = some ((vround vZ V n).1, s') ∧ s' 11 8 = (vround vZ V n).2.1 2066 := by
  have q1 : (1 : Int32).toInt = 1 := by decide
  have q2 : (100 : Int32).toInt = 100 := by decide
  unfold gX10_round
  by_cases c2 : 1 ≤ n.toInt ∧ n.toInt ≤ 100
  · obtain ⟨m, m1, rfl, m3, m4⟩ := i_nat (x := n) (by omega)
    obtain ⟨s', a1, a2⟩ := c_17_6 m 0 0 wt_N B m s V (by unfold wt_N; omega) (by omega) (by omega) h h6
    rw [if_neg (by rw [q1]; omega), if_pos (by rw [q2]; exact c2.2), show gX10_round_17 wt_N s (nI m) 0 0 = _ from a1]
    unfold vround
    rw [if_pos c2, m3]
    exact ⟨s', rfl, a2⟩
  · have hv : vround vZ V n = (-1, V) := by unfold vround; rw [if_neg c2]
    rw [hv]
    refine ⟨s, ?_, h6⟩
    by_cases c3 : n.toInt < (1 : Int32).toInt
    · rw [if_pos c3]
    · rw [if_neg c3, if_neg (by rw [q2]; rw [q1] at c3; omega)]
end
end
section
/-! ===== alone: what a task's run depends on ===== -/
def ak (i : Nat) : Prop := (2049 ≤ i ∧ i ≤ 2053) ∨ (2228 ≤ i ∧ i < 2898) ∨ (3923 ≤ i ∧ i < 3926) ∨ (3926 ≤ i ∧ i ≤ 4066 ∧ (i - 3926) % 7 = 0)
/-- places that a task's run writes -/
def aw (i : Nat) : Prop := (i < 2228 ∨ 2898 ≤ i) ∧ i ≠ 2048 ∧ i ≠ 2050 ∧ i ≠ 2051
/-- the same, as far as task 0 goes, but for the pieces -/
def A0 (V V' : vV) : Prop := Ipr V.1 ∧ (∀ i, ak i → V'.1 i = V.1 i) ∧ V'.2.2.1 0 = V.2.2.1 0 ∧ (∀ i, i < V.2.2.1 0 → V'.2.2.2 0 i = V.2.2.2 0 i ∧ (V.2.2.2 0 i).1 < 10) ∧ ∀ m, vat V'.2.1 0 m = vat V.2.1 0 m
/-- and the pieces so, and what is set as FIRST so -/
def AQ (Q : List vP → List vP → Prop) (R : Int32 → Int32 → Prop) (V V' : vV) : Prop := A0 V V' ∧ Q V.2.1 V'.2.1 ∧ R (V.1 2048) (V'.1 2048)
theorem vud_cong {w w' : Nat → Int32} {fr fr' : Nat → vF} {k : Nat} (h : vpe w w') : ∀ {n : Nat}, (∀ i, i < n → fr' i = fr i ∧ (fr i).1 < 10) → vud w' fr' k n = vud w fr k n := by
  intro n
  induction n with
  | zero => intro _; rfl
  | succ n ih =>
    intro hf
    obtain ⟨e1, e2⟩ := hf n (Nat.lt_succ_self n)
    show vud w' fr' k n + (if (fr' n).2.1 = k then vwd w' (fr' n).1 else 0) = vud w fr k n + (if (fr n).2.1 = k then vwd w (fr n).1 else 0)
    rw [ih (fun i hi => hf i (Nat.lt_succ_of_lt hi)), e1, (h.sz e2).2.1]
theorem vfs_cong {w w' : Nat → Int32} : ∀ (m k : Nat), (∀ x, k ≤ x → x < k + m → w' (3923 + x) = w (3923 + x)) → vfs w' m k = vfs w m k := by
  intro m
  induction m with
  | zero => intro k _; rfl
  | succ m ih =>
    intro k h
    show (if w' (3923 + k) = -1 then some k else vfs w' m (k + 1)) = (if w (3923 + k) = -1 then some k else vfs w m (k + 1))
    rw [h k (Nat.le_refl _) (by omega), ih (k + 1) (fun x h1 h2 => h x (by omega) (by omega))]
section
variable {V V' V1 V1' : vV} {i k n f bk : Nat} {v v' : Int32} {F : vF} {Q : List vP → List vP → Prop} {R : Int32 → Int32 → Prop}
theorem A0.r (h : A0 V V') (hi : ak i) : V'.1 i = V.1 i := h.2.1 i hi
theorem A0.own (h : A0 V V') {c : Nat} (hc : 3926 ≤ c ∧ c ≤ 4066 ∧ (c - 3926) % 7 = 0) : V'.1 (c + 0) = V.1 (c + 0) := h.2.1 _ (Or.inr (Or.inr (Or.inr (by omega))))
theorem A0.pe (h : A0 V V') : vpe V.1 V'.1 := fun i hi => h.2.1 i (by unfold ak; omega)
theorem A0.nn (h : A0 V V') : V'.2.2.1 0 = V.2.2.1 0 := h.2.2.1
theorem A0.ff (h : A0 V V') (hi : i < V.2.2.1 0) : V'.2.2.2 0 i = V.2.2.2 0 i := (h.2.2.2.1 i hi).1
theorem A0.ten (h : A0 V V') (hi : i < V.2.2.1 0) : (V.2.2.2 0 i).1 < 10 := (h.2.2.2.1 i hi).2
theorem A0.lf (h : A0 V V') (hn : 0 < V.2.2.1 0) : vlf V' 0 = vlf V 0 := by
  unfold vlf
  rw [h.nn]
  exact h.ff (by omega)
theorem A0.lf10 (h : A0 V V') (hn : 0 < V.2.2.1 0) : (vlf V 0).1 < 10 := h.ten (by omega)
theorem A0.pl (h : A0 V V') (hi : i < V.2.2.1 0) : vpl V' 0 i = vpl V 0 i := by
  unfold vpl
  rw [h.ff hi, h.2.2.2.2]
theorem A0.np (h : A0 V V') : vnp V' 0 = vnp V 0 := by
  unfold vnp
  rw [h.own (c := 4066) (by omega)]
theorem A0.use (h : A0 V V') : vuse V' 0 = vuse V 0 := by
  unfold vuse
  rw [h.own (c := 3961) (by omega)]
theorem A0.lc (h : A0 V V') : vlc V' 0 = vlc V 0 := by
  unfold vlc
  rw [h.nn]
  by_cases c : 0 < V.2.2.1 0
  · rw [h.ff (by omega)]
  · rw [decide_eq_false c, Bool.false_and, Bool.false_and]
theorem A0.kp (h : A0 V V') : vkp V' 0 = vkp V 0 := by
  unfold vkp
  rw [h.use, h.lc, h.r (i := 2051) (Or.inl (by omega))]
theorem A0.top (h : A0 V V') : vtop V' 0 = vtop V 0 := by
  unfold vtop
  rw [h.nn]
  by_cases c : V.2.2.1 0 = 0
  · rw [if_pos c, if_pos c, h.2.2.2.2]
  · rw [if_neg c, if_neg c, h.pl (by omega), h.ff (by omega), (h.pe.sz (h.ten (i := V.2.2.1 0 - 1) (by omega))).2.1]
theorem A0.mg (h : A0 V V') (hf : f < 10) : vmg V'.1 f = vmg V.1 f ∧ vnd V'.1 f = vnd V.1 f := h.pe.mg h.1 hf
theorem A0.ha (h : A0 V V') (hf : f < 10) (hF : F.1 < 10) : vha V'.1 f F k = vha V.1 f F k := by
  unfold vha
  rw [(h.pe.sz hf).2.2.2, (h.pe.sz hF).2.2.2]
theorem A0.fn (h : A0 V V') {a : Int32} {q : Option (Nat × Nat)} : vfn V' 0 f bk a q = vfn V 0 f bk a q := by
  unfold vfn
  rw [h.np, h.nn, vud_cong h.pe h.2.2.2.1]
/-! ### what is done to both -/
theorem A0.vss (h : A0 V V') (hw : aw i ∨ i = 2048) (e : ak i → v' = v) : A0 (vs V i v) (vs V' i v') := by
  refine ⟨h.1.ww (vpe.upd (by unfold aw at hw; omega)), fun j hj => ?_, h.2.2.1, h.2.2.2.1, h.2.2.2.2⟩
  show mj_upd V'.1 i v' j = mj_upd V.1 i v j
  by_cases e2 : j = i
  · subst e2
    rw [mj_upd_self, mj_upd_self, e hj]
  · rw [mj_upd_ne e2, mj_upd_ne e2]
    exact h.2.1 j hj
theorem AQ.vss (h : AQ Q R V V') (hw : aw i) (e : ak i → v' = v) : AQ Q R (vs V i v) (vs V' i v') := by
  refine ⟨h.1.vss (Or.inl hw) e, h.2.1, ?_⟩
  rw [vs_ne (by unfold aw at hw; omega), vs_ne (by unfold aw at hw; omega)]
  exact h.2.2
theorem AQ.vc (h : AQ Q R V V') (hk : k < 12) : AQ Q R (vcn V k v) (vcn V' k v') := h.vss (by unfold aw; omega) (fun e => by unfold ak at e; omega)
theorem AQ.lg (h : AQ Q R V V') : AQ Q R (vlg1 V) (vlg1 V') := h.vss (by unfold aw; omega) (fun e => by unfold ak at e; omega)
theorem AQ.inc (h : AQ Q R V V') (hw : aw i) : AQ Q R (vinc V i) (vinc V' i) := h.vss hw (fun e => by rw [h.1.r e])
theorem AQ.nf (h : AQ Q R V V') (hn : ∀ i, i < n → V'.2.2.2 0 i = V.2.2.2 0 i ∧ (V.2.2.2 0 i).1 < 10) : AQ Q R (vnf V 0 n) (vnf V' 0 n) := by
  refine ⟨⟨h.1.1, h.1.2.1, ?_, fun i hi => ?_, h.1.2.2.2.2⟩, h.2.1, h.2.2⟩
  · show mj_upd V'.2.2.1 0 n 0 = mj_upd V.2.2.1 0 n 0
    rw [mj_upd_self, mj_upd_self]
  · have hi : i < mj_upd V.2.2.1 0 n 0 := hi
    rw [mj_upd_self] at hi
    exact hn i hi
theorem AQ.nfl (h : AQ Q R V V') (hn : n ≤ V.2.2.1 0) : AQ Q R (vnf V 0 n) (vnf V' 0 n) := h.nf (fun i hi => h.1.2.2.2.1 i (by omega))
theorem AQ.fr (h : AQ Q R V V') (hF : F.1 < 10) : AQ Q R (vfr V 0 i F) (vfr V' 0 i F) := by
  refine ⟨⟨h.1.1, h.1.2.1, h.1.2.2.1, fun j hj => ?_, h.1.2.2.2.2⟩, h.2.1, h.2.2⟩
  have hj : j < V.2.2.1 0 := hj
  by_cases e : j = i
  · subst e
    rw [vfr_at, vfr_at]
    exact ⟨rfl, hF⟩
  · rw [vfr_ne (fun q => e q.2), vfr_ne (fun q => e q.2)]
    exact h.1.2.2.2.1 j hj
theorem AQ.nu (h : AQ Q R V V') (hi : i < V.2.2.1 0) : AQ Q R (vnu V 0 i k v) (vnu V' 0 i k v) := by
  unfold vnu
  rw [h.1.ff hi]
  exact h.fr (h.1.ten hi)
theorem AQ.po (h : AQ Q R V V') {q : Option (Nat × Nat)} (hi : i < V.2.2.1 0) : AQ Q R (vpo V 0 i k q) (vpo V' 0 i k q) := by
  unfold vpo
  rw [h.1.ff hi]
  exact h.fr (h.1.ten hi)
theorem AQ.pu (h : AQ Q R V V') (hf : f < 10) {a : Int32} {q : Option (Nat × Nat)} : AQ Q R (vpu V 0 f bk a q) (vpu V' 0 f bk a q) := by
  have e61 := h.1.own (c := 3961) (by omega)
  have e28 : V'.1 (2228 + f) = V.1 (2228 + f) := h.1.r (Or.inr (Or.inl (by omega)))
  have hF : (vfn V 0 f bk a q).1 < 10 := hf
  have h1 := h.fr (i := V.2.2.1 0) hF
  unfold vpu
  dsimp only
  rw [h.1.fn, h.1.nn, e61, e28, h.1.2.2.2.2]
  generalize vfn V 0 f bk a q = F at *
  have hi : ∀ i, i < V.2.2.1 0 + 1 → (vfr V' 0 (V.2.2.1 0) F).2.2.2 0 i = (vfr V 0 (V.2.2.1 0) F).2.2.2 0 i ∧ ((vfr V 0 (V.2.2.1 0) F).2.2.2 0 i).1 < 10 := fun i hi => by
    by_cases e : i = V.2.2.1 0
    · subst e
      rw [vfr_at, vfr_at]
      exact ⟨rfl, hF⟩
    · exact h1.1.2.2.2.1 i (show i < V.2.2.1 0 by omega)
  have h2 := ((h1.vss (i := 3982 + 0) (v := nI (vat V.2.1 0 F.2.1 + F.2.2.1)) (v' := nI (vat V.2.1 0 F.2.1 + F.2.2.1)) (by unfold aw; omega) (fun _ => rfl)).vss (i := 3975 + 0) (v := nI f) (v' := nI f) (by unfold aw; omega) (fun _ => rfl)).vss (i := 3968 + 0) (v := 0) (v' := 0) (by unfold aw; omega) (fun _ => rfl)
  have h3 := h2.inc (i := 3954 + 0) (by unfold aw; omega)
  have h4 := (h3.nf (n := V.2.2.1 0 + 1) hi).vss (i := 3961 + 0) (v := V.1 (3961 + 0) + (V.1 (2228 + f) + 2)) (v' := V.1 (3961 + 0) + (V.1 (2228 + f) + 2)) (by unfold aw; omega) (fun _ => rfl)
  rw [h4.1.own (c := 3961) (by omega), h4.1.own (c := 4045) (by omega)]
  split
  · exact h4
  · exact h4.vss (by unfold aw; omega) (fun _ => rfl)
theorem AQ.fv (h : AQ Q R V V') {words : Int32} : AQ Q R (vfv V 0 words) (vfv V' 0 words) := by
  have h1 := (h.vc (k := 9) (v := 1) (v' := 1) (by omega)).vss (i := 3996 + 0) (v := V.1 (3996 + 0) - words) (v' := V'.1 (3996 + 0) - words) (by unfold aw; omega) (fun _ => by rw [h.1.own (c := 3996) (by omega)])
  unfold vfv
  dsimp only
  rw [h1.1.own (c := 3996) (by omega), h.1.own (c := 3989) (by omega)]
  split
  · exact h1
  · exact (h1.vss (i := 3923 + (V.1 (3989 + 0)).toInt.toNat) (v := -1) (v' := -1) (by unfold aw; omega) (fun _ => rfl)).vss (i := 3989 + 0) (v := -1) (v' := -1) (by unfold aw; omega) (fun _ => rfl)
theorem AQ.sd (h : AQ Q R V V') (hz : (V.1 2052).toInt.toNat ≤ 3) : (vsd V 0 = none ∧ vsd V' 0 = none) ∨ ∃ V1 V1', vsd V 0 = some V1 ∧ vsd V' 0 = some V1' ∧ AQ Q R V1 V1' ∧ V1.2 = V.2 ∧ V1'.2 = V'.2 := by
  have e89 := h.1.own (c := 3989) (by omega)
  have e52 : V'.1 2052 = V.1 2052 := h.1.r (Or.inl (by omega))
  unfold vsd
  rw [e89, e52, vfs_cong (w := V.1) (w' := V'.1) (V.1 2052).toInt.toNat 0 (fun x h1 h2 => h.1.r (Or.inr (Or.inr (Or.inl (by omega)))))]
  by_cases c : V.1 (3989 + 0) = -1
  · rw [if_pos c, if_pos c]
    cases vfs V.1 (V.1 2052).toInt.toNat 0 with
    | none => exact Or.inl ⟨rfl, rfl⟩
    | some k => exact Or.inr ⟨_, _, rfl, rfl, (h.vss (i := 3923 + k) (v := nI 0) (v' := nI 0) (by unfold aw; omega) (fun _ => rfl)).vss (i := 3989 + 0) (v := nI k) (v' := nI k) (by unfold aw; omega) (fun _ => rfl), rfl, rfl⟩
  · rw [if_neg c, if_neg c]
    exact Or.inr ⟨_, _, rfl, rfl, h, rfl, rfl⟩
end
end
section
/-! ===== alone: the same run ===== -/
abbrev EqP : List vP → List vP → Prop := fun a b => b = a
abbrev EqI : Int32 → Int32 → Prop := fun a b => b = a
abbrev AE (V V' : vV) : Prop := AQ EqP EqI V V'
/-- what a step may take for granted -/
def HB (V : vV) : Prop := 0 < V.2.2.1 0 ∧ (∀ k, k < vsz V.1 (vlf V 0).1 → bt (V.1 (2238 + (vlf V 0).1)) k → ∀ q, (vlf V 0).2.2.2.2.2 k = some q → q.1 < V.2.2.1 0) ∧ (2 ≤ V.2.2.1 0 → (vlf V 0).2.2.2.1 % 1024 / 32 < 10 ∧ (vlf V 0).2.2.2.1 % 32 - 1 < 16) ∧ (V.1 2052).toInt.toNat ≤ 3
section
variable {V V' V1 V1' : vV} {lim i k n f bk need words B : Nat} {v v' : Int32} {F : vF} {Q : List vP → List vP → Prop} {R : Int32 → Int32 → Prop}
theorem AQ.psE (h : AQ Q R V V') {ps : List vP} : AQ EqP R (vps V ps) (vps V' ps) := ⟨⟨h.1.1, h.1.2.1, h.1.2.2.1, h.1.2.2.2.1, fun _ => rfl⟩, rfl, h.2.2⟩
theorem AQ.ga (h : AQ Q R V V') (e : V'.2.1.filter (fun q => decide (q.2.2.1 ≠ 0)) = V.2.1.filter (fun q => decide (q.2.2.1 ≠ 0))) : AQ EqP R (vga V 0) (vga V' 0) := by
  have e89 := h.1.own (c := 3989) (by omega)
  have h1 : AQ EqP R (vps V (V.2.1.filter (fun q => decide (q.2.2.1 ≠ 0)))) (vps V' (V.2.1.filter (fun q => decide (q.2.2.1 ≠ 0)))) := h.psE
  unfold vga
  dsimp only
  rw [e89, e]
  generalize V.2.1.filter (fun q => decide (q.2.2.1 ≠ 0)) = ps at *
  have h2 : AQ EqP R (if V.1 (3989 + 0) = -1 then vps V ps else vs (vps V ps) (3923 + (V.1 (3989 + 0)).toInt.toNat) (-1)) (if V.1 (3989 + 0) = -1 then vps V' ps else vs (vps V' ps) (3923 + (V.1 (3989 + 0)).toInt.toNat) (-1)) := by
    by_cases c : V.1 (3989 + 0) = -1
    · rw [if_pos c, if_pos c]; exact h1
    · rw [if_neg c, if_neg c]; exact h1.vss (by unfold aw; omega) (fun _ => rfl)
  exact (((((h2.vss (by unfold aw; omega) (fun _ => rfl)).vss (by unfold aw; omega) (fun _ => rfl)).vss (by unfold aw; omega) (fun _ => rfl)).vss (by unfold aw; omega) (fun _ => rfl)).nfl (Nat.zero_le _)).vss (by unfold aw; omega) (fun _ => rfl) |>.vss (by unfold aw; omega) (fun _ => rfl)
theorem AQ.out (h : AQ Q R V V') (e : V'.2.1.filter (fun q => decide (q.2.2.1 ≠ 0)) = V.2.1.filter (fun q => decide (q.2.2.1 ≠ 0))) : AQ EqP R (vot V 0) (vot V' 0) := by
  unfold vot
  exact (((h.ga e).vss (by unfold aw; omega) (fun _ => rfl)).vc (by omega)).lg
theorem AE.e (h : AE V V') : V'.2.1 = V.2.1 := h.2.1
theorem AE.fl (h : AE V V') : V'.2.1.filter (fun q => decide (q.2.2.1 ≠ 0)) = V.2.1.filter (fun q => decide (q.2.2.1 ≠ 0)) := by rw [h.e]
theorem AE.z (h : AE V V') : V'.1 2048 = V.1 2048 := h.2.2
theorem AE.sp (h : AE V V') : AE (vsp V 0) (vsp V' 0) := by
  unfold vsp
  rw [h.e]
  split
  · exact h.lg.psE
  · exact h
theorem AE.mv {g : Nat} (h : AE V V') : AE (vmv V 0 g words) (vmv V' 0 g words) := by
  have e82 := h.1.own (c := 3982) (by omega)
  have hx : (if V'.2.2.1 0 = 0 then V'.1 (3982 + 0) else nI (g + (V'.2.2.2 0 (V'.2.2.1 0 - 1)).2.2.1)) = (if V.2.2.1 0 = 0 then V.1 (3982 + 0) else nI (g + (V.2.2.2 0 (V.2.2.1 0 - 1)).2.2.1)) := by
    rw [h.1.nn, e82]
    by_cases c : V.2.2.1 0 = 0
    · rw [if_pos c, if_pos c]
    · rw [if_neg c, if_neg c, h.1.ff (by omega)]
  unfold vmv
  dsimp only
  rw [hx, h.e]
  generalize (if V.2.2.1 0 = 0 then V.1 (3982 + 0) else nI (g + (V.2.2.2 0 (V.2.2.1 0 - 1)).2.2.1)) = X at *
  have h1 : AE (vps (vs V (3982 + 0) X) (vins (g, words, 0, 0) (V.2.1.filter (fun q => !vkey 0 0 q)))) (vps (vs V' (3982 + 0) X) (vins (g, words, 0, 0) (V.2.1.filter (fun q => !vkey 0 0 q)))) := (h.vss (i := 3982 + 0) (v := X) (v' := X) (by unfold aw; omega) (fun _ => rfl)).psE
  rw [h1.1.own (c := 4017) (by omega), h1.1.own (c := 3961) (by omega)]
  exact (h1.vss (by unfold aw; omega) (fun _ => rfl)).vc (by omega)
theorem AE.spl (h : AE V V') : (vspl lim V' 0 need).1 = (vspl lim V 0 need).1 ∧ AE (vspl lim V 0 need).2 (vspl lim V' 0 need).2 := by
  unfold vspl
  dsimp only
  rw [h.z, h.e, h.1.np]
  cases vgap lim 0 V.2.1 (max need (V.1 2048).toInt.toNat) with
  | none => exact ⟨rfl, h⟩
  | some a => exact ⟨rfl, ((((h.psE).inc (by unfold aw; omega)).vc (by omega)).lg).inc (by unfold aw; omega)⟩
theorem AE.gr (h : AE V V') : (vgr lim V' 0 need).1 = (vgr lim V 0 need).1 ∧ AE (vgr lim V 0 need).2 (vgr lim V' 0 need).2 := by
  unfold vgr
  rw [h.1.own (c := 3933) (by omega), h.1.use, h.e, h.1.np]
  by_cases c : V.1 (3933 + 0) = 0
  · rw [if_pos c, if_pos c]
    dsimp only
    cases vgap lim 0 V.2.1 (vdbl (vuse V 0 + need) 16 (2 * vln V.2.1 0 0)) with
    | none => exact ⟨rfl, h⟩
    | some g => exact ⟨rfl, ((h.mv.inc (by unfold aw; omega)).vc (by omega)).lg⟩
  · rw [if_neg c, if_neg c]
    cases V.2.1.find? (vkey 0 1000) with
    | none => exact h.spl
    | some q =>
      dsimp only
      by_cases c2 : need ≤ q.2.1
      · rw [if_pos c2, if_pos c2]
        exact ⟨rfl, ((((h.psE).inc (by unfold aw; omega)).vc (by omega)).lg).inc (by unfold aw; omega)⟩
      · rw [if_neg c2, if_neg c2]
        exact h.sp.spl
theorem AE.rm (h : AE V V') (hf : f < 10) : (vrm lim V' 0 f).1 = (vrm lim V 0 f).1 ∧ AE (vrm lim V 0 f).2 (vrm lim V' 0 f).2 := by
  have hend : vend V' 0 = vend V 0 := by
    unfold vend
    rw [h.1.np, h.e]
  have h1 : AE (vcn (vinc V (4003 + 0)) 3 1) (vcn (vinc V' (4003 + 0)) 3 1) := (h.inc (by unfold aw; omega)).vc (by omega)
  unfold vrm
  dsimp only
  rw [h.1.top, (h.1.mg hf).2, hend]
  by_cases c : vtop V 0 + vnd V.1 f ≤ vend V 0
  · rw [if_pos c, if_pos c]
    exact ⟨rfl, h1⟩
  · rw [if_neg c, if_neg c]
    obtain ⟨g1, g2⟩ := h1.gr (lim := lim) (need := vnd V.1 f)
    cases e1 : vgr lim (vcn (vinc V (4003 + 0)) 3 1) 0 (vnd V.1 f) with
    | mk b V2 =>
      cases e2 : vgr lim (vcn (vinc V' (4003 + 0)) 3 1) 0 (vnd V.1 f) with
      | mk b' V2' =>
        rw [e1, e2] at g1 g2
        have g1 : b' = b := g1
        have g2 : AE V2 V2' := g2
        subst g1
        cases b' with
        | false => exact ⟨rfl, AQ.out g2 g2.fl⟩
        | true => exact ⟨rfl, g2⟩
theorem AE.cl (h : AE V V') (hf : f < 10) {h2 : Int32 × Option (Nat × Nat)} : AE (vcl lim V 0 f bk h2) (vcl lim V' 0 f bk h2) := by
  obtain ⟨g1, g2⟩ := h.rm (lim := lim) hf
  unfold vcl
  rw [h.1.lc, (h.1.mg hf).1]
  by_cases c : vlc V 0 = true
  · rw [if_pos c, if_pos c]
    exact (h.vc (k := 11) (by omega)).pu hf
  · rw [if_neg c, if_neg c]
    cases e1 : vrm lim V 0 f with
    | mk b V2 =>
      cases e2 : vrm lim V' 0 f with
      | mk b' V2' =>
        rw [e1, e2] at g1 g2
        have g1 : b' = b := g1
        have g2 : AE V2 V2' := g2
        subst g1
        cases b' with
        | false => exact g2
        | true => exact g2.pu hf
theorem AE.lv (h : AE V V') : AE (vlv V 0 F) (vlv V' 0 F) ∧ (vlv V 0 F).2.2 = V.2.2 := by
  have h1 : AE (vs V (4066 + 0) (V.1 (4066 + 0) - 1)) (vs V' (4066 + 0) (V.1 (4066 + 0) - 1)) := h.vss (by unfold aw; omega) (fun _ => rfl)
  unfold vlv
  dsimp only
  rw [h.1.own (c := 4066) (by omega), h.1.r (i := 2049) (Or.inl (by omega)), h.e]
  by_cases c : F.2.2.1 ≠ 0 ∨ F.2.1 = 0
  · rw [if_pos c, if_pos c]
    exact ⟨h, rfl⟩
  · rw [if_neg c, if_neg c]
    by_cases c2 : V.1 2049 = 0
    · rw [if_pos c2, if_pos c2]
      exact ⟨h1.lg.psE, rfl⟩
    · rw [if_neg c2, if_neg c2]
      generalize hU : vs V (4066 + 0) (V.1 (4066 + 0) - 1) = U at *
      generalize vs V' (4066 + 0) (V.1 (4066 + 0) - 1) = U' at *
      have h2 := h1.sp
      rw [h2.e]
      refine ⟨h2.psE.lg, ?_⟩
      show (vsp U 0).2.2 = V.2.2
      rw [vsp_22, ← hU]
      rfl
theorem AQ.dn (h : AQ Q R V V') (e : V'.2.1.filter (fun q => decide (q.2.2.1 ≠ 0)) = V.2.1.filter (fun q => decide (q.2.2.1 ≠ 0))) : AQ EqP R (vdn vZ V 0 v) (vdn vZ V' 0 v) := by
  have h1 : AQ Q R (vs (vs V (3926 + 0) 3) (3940 + 0) v) (vs (vs V' (3926 + 0) 3) (3940 + 0) v) := (h.vss (i := 3926 + 0) (v := 3) (v' := 3) (by unfold aw; omega) (fun _ => rfl)).vss (i := 3940 + 0) (v := v) (v' := v) (by unfold aw; omega) (fun _ => rfl)
  have h2 := ((h1.ga e).vc (k := 0) (v := 1) (v' := 1) (by omega)).lg
  unfold vdn
  dsimp only
  rw [vZ_pe h.1.pe, h.1.own (c := 4052) (by omega), h.1.own (c := 4059) (by omega)]
  split
  · exact h2.inc (by unfold aw; omega)
  · exact h2
/-- behind the last frame's words have gone -/
theorem AQ.gn (h : AQ Q R V V') (hn : 0 < V.2.2.1 0) : AQ Q R (vnf (vs (vs V (3961 + 0) (V.1 (3961 + 0) - (V.1 (2228 + (V.2.2.2 0 (V.2.2.1 0 - 1)).1) + 2))) (3954 + 0) (V.1 (3954 + 0) - 1)) 0 (V.2.2.1 0 - 1)) (vnf (vs (vs V' (3961 + 0) (V'.1 (3961 + 0) - (V'.1 (2228 + (V'.2.2.2 0 (V'.2.2.1 0 - 1)).1) + 2))) (3954 + 0) (V'.1 (3954 + 0) - 1)) 0 (V'.2.2.1 0 - 1)) := by
  have h10 := h.1.ten (i := V.2.2.1 0 - 1) (by omega)
  rw [h.1.nn, h.1.ff (i := V.2.2.1 0 - 1) (by omega), h.1.own (c := 3961) (by omega), h.1.own (c := 3954) (by omega), h.1.r (i := 2228 + (V.2.2.2 0 (V.2.2.1 0 - 1)).1) (Or.inr (Or.inl (by omega)))]
  exact ((h.vss (i := 3961 + 0) (by unfold aw; omega) (fun _ => rfl)).vss (i := 3954 + 0) (by unfold aw; omega) (fun _ => rfl)).nfl (show V.2.2.1 0 - 1 ≤ V.2.2.1 0 by omega)
/-- the frame below goes on -/
theorem AQ.bk1 (h : AQ Q R V1 V1') (hp : vpe V.1 V'.1) (hn : n < V1.2.2.1 0) (hF : F.2.2.2.1 % 1024 / 32 < 10 ∧ F.2.2.2.1 % 32 - 1 < 16) :
    AQ Q R (if 2048 ≤ F.2.2.2.1 then vfv (vnu (vs (vs (vs V1 (3982 + 0) (nI (vpl V1 0 n))) (3975 + 0) (nI (F.2.2.2.1 % 1024 / 32))) (3968 + 0) (nI (F.2.2.2.1 % 32))) 0 n (V.1 (vco (F.2.2.2.1 % 1024 / 32) (F.2.2.2.1 % 32 - 1) + 3)).toInt.toNat v) 0 (V.1 (vco (F.2.2.2.1 % 1024 / 32) (F.2.2.2.1 % 32 - 1) + 1)) else vnu (vs (vs (vs V1 (3982 + 0) (nI (vpl V1 0 n))) (3975 + 0) (nI (F.2.2.2.1 % 1024 / 32))) (3968 + 0) (nI (F.2.2.2.1 % 32))) 0 n (V.1 (vco (F.2.2.2.1 % 1024 / 32) (F.2.2.2.1 % 32 - 1) + 3)).toInt.toNat v)
      (if 2048 ≤ F.2.2.2.1 then vfv (vnu (vs (vs (vs V1' (3982 + 0) (nI (vpl V1' 0 n))) (3975 + 0) (nI (F.2.2.2.1 % 1024 / 32))) (3968 + 0) (nI (F.2.2.2.1 % 32))) 0 n (V'.1 (vco (F.2.2.2.1 % 1024 / 32) (F.2.2.2.1 % 32 - 1) + 3)).toInt.toNat v) 0 (V'.1 (vco (F.2.2.2.1 % 1024 / 32) (F.2.2.2.1 % 32 - 1) + 1)) else vnu (vs (vs (vs V1' (3982 + 0) (nI (vpl V1' 0 n))) (3975 + 0) (nI (F.2.2.2.1 % 1024 / 32))) (3968 + 0) (nI (F.2.2.2.1 % 32))) 0 n (V'.1 (vco (F.2.2.2.1 % 1024 / 32) (F.2.2.2.1 % 32 - 1) + 3)).toInt.toNat v) := by
  rw [hp.co hF.1 hF.2 (j := 3) (by omega), hp.co hF.1 hF.2 (j := 1) (by omega), h.1.pl hn]
  have h3 := ((h.vss (i := 3982 + 0) (v := nI (vpl V1 0 n)) (v' := nI (vpl V1 0 n)) (by unfold aw; omega) (fun _ => rfl)).vss (i := 3975 + 0) (v := nI (F.2.2.2.1 % 1024 / 32)) (v' := nI (F.2.2.2.1 % 1024 / 32)) (by unfold aw; omega) (fun _ => rfl)).vss (i := 3968 + 0) (v := nI (F.2.2.2.1 % 32)) (v' := nI (F.2.2.2.1 % 32)) (by unfold aw; omega) (fun _ => rfl)
  have h4 := h3.nu (i := n) (k := (V.1 (vco (F.2.2.2.1 % 1024 / 32) (F.2.2.2.1 % 32 - 1) + 3)).toInt.toNat) (v := v) hn
  by_cases c : 2048 ≤ F.2.2.2.1
  · rw [if_pos c, if_pos c]
    exact h4.fv
  · rw [if_neg c, if_neg c]
    exact h4
theorem AE.rt (h : AE V V') (hH : HB V) : AE (vrt vZ V 0 v) (vrt vZ V' 0 v) := by
  obtain ⟨hn, -, hF, -⟩ := hH
  have h1 := AQ.gn h hn
  unfold vrt
  dsimp only
  have ef : V'.2.2.2 0 (V'.2.2.1 0 - 1) = V.2.2.2 0 (V.2.2.1 0 - 1) := by
    rw [h.1.nn]
    exact h.1.ff (by omega)
  have em := h.1.own (c := 3933) (by omega)
  generalize hU : vnf (vs (vs V (3961 + 0) (V.1 (3961 + 0) - (V.1 (2228 + (V.2.2.2 0 (V.2.2.1 0 - 1)).1) + 2))) (3954 + 0) (V.1 (3954 + 0) - 1)) 0 (V.2.2.1 0 - 1) = U at *
  generalize vnf (vs (vs V' (3961 + 0) (V'.1 (3961 + 0) - (V'.1 (2228 + (V'.2.2.2 0 (V'.2.2.1 0 - 1)).1) + 2))) (3954 + 0) (V'.1 (3954 + 0) - 1)) 0 (V'.2.2.1 0 - 1) = U' at *
  rw [ef, h.1.nn, em]
  by_cases c : V.2.2.1 0 - 1 = 0
  · rw [if_pos c, if_pos c]
    exact AQ.dn h1 (AE.fl h1)
  · rw [if_neg c, if_neg c]
    have hF2 := hF (by omega)
    have hUn : U.2.2.1 0 = V.2.2.1 0 - 1 := by
      rw [← hU]
      show mj_upd V.2.2.1 0 (V.2.2.1 0 - 1) 0 = _
      exact mj_upd_self
    obtain ⟨l1, l2⟩ := AE.lv (F := V.2.2.2 0 (V.2.2.1 0 - 1)) h1
    have h2 : AE (if V.1 (3933 + 0) = 1 then vlv U 0 (V.2.2.2 0 (V.2.2.1 0 - 1)) else U) (if V.1 (3933 + 0) = 1 then vlv U' 0 (V.2.2.2 0 (V.2.2.1 0 - 1)) else U') ∧ (if V.1 (3933 + 0) = 1 then vlv U 0 (V.2.2.2 0 (V.2.2.1 0 - 1)) else U).2.2 = U.2.2 := by
      by_cases c2 : V.1 (3933 + 0) = 1
      · rw [if_pos c2, if_pos c2]; exact ⟨l1, l2⟩
      · rw [if_neg c2, if_neg c2]; exact ⟨h1, rfl⟩
    generalize (if V.1 (3933 + 0) = 1 then vlv U 0 (V.2.2.2 0 (V.2.2.1 0 - 1)) else U) = W at *
    generalize (if V.1 (3933 + 0) = 1 then vlv U' 0 (V.2.2.2 0 (V.2.2.1 0 - 1)) else U') = W' at *
    obtain ⟨h2, h3⟩ := h2
    exact AQ.bk1 h2 h.1.pe (by rw [h3, hUn]; omega) hF2
/-- words on a side -/
theorem AQ.hs {wd : Int32} (h : AQ Q R V V') (hz : (V.1 2052).toInt.toNat ≤ 3) (e : V'.2.1.filter (fun q => decide (q.2.2.1 ≠ 0)) = V.2.1.filter (fun q => decide (q.2.2.1 ≠ 0))) : (∃ X X', vhs V 0 wd = (false, X) ∧ vhs V' 0 wd = (false, X') ∧ ((AQ Q R X X' ∧ X.2 = V.2) ∨ (AQ EqP R X X' ∧ X.2.1 = V.2.1.filter (fun q => decide (q.2.2.1 ≠ 0))))) ∨ (∃ X X', vhs V 0 wd = (true, X) ∧ vhs V' 0 wd = (true, X') ∧ AQ Q R X X' ∧ X.2 = V.2) := by
  rcases h.sd hz with ⟨e1, e2⟩ | ⟨V1, V1', e1, e2, h1, e3, e4⟩
  · refine Or.inl ⟨_, _, vhs_0 e1, vhs_0 e2, Or.inl ⟨?_, rfl⟩⟩
    rw [h.1.own (c := 3968) (by omega)]
    exact ((h.vss (by unfold aw; omega) (fun _ => rfl)).vss (by unfold aw; omega) (fun _ => rfl)).vc (by omega)
  · have h2 : AQ Q R (vs V1 (3926 + 0) 1) (vs V1' (3926 + 0) 1) := h1.vss (by unfold aw; omega) (fun _ => rfl)
    have q96 := h2.1.own (c := 3996) (by omega)
    have q53 : (vs V1' (3926 + 0) 1).1 2053 = (vs V1 (3926 + 0) 1).1 2053 := h2.1.r (Or.inl (by omega))
    by_cases c : ((vs V1 (3926 + 0) 1).1 (3996 + 0) + wd).toInt ≤ ((vs V1 (3926 + 0) 1).1 2053).toInt
    · refine Or.inr ⟨_, _, vhs_1 e1 c, vhs_1 e2 (by rw [q96, q53]; exact c), ?_, e3⟩
      rw [q96]
      exact h2.vss (by unfold aw; omega) (fun _ => rfl)
    · refine Or.inl ⟨_, _, vhs_2 e1 c, vhs_2 e2 (by rw [q96, q53]; exact c), Or.inr ⟨AQ.out h2 ?_, ?_⟩⟩
      · show V1'.2.1.filter _ = V1.2.1.filter _
        rw [e4, e3]
        exact e
      · show (vga (vs V1 (3926 + 0) 1) 0).2.1 = _
        rw [vga_2]
        show V1.2.1.filter _ = _
        rw [e3]
theorem AE.fg {wd f slot : Int32} (h : AE V V') (hH : HB V) : AE (vfg lim V 0 wd f slot) (vfg lim V' 0 wd f slot) := by
  rcases AQ.hs (wd := wd) h hH.2.2.2 h.fl with ⟨X, X', e1, e2, e3⟩ | ⟨X, X', e1, e2, e3, e4⟩
  · unfold vfg
    rw [e1, e2]
    rcases e3 with e3 | e3
    · exact e3.1
    · exact e3.1
  · have hn : 0 < X.2.2.1 0 := by rw [e4]; exact hH.1
    unfold vfg
    rw [e1, e2]
    dsimp only
    rw [e3.1.lf hn, e3.1.own (c := 3968) (by omega), e3.1.nn]
    by_cases c : tld X.1 f
    · have hf : f.toInt.toNat < 10 := by have := c.1; omega
      rw [if_pos c, if_pos (e3.1.pe.tl.mpr c), e3.1.ha hf (e3.1.lf10 hn)]
      exact AE.cl e3 hf
    · rw [if_neg c, if_neg (fun q => c (e3.1.pe.tl.mp q))]
      exact (AQ.nu e3 (show X.2.2.1 0 - 1 < X.2.2.1 0 by omega)).fv
theorem AE.qu (h : AE V V') : AE (vqu lim V 0).2 (vqu lim V' 0).2 := by
  unfold vqu
  rw [h.1.own (c := 3933) (by omega), h.e, h.1.kp, h.z]
  by_cases c : V.1 (3933 + 0) = 1
  · rw [if_pos c, if_pos c]
    exact h.sp
  · rw [if_neg c, if_neg c]
    by_cases c2 : vln V.2.1 0 0 < 4 * vkp V 0 ∨ vln V.2.1 0 0 / 2 < (V.1 2048).toInt.toNat
    · rw [if_pos c2, if_pos c2]
      exact h
    · rw [if_neg c2, if_neg c2]
      cases vgap lim 0 V.2.1 (vln V.2.1 0 0 / 2) with
      | none => exact h
      | some g => exact ((h.mv.inc (by unfold aw; omega)).vc (by omega)).lg
/-- a pointer of the last frame -/
theorem HB.ptr {x : Int32} (hH : HB V) (hp : Ipr V.1) (h10 : (vlf V 0).1 < 10) (hx : vptr V.1 (vlf V 0).1 x) {q : Nat × Nat} (e : (vlf V 0).2.2.2.2.2 x.toInt.toNat = some q) : q.1 < V.2.2.1 0 := by
  obtain ⟨k, k1, k2, k3⟩ := hx
  have := (hp.sz h10).2
  rw [k1, nI_int (by omega), Int.toNat_natCast] at e
  exact hH.2.1 k k2 k3 q e
theorem AE.ln {l : Nat} {kind a b c : Int32} (h : AE V V') (hH : HB V) (hc : vcan V.1 (vlf V 0).1 kind a b c) : AE (vln1 lim vZ V 0 l kind a b c) (vln1 lim vZ V' 0 l kind a b c) := by
  have hn := hH.1
  have hl := h.1.lf hn
  have h10 := h.1.lf10 hn
  unfold vln1
  dsimp only
  rw [hl, h.1.nn]
  by_cases c0 : kind = 0
  · rw [if_pos c0, if_pos c0]; exact h.nu (by omega)
  rw [if_neg c0, if_neg c0]
  by_cases c1 : kind = 1
  · rw [if_pos c1, if_pos c1]; exact h.nu (by omega)
  rw [if_neg c1, if_neg c1]
  by_cases c2 : kind = 2
  · rw [if_pos c2, if_pos c2]; exact h.nu (by omega)
  rw [if_neg c2, if_neg c2]
  by_cases c3 : kind = 3
  · rw [if_pos c3, if_pos c3]; exact h.po (by omega)
  rw [if_neg c3, if_neg c3]
  by_cases c4 : kind = 4
  · rw [if_pos c4, if_pos c4]
    cases e : (vlf V 0).2.2.2.2.2 b.toInt.toNat with
    | none => exact h.nu (by omega)
    | some q =>
      have hq := hH.ptr h.1.1 h10 (hc.2.2.2.2.1 c4).2 e
      dsimp only
      rw [h.1.ff hq]
      exact h.nu (by omega)
  rw [if_neg c4, if_neg c4]
  by_cases c5 : kind = 5
  · rw [if_pos c5, if_pos c5]
    cases e : (vlf V 0).2.2.2.2.2 a.toInt.toNat with
    | none => exact h
    | some q => exact h.nu (hH.ptr h.1.1 h10 (hc.2.2.2.2.2.1 c5).1 e)
  rw [if_neg c5, if_neg c5]
  by_cases c6 : kind = 6
  · rw [if_pos c6, if_pos c6]
    by_cases ct : tld V.1 a
    · have hf : a.toInt.toNat < 10 := by have := ct.1; omega
      rw [if_pos ct, if_pos (h.1.pe.tl.mpr ct), h.1.ha hf h10]
      exact h.cl hf
    · rw [if_neg ct, if_neg (fun q => ct (h.1.pe.tl.mp q))]
      exact h.nu (by omega)
  rw [if_neg c6, if_neg c6]
  by_cases c7 : kind = 7
  · rw [if_pos c7, if_pos c7]
    by_cases ct : (vnm (vlf V 0) a).toInt ≤ 0
    · rw [if_pos ct, if_pos ct]; exact h
    · rw [if_neg ct, if_neg ct]; exact h.vss (by unfold aw; omega) (fun _ => rfl)
  rw [if_neg c7, if_neg c7]
  by_cases c8 : kind = 8
  · rw [if_pos c8, if_pos c8]; exact h.rt hH
  rw [if_neg c8, if_neg c8]
  by_cases c9 : kind = 9
  · rw [if_pos c9, if_pos c9]; exact h.fg hH
  rw [if_neg c9, if_neg c9]
  exact h.qu
theorem HB.of (hI : VI lim B V) (hb : vbz V.1 0) (hlm : lim ≤ 10000) : HB V ∧ (vlf V 0).1 < 10 := by
  obtain ⟨np, z, z2, z3, k, l, -, h0, -, -, ⟨s1, s2, s3⟩, -⟩ := hI.opn (t := 0) (by omega) hb hlm
  obtain ⟨np', -, -, hf⟩ := hI.J.geo (t := 0) (by omega) h0
  have h10 := (hf.1 (V.2.2.1 0 - 1) (by omega)).1
  refine ⟨⟨h0, fun k hk hbt q hq => ?_, fun h2 => ?_, ?_⟩, h10⟩
  · have := (hf.2.2.2.2.2 (V.2.2.1 0 - 1) (by omega) k hk hbt q hq).1
    omega
  · have hbk := hf.2.2.1 (V.2.2.1 0 - 2) (by omega)
    rw [show V.2.2.1 0 - 2 + 1 = V.2.2.1 0 - 1 by omega] at hbk
    have hg := (hf.1 (V.2.2.1 0 - 2) (by omega)).1
    obtain ⟨-, b2, -, b4, -⟩ := hbk
    have hl := (hI.2.1.li hg).2
    show (V.2.2.2 0 (V.2.2.1 0 - 1)).2.2.2.1 % 1024 / 32 < 10 ∧ (V.2.2.2 0 (V.2.2.1 0 - 1)).2.2.2.1 % 32 - 1 < 16
    omega
  · rw [s1, nI_int (by omega), Int.toNat_natCast]
    exact s3
theorem HB.same (h : HB V) (h10 : (vlf V 0).1 < 10) (e : V1.2 = V.2) (hp : vpe V.1 V1.1) (e52 : V1.1 2052 = V.1 2052) : HB V1 := by
  have el : vlf V1 0 = vlf V 0 := by unfold vlf; rw [e]
  obtain ⟨h1, h2, h3, h4⟩ := h
  unfold HB
  rw [el, e, e52, (hp.sz h10).1, (hp.sz h10).2.2.2]
  exact ⟨h1, h2, h3, h4⟩
theorem AE.st (h : AE V V') (hI : VI lim B V) (hb : vbz V.1 0) (hlm : lim ≤ 10000) : AE (vst lim vZ V 0) (vst lim vZ V' 0) := by
  obtain ⟨hH, h10⟩ := HB.of hI hb hlm
  have hn := hH.1
  have h1 : AE (vcn (vinc V (3947 + 0)) 2 1) (vcn (vinc V' (3947 + 0)) 2 1) := (h.inc (i := 3947 + 0) (by unfold aw; omega)).vc (by omega)
  have hp1 : vpe V.1 (vcn (vinc V (3947 + 0)) 2 1).1 := (vpe.upd (by omega)).trans (vpe.upd (by omega))
  have e52 : (vcn (vinc V (3947 + 0)) 2 1).1 2052 = V.1 2052 := (vcn_ne (by omega)).trans (vinc_ne (by omega))
  have e2 : (vcn (vinc V (3947 + 0)) 2 1).2 = V.2 := rfl
  unfold vst
  dsimp only
  rw [h.1.lf hn, h.1.own (c := 3968) (by omega), (h.1.pe.sz h10).2.2.1]
  generalize vcn (vinc V (3947 + 0)) 2 1 = U at *
  generalize vcn (vinc V' (3947 + 0)) 2 1 = U' at *
  by_cases c : (V.1 (3968 + 0)).toInt.toNat < vli V.1 (vlf V 0).1
  · have hl16 := (hI.2.1.li h10).2
    have hlin := (hI.2.1 _ h10).2.2 _ c
    rw [if_pos c, if_pos c, h.1.pe.co0 h10 (by omega), h.1.pe.co h10 (by omega) (j := 1) (by omega), h.1.pe.co h10 (by omega) (j := 2) (by omega), h.1.pe.co h10 (by omega) (j := 3) (by omega), h1.1.own (c := 3968) (by omega)]
    have h3 : AE (vs U (3968 + 0) (U.1 (3968 + 0) + 1)) (vs U' (3968 + 0) (U.1 (3968 + 0) + 1)) := h1.vss (by unfold aw; omega) (fun _ => rfl)
    have hp3 : vpe V.1 (vs U (3968 + 0) (U.1 (3968 + 0) + 1)).1 := hp1.trans (vpe.upd (by omega))
    have e3 : (vs U (3968 + 0) (U.1 (3968 + 0) + 1)).2 = V.2 := e2
    have e352 : (vs U (3968 + 0) (U.1 (3968 + 0) + 1)).1 2052 = V.1 2052 := (vs_ne (by omega)).trans e52
    generalize vs U (3968 + 0) (U.1 (3968 + 0) + 1) = W at *
    have el : vlf W 0 = vlf V 0 := by unfold vlf; rw [e3]
    refine AE.ln h3 (hH.same h10 e3 hp3 e352) ?_
    rw [el]
    exact vcan_eq (hp3 _ (Or.inl (by omega))) (hp3 _ (Or.inl (by omega))) hlin
  · rw [if_neg c, if_neg c]
    exact h1.rt (hH.same h10 e2 hp1 e52)
theorem A0.by (h : A0 V V') : vby V' 0 = vby V 0 := by
  unfold vby
  rw [h.own (c := 3926) (by omega)]
theorem AE.rl (hlm : lim ≤ 10000) : ∀ (n B : Nat) (V V' : vV), AE V V' → VI lim B V → AE (vrl lim vZ 0 n V) (vrl lim vZ 0 n V') := by
  intro n
  induction n with
  | zero => intro B V V' h _; exact h
  | succ n ih =>
    intro B V V' h hI
    unfold vrl
    rw [h.1.by]
    by_cases c : vby V 0 = true
    · rw [if_pos c, if_pos c]
      have hb := vby_iff.mp c
      exact ih (B + 4) _ _ (h.st hI hb hlm) (vi_st hI (by omega) hb hlm)
    · rw [if_neg c, if_neg c]
      exact h
theorem AE.rx (hlm : lim ≤ 10000) : ∀ (n B m : Nat) (V V' : vV), AE V V' → VI lim B V → vrx lim vZ 0 n V' m = vrx lim vZ 0 n V m := by
  intro n
  induction n with
  | zero => intro B m V V' h _; rfl
  | succ n ih =>
    intro B m V V' h hI
    unfold vrx
    rw [h.1.by]
    by_cases c : vby V 0 = true
    · have hb := vby_iff.mp c
      have h1 := h.st hI hb hlm
      rw [if_pos c, if_pos c, AE.e h1]
      exact ih (B + 4) _ _ _ h1 (vi_st hI (by omega) hb hlm)
    · rw [if_neg c, if_neg c]
/-- where both begin -/
def AS (V V' : vV) : Prop := Ipr V.1 ∧ (∀ i, (2048 ≤ i ∧ i ≤ 2053) ∨ (2228 ≤ i ∧ i < 2898) ∨ (3923 ≤ i ∧ i < 3926) → V'.1 i = V.1 i) ∧ V.2.2.1 0 = 0 ∧ V'.2.2.1 0 = 0 ∧ V'.2.1 = V.2.1
theorem AS.cr (h : AS V V') {ps : List vP} : AE (vps (vcr V 0) ps) (vps (vcr V' 0) ps) := by
  obtain ⟨h1, h2, h3, h4, h5⟩ := h
  refine ⟨⟨h1.ww (fun i hi => vcr_ne (by omega) (by omega)), fun i hi => ?_, ?_, fun i hi => ?_, fun _ => rfl⟩, rfl, ?_⟩
  · show (vcr V' 0).1 i = (vcr V 0).1 i
    by_cases c : i < 3926
    · rw [vcr_ne (by omega) (Or.inl c), vcr_ne (by omega) (Or.inl c)]
      exact h2 i (by unfold ak at hi; omega)
    · have hi2 : 3926 ≤ i ∧ i ≤ 4066 ∧ (i - 3926) % 7 = 0 := by unfold ak at hi; omega
      by_cases c2 : i = 3975 ∨ i = 3989
      · rcases c2 with rfl | rfl
        · exact (vcr_f (V := V') (t := 0)).1.trans (vcr_f (V := V) (t := 0)).1.symm
        · exact (vcr_f (V := V') (t := 0)).2.trans (vcr_f (V := V) (t := 0)).2.symm
      · exact (vcr_0 (V := V') (t := 0) (c := i) (by omega) hi2 (by omega)).trans (vcr_0 (V := V) (t := 0) (c := i) (by omega) hi2 (by omega)).symm
  · show V'.2.2.1 0 = V.2.2.1 0
    rw [h3, h4]
  · have hi : i < V.2.2.1 0 := hi
    omega
  · show (vcr V' 0).1 2048 = (vcr V 0).1 2048
    rw [vcr_ne (by omega) (by omega), vcr_ne (by omega) (by omega)]
    exact h2 2048 (by omega)
theorem AS.bg (h : AS V V') (hf : f < 10) {a mode : Int32} (hg : (vgap lim 0 V.2.1 (V.1 2048).toInt.toNat).isSome) : (vbg lim V' 0 f a mode).1 = (vbg lim V 0 f a mode).1 ∧ AE (vbg lim V 0 f a mode).2 (vbg lim V' 0 f a mode).2 := by
  have e48 : V'.1 2048 = V.1 2048 := h.2.1 2048 (by omega)
  have e38 : V'.1 (2238 + f) = V.1 (2238 + f) := h.2.1 _ (by omega)
  have e1 : V'.2.1 = V.2.1 := h.2.2.2.2
  unfold vbg
  rw [e48, e1, e38]
  cases hgap : vgap lim 0 V.2.1 (V.1 2048).toInt.toNat with
  | none => rw [hgap] at hg; cases hg
  | some g =>
    refine ⟨rfl, ?_⟩
    have h5 : AE (vb5 V 0 g (V.1 2048).toInt.toNat (nI f) a mode) (vb5 V' 0 g (V.1 2048).toInt.toNat (nI f) a mode) := by
      unfold vb5
      rw [e1]
      exact (((((h.cr).vss (by unfold aw; omega) (fun _ => rfl)).vss (by unfold aw; omega) (fun _ => rfl)).vss (by unfold aw; omega) (fun _ => rfl)).vss (by unfold aw; omega) (fun _ => rfl)).vss (by unfold aw; omega) (fun _ => rfl)
    exact h5.cl hf
end
end
