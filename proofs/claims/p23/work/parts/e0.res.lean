section
/-! ===== the count of other results changes with DONE alone (made out of c0.keep) ===== -/
def K6 (t : Nat) (V V' : vV) : Prop := (V'.1 2066 = V.1 2066 ∧ (V.1 (3926 + t) ≠ 3 → V'.1 (3926 + t) ≠ 3)) ∧ Sd t V'
section
variable {t lim : Nat} {V V1 V2 : vV}
theorem K6.refl (h : Sd t V) : K6 t V V := ⟨⟨rfl, fun q => q⟩, h⟩
theorem K6.trans (h : K6 t V V1) (h' : K6 t V1 V2) : K6 t V V2 := ⟨⟨h'.1.1.trans h.1.1, fun q => h'.1.2 (h.1.2 q)⟩, h'.2⟩
theorem k6_vs {i : Nat} {v : Int32} (h : Sd t V) (hi : i ≠ 2066 ∧ i ≠ 3926 + t ∧ i ≠ 3989 + t) : K6 t V (vs V i v) := ⟨⟨vs_ne (by omega), fun q => by rw [vs_ne (by omega)]; exact q⟩, by unfold Sd; rw [vs_ne (by omega)]; exact h⟩
theorem k6_sta {v : Int32} (h : Sd t V) (hv : v ≠ 3) : K6 t V (vs V (3926 + t) v) := ⟨⟨vs_ne (by omega), fun _ => by rw [vs_at]; exact hv⟩, by unfold Sd; rw [vs_ne (by omega)]; exact h⟩
theorem k6_m1 : K6 t V (vs V (3989 + t) (-1)) := ⟨⟨vs_ne (by omega), fun q => by rw [vs_ne (by omega)]; exact q⟩, Or.inl vs_at⟩
theorem k6_same (h : Sd t V) (e : V1.1 = V.1) : K6 t V V1 := ⟨⟨by rw [e], fun q => by rw [e]; exact q⟩, by unfold Sd; rw [e]; exact h⟩
theorem K6.s {i : Nat} {v : Int32} (h : K6 t V V1) (hi : i ≠ 2066 ∧ i ≠ 3926 + t ∧ i ≠ 3989 + t) : K6 t V (vs V1 i v) := h.trans (k6_vs h.2 hi)
theorem K6.p {ps : List vP} (h : K6 t V V1) : K6 t V (vps V1 ps) := h.trans (k6_same h.2 rfl)
theorem K6.n {n : Nat} (h : K6 t V V1) : K6 t V (vnf V1 t n) := h.trans (k6_same h.2 rfl)
theorem K6.c {k : Nat} {v : Int32} (h : K6 t V V1) (hk : k < 12) : K6 t V (vcn V1 k v) := h.trans (k6_vs h.2 (by omega))
theorem K6.l (h : K6 t V V1) : K6 t V (vlg1 V1) := h.trans (k6_vs h.2 (by omega))
theorem K6.i {i : Nat} (h : K6 t V V1) (hi : i ≠ 2066 ∧ i ≠ 3926 + t ∧ i ≠ 3989 + t) : K6 t V (vinc V1 i) := h.trans (k6_vs h.2 hi)
theorem k6_ga (h : Sd t V) : K6 t V (vga V t) := by
  unfold vga
  dsimp only
  have h1 : K6 t V (if V.1 (3989 + t) = -1 then vps V (V.2.1.filter (fun q => decide (q.2.2.1 ≠ t))) else vs (vps V (V.2.1.filter (fun q => decide (q.2.2.1 ≠ t)))) (3923 + (V.1 (3989 + t)).toInt.toNat) (-1)) := by
    split
    · exact k6_same h rfl
    · rename_i c
      obtain ⟨k, k1, k2⟩ := h.resolve_left c
      rw [k2, nI_int (by omega), Int.toNat_natCast]
      exact (k6_same (V1 := vps V (V.2.1.filter (fun q => decide (q.2.2.1 ≠ t)))) h rfl).trans (k6_vs (V := vps V (V.2.1.filter (fun q => decide (q.2.2.1 ≠ t)))) h (by omega))
  exact K6.s (K6.s (K6.n (K6.s (K6.s (K6.s (h1.trans k6_m1) (by omega)) (by omega)) (by omega))) (by omega)) (by omega)
theorem k6_lg (h : Sd t V) : K6 t V (vlg1 V) := k6_vs h (by omega)
theorem k6_cn {k : Nat} {v : Int32} (h : Sd t V) (hk : k < 12) : K6 t V (vcn V k v) := k6_vs h (by omega)
theorem k6_inc {i : Nat} (h : Sd t V) (hi : i ≠ 2066 ∧ i ≠ 3926 + t ∧ i ≠ 3989 + t) : K6 t V (vinc V i) := k6_vs h hi
theorem k6_out (h : Sd t V) : K6 t V (vot V t) := by
  unfold vot
  have h1 := k6_ga h
  have h2 := h1.trans (k6_sta (v := 4) h1.2 (by decide))
  have h3 := h2.trans (k6_cn (k := 1) (v := 1) h2.2 (by omega))
  exact h3.trans (k6_lg h3.2)
theorem k6_sp (h : Sd t V) : K6 t V (vsp V t) := by
  unfold vsp
  split
  · have h1 := k6_lg h
    exact h1.trans (k6_same h1.2 rfl)
  · exact K6.refl h
theorem k6_mv {g words : Nat} (h : Sd t V) : K6 t V (vmv V t g words) := by
  unfold vmv
  dsimp only
  exact K6.c (K6.s (K6.p (K6.s (K6.refl h) (by omega))) (by omega)) (by omega)
theorem k6_spl {need : Nat} (h : Sd t V) : K6 t V (vspl lim V t need).2 := by
  unfold vspl
  dsimp only
  split
  · exact K6.refl h
  · exact K6.i (K6.l (K6.c (K6.i (K6.p (K6.refl h)) (by omega)) (by omega))) (by omega)
theorem k6_gr {need : Nat} (h : Sd t V) : K6 t V (vgr lim V t need).2 := by
  unfold vgr
  split
  · dsimp only
    split
    · exact K6.refl h
    · exact K6.l (K6.c (K6.i (k6_mv h) (by omega)) (by omega))
  · split
    · split
      · exact K6.i (K6.l (K6.c (K6.i (K6.p (K6.refl h)) (by omega)) (by omega))) (by omega)
      · exact (k6_sp h).trans (k6_spl (k6_sp h).2)
    · exact k6_spl h
theorem k6_rm {f : Nat} (h : Sd t V) : K6 t V (vrm lim V t f).2 := by
  have h1 := k6_inc (i := 4003 + t) h (by omega)
  have h2 := h1.trans (k6_cn (k := 3) (v := 1) h1.2 (by omega))
  have h3 := h2.trans (k6_gr (lim := lim) (need := vnd V.1 f) h2.2)
  unfold vrm
  dsimp only
  split
  · exact h2
  · split
    · rename_i V2 e
      rw [e] at h3
      exact h3
    · rename_i V2 e
      rw [e] at h3
      exact h3.trans (k6_out h3.2)
theorem k6_pu {f bk : Nat} {a : Int32} {q : Option (Nat × Nat)} (h : Sd t V) : K6 t V (vpu V t f bk a q) := by
  obtain ⟨w1, -⟩ := vpu_w (V := V) (t := t) (f := f) (bk := bk) (a := a) (q := q)
  exact ⟨⟨w1 _ (by omega) (by omega) (by omega) (by omega) (by omega) (by omega), fun q => by rw [w1 _ (by omega) (by omega) (by omega) (by omega) (by omega) (by omega)]; exact q⟩, by unfold Sd; rw [w1 _ (by omega) (by omega) (by omega) (by omega) (by omega) (by omega)]; exact h⟩
theorem k6_cl {f bk : Nat} {hh : Int32 × Option (Nat × Nat)} (h : Sd t V) : K6 t V (vcl lim V t f bk hh) := by
  have h3 := k6_rm (lim := lim) (f := f) h
  unfold vcl
  split
  · have h1 := k6_cn (k := 11) (v := 1) h (by omega)
    exact h1.trans (k6_pu h1.2)
  · split
    · rename_i V1 e
      rw [e] at h3
      exact h3.trans (k6_pu h3.2)
    · rename_i V1 e
      rw [e] at h3
      exact h3
theorem k6_fr {i : Nat} {F : vF} (h : Sd t V) : K6 t V (vfr V t i F) := k6_same h rfl
theorem k6_nu {i k : Nat} {v : Int32} (h : Sd t V) : K6 t V (vnu V t i k v) := k6_same h rfl
theorem k6_po {i k : Nat} {q : Option (Nat × Nat)} (h : Sd t V) : K6 t V (vpo V t i k q) := k6_same h rfl
theorem k6_fv {words : Int32} (h : Sd t V) (hn : V.1 (3989 + t) ≠ -1) : K6 t V (vfv V t words) := by
  obtain ⟨k, k1, k2⟩ := h.resolve_left hn
  have h1 := k6_cn (k := 9) (v := 1) h (by omega)
  have h2 := h1.trans (k6_vs (i := 3996 + t) (v := V.1 (3996 + t) - words) h1.2 (by omega))
  unfold vfv
  dsimp only
  split
  · exact h2
  · rw [k2, nI_int (by omega), Int.toNat_natCast]
    exact (h2.trans (k6_vs (i := 3923 + k) (v := -1) h2.2 (by omega))).trans k6_m1
theorem k6_lv {F : vF} (h : Sd t V) : K6 t V (vlv V t F) := by
  unfold vlv
  split
  · exact K6.refl h
  · have h1 := k6_vs (i := 4066 + t) (v := V.1 (4066 + t) - 1) h (by omega)
    dsimp only
    split
    · have h2 := h1.trans (k6_lg h1.2)
      exact h2.trans (k6_same h2.2 rfl)
    · have h2 := h1.trans (k6_sp h1.2)
      have h3 := h2.trans (k6_same (V1 := vps (vsp (vs V (4066 + t) (V.1 (4066 + t) - 1)) t) ((vsp (vs V (4066 + t) (V.1 (4066 + t) - 1)) t).2.1.map (fun p => if vkey t F.2.1 p then (p.1, p.2.1, p.2.2.1, 1000) else p))) h2.2 rfl)
      exact h3.trans (k6_lg h3.2)
/-- what the step that brings DONE does to it -/
def K3 (Z : (Nat → Int32) → Int32 → Int32 → Int32 → Bool) (t : Nat) (V V' : vV) : Prop := (V'.1 (3926 + t) ≠ 3 ∧ V'.1 2066 = V.1 2066) ∨ (V'.1 (3926 + t) = 3 ∧ ∃ w0, vpe V.1 w0 ∧ V'.1 2066 = V.1 2066 + if Z w0 (V.1 (4052 + t)) (V.1 (4059 + t)) (V'.1 (3940 + t)) = true then 1 else 0)
theorem K6.k3 {Z : (Nat → Int32) → Int32 → Int32 → Int32 → Bool} (h : K6 t V V1) (hn : V.1 (3926 + t) ≠ 3) : K3 Z t V V1 := Or.inl ⟨h.1.2 hn, h.1.1⟩
theorem K3.pre {Z : (Nat → Int32) → Int32 → Int32 → Int32 → Bool} (h : K3 Z t V1 V2) (h1 : V1.1 2066 = V.1 2066) (h2 : V1.1 (4052 + t) = V.1 (4052 + t)) (h3 : V1.1 (4059 + t) = V.1 (4059 + t)) (hw : vpe V.1 V1.1) : K3 Z t V V2 := by
  rcases h with ⟨a, b⟩ | ⟨a, w0, b, c⟩
  · exact Or.inl ⟨a, b.trans h1⟩
  · exact Or.inr ⟨a, w0, hw.trans b, by rw [c, h1, h2, h3]⟩
theorem sd_3 (h : Sd t V) : (V.1 (3989 + t)).toInt.toNat < 3 := by
  rcases h with e | ⟨k, k1, e⟩
  · rw [e]; decide
  · rw [e, nI_int (by omega)]; exact k1
theorem vga_kt {i : Nat} (hs : Sd t V) (hi : ¬ (3923 ≤ i ∧ i < 3926) ∧ i ≠ 3989 + t ∧ i ≠ 3996 + t ∧ i ≠ 4066 + t ∧ i ≠ 3954 + t ∧ i ≠ 3961 + t ∧ i ≠ 3975 + t) : (vga V t).1 i = V.1 i := by
  have h3 := sd_3 hs
  rw [vga_1, mj_upd_ne (by omega), mj_upd_ne (by omega), mj_upd_ne (by omega), mj_upd_ne (by omega), mj_upd_ne (by omega), mj_upd_ne (by omega)]
  by_cases c : V.1 (3989 + t) = -1
  · rw [if_pos c]
  · rw [if_neg c, mj_upd_ne (by omega)]
theorem k3_dn {Z : (Nat → Int32) → Int32 → Int32 → Int32 → Bool} {v : Int32} (h : Sd t V) : K3 Z t V (vdn Z V t v) := by
  have hX : Sd t (vs (vs V (3926 + t) 3) (3940 + t) v) := by unfold Sd; rw [vs_ne (by omega), vs_ne (by omega)]; exact h
  have e26 : (vlg1 (vcn (vga (vs (vs V (3926 + t) 3) (3940 + t) v) t) 0 1)).1 (3926 + t) = 3 := by
    rw [vlg1_ne (by omega), vcn_ne (by omega), vga_kt hX (by omega), vs_ne (by omega), vs_at]
  have e40 : (vlg1 (vcn (vga (vs (vs V (3926 + t) 3) (3940 + t) v) t) 0 1)).1 (3940 + t) = v := by
    rw [vlg1_ne (by omega), vcn_ne (by omega), vga_kt hX (by omega), vs_at]
  have e66 : (vlg1 (vcn (vga (vs (vs V (3926 + t) 3) (3940 + t) v) t) 0 1)).1 2066 = V.1 2066 := by
    rw [vlg1_ne (by omega), vcn_ne (by omega), vga_kt hX (by omega), vs_ne (by omega), vs_ne (by omega)]
  unfold vdn
  dsimp only
  generalize vlg1 (vcn (vga (vs (vs V (3926 + t) 3) (3940 + t) v) t) 0 1) = U at *
  by_cases c : Z V.1 (V.1 (4052 + t)) (V.1 (4059 + t)) v = true
  · rw [if_pos c]
    refine Or.inr ⟨?_, V.1, vpe.refl, ?_⟩
    · rw [vinc_ne (by omega)]; exact e26
    · rw [vinc_ne (show 3940 + t ≠ 2066 by omega), e40, if_pos c]
      unfold vinc
      rw [vs_at, e66]
  · rw [if_neg c]
    refine Or.inr ⟨e26, V.1, vpe.refl, ?_⟩
    rw [e40, if_neg c, e66, Int32.add_zero]
theorem k3_rt {Z : (Nat → Int32) → Int32 → Int32 → Int32 → Bool} {v : Int32} (h : Sd t V) (hcb : 2048 ≤ (V.2.2.2 t (V.2.2.1 t - 1)).2.2.2.1 → V.1 (3989 + t) ≠ -1) (hn3 : V.1 (3926 + t) ≠ 3) : K3 Z t V (vrt Z V t v) := by
  have h1 := k6_vs (i := 3961 + t) (v := V.1 (3961 + t) - (V.1 (2228 + (V.2.2.2 t (V.2.2.1 t - 1)).1) + 2)) h (by omega)
  have h2 := h1.trans (k6_vs (i := 3954 + t) (v := V.1 (3954 + t) - 1) h1.2 (by omega))
  have h3 := h2.trans (k6_same (V1 := vnf (vs (vs V (3961 + t) (V.1 (3961 + t) - (V.1 (2228 + (V.2.2.2 t (V.2.2.1 t - 1)).1) + 2))) (3954 + t) (V.1 (3954 + t) - 1)) t (V.2.2.1 t - 1)) h2.2 rfl)
  have e89 : (vnf (vs (vs V (3961 + t) (V.1 (3961 + t) - (V.1 (2228 + (V.2.2.2 t (V.2.2.1 t - 1)).1) + 2))) (3954 + t) (V.1 (3954 + t) - 1)) t (V.2.2.1 t - 1)).1 (3989 + t) = V.1 (3989 + t) := (vs_ne (by omega)).trans (vs_ne (by omega))
  have hk : (vnf (vs (vs V (3961 + t) (V.1 (3961 + t) - (V.1 (2228 + (V.2.2.2 t (V.2.2.1 t - 1)).1) + 2))) (3954 + t) (V.1 (3954 + t) - 1)) t (V.2.2.1 t - 1)).1 (4052 + t) = V.1 (4052 + t) ∧ (vnf (vs (vs V (3961 + t) (V.1 (3961 + t) - (V.1 (2228 + (V.2.2.2 t (V.2.2.1 t - 1)).1) + 2))) (3954 + t) (V.1 (3954 + t) - 1)) t (V.2.2.1 t - 1)).1 (4059 + t) = V.1 (4059 + t) := ⟨(vs_ne (by omega)).trans (vs_ne (by omega)), (vs_ne (by omega)).trans (vs_ne (by omega))⟩
  have hpe : vpe V.1 (vnf (vs (vs V (3961 + t) (V.1 (3961 + t) - (V.1 (2228 + (V.2.2.2 t (V.2.2.1 t - 1)).1) + 2))) (3954 + t) (V.1 (3954 + t) - 1)) t (V.2.2.1 t - 1)).1 := (vpe.upd (by omega)).trans (vpe.upd (by omega))
  unfold vrt
  dsimp only
  generalize vnf (vs (vs V (3961 + t) (V.1 (3961 + t) - (V.1 (2228 + (V.2.2.2 t (V.2.2.1 t - 1)).1) + 2))) (3954 + t) (V.1 (3954 + t) - 1)) t (V.2.2.1 t - 1) = V1 at *
  split
  · exact (k3_dn h3.2).pre h3.1.1 hk.1 hk.2 hpe
  · have hlv : ∀ i, i = 3989 + t → (vlv V1 t (V.2.2.2 t (V.2.2.1 t - 1))).1 i = V1.1 i := fun i hi => by
      unfold vlv
      split
      · rfl
      · dsimp only
        split
        · show (vlg1 (vs V1 (4066 + t) (V1.1 (4066 + t) - 1))).1 i = _
          rw [vlg1_ne (by omega), vs_ne (by omega)]
        · rw [vlg1_ne (by omega)]
          show (vsp (vs V1 (4066 + t) (V1.1 (4066 + t) - 1)) t).1 i = _
          rw [vsp_w (by omega), vs_ne (by omega)]
    have h4 : K6 t V (if V.1 (3933 + t) = 1 then vlv V1 t (V.2.2.2 t (V.2.2.1 t - 1)) else V1) ∧ (if V.1 (3933 + t) = 1 then vlv V1 t (V.2.2.2 t (V.2.2.1 t - 1)) else V1).1 (3989 + t) = V.1 (3989 + t) := by
      split
      · exact ⟨h3.trans (k6_lv h3.2), (hlv _ rfl).trans e89⟩
      · exact ⟨h3, e89⟩
    generalize (if V.1 (3933 + t) = 1 then vlv V1 t (V.2.2.2 t (V.2.2.1 t - 1)) else V1) = V2 at *
    obtain ⟨h4, e4⟩ := h4
    have h5 := h4.trans (k6_vs (i := 3982 + t) (v := nI (vpl V2 t (V.2.2.1 t - 1 - 1))) h4.2 (by omega))
    have h6 := h5.trans (k6_vs (i := 3975 + t) (v := nI ((V.2.2.2 t (V.2.2.1 t - 1)).2.2.2.1 % 1024 / 32)) h5.2 (by omega))
    have h7 := h6.trans (k6_vs (i := 3968 + t) (v := nI ((V.2.2.2 t (V.2.2.1 t - 1)).2.2.2.1 % 32)) h6.2 (by omega))
    have h8 := h7.trans (k6_nu (i := V.2.2.1 t - 1 - 1) (k := (V.1 (vco ((V.2.2.2 t (V.2.2.1 t - 1)).2.2.2.1 % 1024 / 32) ((V.2.2.2 t (V.2.2.1 t - 1)).2.2.2.1 % 32 - 1) + 3)).toInt.toNat) (v := v) h7.2)
    split
    · rename_i c
      refine (h8.trans (k6_fv h8.2 ?_)).k3 hn3
      show (vs (vs (vs V2 (3982 + t) _) (3975 + t) _) (3968 + t) _).1 (3989 + t) ≠ -1
      rw [vs_ne (by omega), vs_ne (by omega), vs_ne (by omega), e4]
      exact hcb c
    · exact h8.k3 hn3
theorem k6_sd (hz : (V.1 2052).toInt.toNat ≤ 3) (h : Sd t V) (e : vsd V t = some V1) : K6 t V V1 ∧ V1.1 (3989 + t) ≠ -1 := by
  unfold vsd at e
  split at e
  · split at e
    · cases e
    · rename_i k hk
      cases e
      have hk3 := vfs_lt hk
      have h1 := k6_vs (i := 3923 + k) (v := nI t) h (by omega)
      exact ⟨h1.trans ⟨⟨vs_ne (by omega), fun q => by rw [vs_ne (by omega)]; exact q⟩, Or.inr ⟨k, by omega, vs_at⟩⟩, by rw [vs_at]; exact nI_m1 (by omega)⟩
  · rename_i c
    cases e
    exact ⟨K6.refl h, c⟩
theorem k6_fg {words f slot : Int32} (hz : (V.1 2052).toInt.toNat ≤ 3) (h : Sd t V) : K6 t V (vfg lim V t words f slot) := by
  unfold vfg
  cases hsd : vsd V t with
  | none =>
    rw [vhs_0 hsd]
    have h1 := k6_sta (v := 2) h (by decide)
    have h2 := h1.trans (k6_vs (i := 3968 + t) (v := V.1 (3968 + t) - 1) h1.2 (by omega))
    exact h2.trans (k6_cn (k := 10) (v := 1) h2.2 (by omega))
  | some V1 =>
    obtain ⟨h0, hn0⟩ := k6_sd hz h hsd
    have h1 := h0.trans (k6_sta (v := 1) h0.2 (by decide))
    by_cases c : ((vs V1 (3926 + t) 1).1 (3996 + t) + words).toInt ≤ ((vs V1 (3926 + t) 1).1 2053).toInt
    · rw [vhs_1 hsd c]
      have h2 := h1.trans (k6_vs (i := 3996 + t) (v := (vs V1 (3926 + t) 1).1 (3996 + t) + words) h1.2 (by omega))
      dsimp only
      split
      · exact h2.trans (k6_cl h2.2)
      · have h3 := h2.trans (k6_nu (i := (vs (vs V1 (3926 + t) 1) (3996 + t) ((vs V1 (3926 + t) 1).1 (3996 + t) + words)).2.2.1 t - 1) (k := slot.toInt.toNat) (v := 3 * vnm (vlf (vs (vs V1 (3926 + t) 1) (3996 + t) ((vs V1 (3926 + t) 1).1 (3996 + t) + words)) t) slot + 1) h2.2)
        refine h3.trans (k6_fv h3.2 ?_)
        show (vs (vs V1 (3926 + t) 1) (3996 + t) _).1 (3989 + t) ≠ -1
        rw [vs_ne (by omega), vs_ne (by omega)]
        exact hn0
    · rw [vhs_2 hsd c]
      exact h1.trans (k6_out h1.2)
theorem k6_qu (h : Sd t V) : K6 t V (vqu lim V t).2 := by
  unfold vqu
  split
  · exact k6_sp h
  split
  · exact K6.refl h
  split
  · exact K6.refl h
  · exact K6.l (K6.c (K6.i (k6_mv h) (by omega)) (by omega))
theorem k3_ln {l : Nat} {kind a b c : Int32} {Z : (Nat → Int32) → Int32 → Int32 → Int32 → Bool} (hz : (V.1 2052).toInt.toNat ≤ 3) (h : Sd t V) (hcb : 2048 ≤ (V.2.2.2 t (V.2.2.1 t - 1)).2.2.2.1 → V.1 (3989 + t) ≠ -1) (hn3 : V.1 (3926 + t) ≠ 3) : K3 Z t V (vln1 lim Z V t l kind a b c) := by
  unfold vln1
  dsimp only
  by_cases c0 : kind = 0
  · rw [if_pos c0]; exact K6.k3 (k6_nu h) hn3
  rw [if_neg c0]
  by_cases c1 : kind = 1
  · rw [if_pos c1]; exact K6.k3 (k6_nu h) hn3
  rw [if_neg c1]
  by_cases c2 : kind = 2
  · rw [if_pos c2]; exact K6.k3 (k6_nu h) hn3
  rw [if_neg c2]
  by_cases c3 : kind = 3
  · rw [if_pos c3]; exact K6.k3 (k6_po h) hn3
  rw [if_neg c3]
  by_cases c4 : kind = 4
  · rw [if_pos c4]; exact K6.k3 (k6_nu h) hn3
  rw [if_neg c4]
  by_cases c5 : kind = 5
  · rw [if_pos c5]
    cases (vlf V t).2.2.2.2.2 a.toInt.toNat with
    | none => exact K6.k3 (K6.refl h) hn3
    | some q => exact K6.k3 (k6_nu h) hn3
  rw [if_neg c5]
  by_cases c6 : kind = 6
  · rw [if_pos c6]
    by_cases ct : tld V.1 a
    · rw [if_pos ct]; exact K6.k3 (k6_cl h) hn3
    · rw [if_neg ct]; exact K6.k3 (k6_nu h) hn3
  rw [if_neg c6]
  by_cases c7 : kind = 7
  · rw [if_pos c7]
    by_cases ct : (vnm (vlf V t) a).toInt ≤ 0
    · rw [if_pos ct]; exact K6.k3 (K6.refl h) hn3
    · rw [if_neg ct]; exact K6.k3 (k6_vs h (by omega)) hn3
  rw [if_neg c7]
  by_cases c8 : kind = 8
  · rw [if_pos c8]; exact k3_rt h hcb hn3
  rw [if_neg c8]
  by_cases c9 : kind = 9
  · rw [if_pos c9]; exact K6.k3 (k6_fg hz h) hn3
  rw [if_neg c9]
  exact K6.k3 (k6_qu h) hn3
theorem k3_st {B : Nat} {Z : (Nat → Int32) → Int32 → Int32 → Int32 → Bool} (hI : VI lim B V) (ht : t < 6) (hb : vbz V.1 t) (hlm : lim ≤ 10000) : K3 Z t V (vst lim Z V t) := by
  obtain ⟨np, z, z2, z3, k, l, hP, h0, -, -, ⟨s1, s2, s3⟩, -, -, hs, -, hcb⟩ := hI.opn ht hb hlm
  have h : Sd t V := hs
  have hcb' : 2048 ≤ (V.2.2.2 t (V.2.2.1 t - 1)).2.2.2.1 → V.1 (3989 + t) ≠ -1 := fun e e2 => by
    obtain ⟨ks, k1, k2⟩ := hcb e
    rw [e2] at k2
    exact absurd k2.symm (nI_m1 (by omega))
  have h1 := k6_inc (i := 3947 + t) h (by omega)
  have h2 := h1.trans (k6_cn (k := 2) (v := 1) h1.2 (by omega))
  have hz : ∀ V' : vV, (∀ i, i ≠ 3947 + t → i ≠ 2056 → i ≠ 3968 + t → V'.1 i = V.1 i) → ((V'.1 2052).toInt.toNat ≤ 3) := fun V' hv => by
    rw [hv 2052 (by omega) (by omega) (by omega), s1, nI_int (by omega)]
    show (z3 : Int).toNat ≤ 3
    omega
  have e1 : ∀ i, i ≠ 3947 + t → i ≠ 2056 → (vcn (vinc V (3947 + t)) 2 1).1 i = V.1 i := fun i g1 g2 => (vcn_ne (by omega)).trans (vinc_ne g1)
  have e12 : (vcn (vinc V (3947 + t)) 2 1).2 = V.2 := rfl
  have hn3 : V.1 (3926 + t) ≠ 3 := by
    rcases hb with e | e
    · rw [e]; decide
    · rw [e]; decide
  have hpe : vpe V.1 (vcn (vinc V (3947 + t)) 2 1).1 := (vpe.upd (by omega)).trans (vpe.upd (by omega))
  unfold vst
  dsimp only
  generalize vcn (vinc V (3947 + t)) 2 1 = V1 at *
  split
  · have h3 := h2.trans (k6_vs (i := 3968 + t) (v := V1.1 (3968 + t) + 1) h2.2 (by omega))
    have e3 : ∀ i, i ≠ 3947 + t → i ≠ 2056 → i ≠ 3968 + t → (vs V1 (3968 + t) (V1.1 (3968 + t) + 1)).1 i = V.1 i := fun i g1 g2 g3 => (vs_ne g3).trans (e1 i g1 g2)
    have hp3 : vpe V.1 (vs V1 (3968 + t) (V1.1 (3968 + t) + 1)).1 := hpe.trans (vpe.upd (by omega))
    have e32 : (vs V1 (3968 + t) (V1.1 (3968 + t) + 1)).2 = V.2 := e12
    generalize vs V1 (3968 + t) (V1.1 (3968 + t) + 1) = V3 at *
    exact (k3_ln (hz V3 e3) h3.2 (by rw [e32, e3 _ (by omega) (by omega) (by omega)]; exact hcb') (by rw [e3 _ (by omega) (by omega) (by omega)]; exact hn3)).pre (e3 _ (by omega) (by omega) (by omega)) (e3 _ (by omega) (by omega) (by omega)) (e3 _ (by omega) (by omega) (by omega)) hp3
  · exact (k3_rt h2.2 (by rw [e12, e1 _ (by omega) (by omega)]; exact hcb') (by rw [e1 _ (by omega) (by omega)]; exact hn3)).pre (e1 _ (by omega) (by omega)) (e1 _ (by omega) (by omega)) (e1 _ (by omega) (by omega)) hpe
end
end
section
/-! ===== the reference: no word is wrong ===== -/
section
variable {s s' : wt_S} {V : vV} {t i B : Nat}
theorem q_wrongW (h : RS s V) (hI : VI 2048 B V) (ht : t < 6) : ∃ s', gX11_wrongWords s (nI t) = some (0, s') ∧ RO s s' := by
  have hj := hI.J
  have hN := hI.n ht
  have h40 : ∀ (K : wt_S → Int32 → Int32 → Int32 → Option (Int32 × wt_S)) (i : Nat), i < V.2.2.1 t → ∀ (m k fu : Nat) (s1 : wt_S) (l2 : Int32), k + m = vsz V.1 (V.2.2.2 t i).1 → m < fu → RO s s1 → ∃ s2, RO s s2 ∧ gX11_wrongWords_40 K fu s1 (nI t) l2 (nI i) (nI (vpl V t i)) (nI (V.2.2.2 t i).1) (nI k) = K s2 (nI t) l2 (nI i + (-1)) := by
    intro K i hi m
    obtain ⟨f1, f2, f3⟩ := hj.fit ht hi
    obtain ⟨z1, z2⟩ := hj.1.sz f1
    obtain ⟨np, -, hgeo, hIf⟩ := hj.geo ht (show 0 < V.2.2.1 t by omega)
    unfold vwd at f3
    induction m with
    | zero =>
      intro k fu s1 l2 hk hfu hr
      obtain ⟨fu, rfl⟩ : ∃ m, fu = m + 1 := ⟨fu - 1, by omega⟩
      have h1 := h.ro hr
      rw [gX11_wrongWords_40, li_add, ix_nI (by omega) (by omega), h1.pr (c := 2228 + (V.2.2.2 t i).1) (by omega), z1, nI_int (by omega), nI_int (by omega), if_pos (by omega)]
      by_cases ci : i = 0
      · rw [if_neg (fun q => q (by rw [ci]; rfl))]
        exact ⟨s1, hr, rfl⟩
      · have ci' : nI i ≠ 0 := fun q => ci ((nI_inj (by omega) (by omega)).mp (show nI i = nI 0 from q))
        obtain ⟨s2, e1, e2, e3, e4, e5⟩ := q_looksAt h1 hI ht (show i - 1 < V.2.2.1 t by omega)
        have hr2 := hr.trans e2
        have h2 := h.ro hr2
        have hfm := hj.fit ht (show i - 1 < V.2.2.1 t by omega)
        have fm := hfm.1
        have fm2 := hfm.2.2
        unfold vwd at fm2
        obtain ⟨y, q, y1, y2, y3, y4, y5, y6⟩ := q_pcAt h2 hj ht hi
        refine ⟨s2, hr2, ?_⟩
        rw [if_pos ci', li_sub (by omega), e1, cl_some, e4, q_frameOf fm, cl_some, y1, cl_some, e3]
        unfold gX11_wrongWords_186 gX11_wrongWords_190 gX11_wrongWords_191
        have hw : s2 111 (2228 + (V.2.2.2 t (i - 1)).1) + 2 = nI (vwd V.1 (V.2.2.2 t (i - 1)).1) := by
          rw [h2.pr (c := 2228 + (V.2.2.2 t (i - 1)).1) (by omega), (hj.1.sz fm).1, show (2 : Int32) = nI 2 from rfl, nI_add]
          rfl
        have hv1 : vpl V t i = vat V.2.1 t (V.2.2.2 t i).2.1 + (V.2.2.2 t i).2.2.1 := rfl
        have hv2 : vpl V t (i - 1) = vat V.2.1 t (V.2.2.2 t (i - 1)).2.1 + (V.2.2.2 t (i - 1)).2.2.1 := rfl
        rw [hw]
        by_cases cq : nI (vpl V t (i - 1)) + nI (vwd V.1 (V.2.2.2 t (i - 1)).1) = nI (vpl V t i)
        · rw [if_pos cq, Int32.add_zero]
        · rw [if_neg cq, if_neg (nI_nm (by omega)), li_add, ix_nI (by omega) (by omega), (h2.2.2.1.2.2 y q y2).1]
          have hq : q.1 = vpl V t i := by
            rcases hgeo.2.2 (i - 1) (by omega) with ⟨g1, g2⟩ | ⟨g1, g2⟩
            · exfalso
              rw [show i - 1 + 1 = i by omega] at g1 g2
              refine cq ?_
              rw [nI_add, hv1, hv2, g1, g2, Nat.add_assoc]
            · rw [show i - 1 + 1 = i by omega] at g2
              rw [hv1, g2, y6, Nat.add_zero]
          rw [if_neg (fun x => x (by rw [hq])), Int32.add_zero]
    | succ m ih =>
      intro k fu s1 l2 hk hfu hr
      obtain ⟨fu, rfl⟩ : ∃ m, fu = m + 1 := ⟨fu - 1, by omega⟩
      have h1 := h.ro hr
      have hp1 := hj.1.ww h1.prog
      obtain ⟨w1, w2, w3⟩ := h1.wd hj rfl ht hi
      have hk1 : k < vsz V.1 (V.2.2.2 t i).1 := by omega
      rw [gX11_wrongWords_40, li_add, ix_nI (by omega) (by omega), h1.pr (c := 2228 + (V.2.2.2 t i).1) (by omega), z1, nI_int (by omega), nI_int (by omega), if_neg (by omega), q_isPointer f1, cl_some]
      unfold gX11_wrongWords_109 gX11_wrongWords_110
      rw [nI_1, Int32.add_zero, if_rb]
      by_cases cp : v2p (s1 111) (V.2.2.2 t i).1 (nI k)
      · rw [if_pos cp, li_add2, nI_add, ix_nI (by omega) (by omega), w3 k hk1]
        have hkn : (nI k).toInt.toNat = k := by rw [nI_int (by omega)]; rfl
        have x2 : s1 111 (2238 + (V.2.2.2 t i).1) = V.1 (2238 + (V.2.2.2 t i).1) := h1.2.at (by unfold vtr; omega)
        have hbt : bt (V.1 (2238 + (V.2.2.2 t i).1)) k := by
          have := cp.2
          rw [x2, hkn] at this
          exact this
        have hsw : vsw V.1 (vpl V t) (V.2.2.2 t i) k = (match (V.2.2.2 t i).2.2.2.2.2 k with | none => -1 | some q => nI (vpl V t q.1 + 2 + q.2)) := by
          unfold vsw
          rw [if_pos hbt]
          cases (V.2.2.2 t i).2.2.2.2.2 k <;> rfl
        cases hq : (V.2.2.2 t i).2.2.2.2.2 k with
        | none =>
          rw [hq] at hsw
          have hsw : vsw V.1 (vpl V t) (V.2.2.2 t i) k = -1 := hsw
          rw [hsw, if_pos rfl]
          exact ih (k + 1) fu s1 _ (by omega) (by omega) hr
        | some q =>
          rw [hq] at hsw
          have hsw : vsw V.1 (vpl V t) (V.2.2.2 t i) k = nI (vpl V t q.1 + 2 + q.2) := hsw
          obtain ⟨p1, p2, p3⟩ := hIf.2.2.2.2.2 i hi k hk1 hbt q hq
          have hqi : q.1 < V.2.2.1 t := by omega
          have hfq := (hj.fit ht hqi).2.2
          unfold vwd at hfq
          have hzq := (hj.1.sz (hj.fit ht hqi).1).2
          obtain ⟨s3, g1, g2⟩ := q_pointed (P := vpl V t q.1 + 2 + q.2) h1 hI ht hqi p2 p3 rfl
          rw [hsw, if_neg (nI_nm (by omega)), ix_nI (by omega) (by omega), w3 k hk1, hsw, g1, cl_some, if_pos (nI_nm (by omega))]
          exact ih (k + 1) fu s3 _ (by omega) (by omega) (hr.trans g2)
      · rw [if_neg cp]
        exact ih (k + 1) fu s1 _ (by omega) (by omega) hr
  have loop : ∀ (m fu : Nat) (s1 : wt_S) (l2 : Int32), m < fu → m ≤ V.2.2.1 t → RO s s1 → ∃ s2, gX11_wrongWords_15 fu s1 (nI t) l2 (nI m + (-1)) = some (l2, s2) ∧ RO s s2 := by
    intro m
    induction m with
    | zero =>
      intro fu s1 l2 hfu hm hr
      obtain ⟨fu, rfl⟩ : ∃ m, fu = m + 1 := ⟨fu - 1, by omega⟩
      rw [gX11_wrongWords_15, if_pos (by decide)]
      exact ⟨s1, rfl, hr⟩
    | succ m ih =>
      intro fu s1 l2 hfu hm hr
      obtain ⟨fu, rfl⟩ : ∃ m, fu = m + 1 := ⟨fu - 1, by omega⟩
      have h1 := h.ro hr
      obtain ⟨s2, e1, e2, e3, e4, e5⟩ := q_looksAt h1 hI ht (show m < V.2.2.1 t by omega)
      have f1 := (hj.fit ht (show m < V.2.2.1 t by omega)).1
      have z2 := (hj.1.sz f1).2
      obtain ⟨s3, g1, g2⟩ := h40 (gX11_wrongWords_15 fu) m (by omega) (vsz V.1 (V.2.2.2 t m).1) 0 wt_N s2 l2 (by omega) (by unfold wt_N; omega) (hr.trans e2)
      obtain ⟨s4, d1, d2⟩ := ih fu s3 l2 (by omega) (by omega) g1
      refine ⟨s4, ?_, d2⟩
      rw [gX11_wrongWords_15, nI_pred2, nI_int (by omega), if_neg (by show ¬ _ < (0 : Int); omega), e1, cl_some, e3, e4, show gX11_wrongWords_40 (gX11_wrongWords_15 fu) wt_N s2 (nI t) l2 (nI m) (nI (vpl V t m)) (nI (V.2.2.2 t m).1) 0 = _ from g2, d1]
  obtain ⟨s2, e1, e2⟩ := loop (V.2.2.1 t) wt_N s 0 (by unfold wt_N; omega) (Nat.le_refl _) RO.refl
  refine ⟨s2, ?_, e2⟩
  unfold gX11_wrongWords
  rw [li_add, ix_nI (by omega) (by omega), h.tk (c := 3954) (by omega) ht, hI.f54 ht, i_sub1]
  exact e1
end
end
section
/-! ===== the reference: no frame is wrong; never ===== -/
theorem gb_118 {s s' : wt_S} {r : Unit} (e : gX11_goesBack s = some (r, s')) : s' 118 = s 118 := by
  unfold gX11_goesBack wt_ix at e
  split at e
  · try dsimp only at e
    rw [wr_eq, wr_eq] at e
    split at e
    · try dsimp only at e
      rw [wr_eq] at e
      cases e
      rw [wt_u_ne (by omega), wt_u_ne (by omega), wt_u_ne (by omega)]
    · cases e
  · cases e
theorem la_118 : ∀ (n : Nat) (s s' : wt_S) (r : Unit) (a b : Int32), gX11_looksAt_55 n s a b = some (r, s') → s' 118 = s 118 := by
  intro n
  induction n with
  | zero => intro s s' r a b e; cases e
  | succ n ih =>
    intro s s' r a b e
    rw [gX11_looksAt_55] at e
    by_cases c : b.toInt ≤ a.toInt
    · rw [if_pos c] at e; cases e; rfl
    · rw [if_neg c] at e
      cases e2 : gX11_goesBack s with
      | none => rw [e2] at e; cases e
      | some p =>
        obtain ⟨u, s1⟩ := p
        rw [e2, cl_some] at e
        exact (ih s1 s' r a _ e).trans (gb_118 e2)
theorem lk_118 {s s' : wt_S} {r : Unit} {a b : Int32} (e : gX11_looksAt s a b = some (r, s')) : s' 118 = s 118 := by
  unfold gX11_looksAt wt_ix at e
  split at e
  · try dsimp only at e
    rw [wr_eq] at e
    split at e
    · try dsimp only at e
      rw [wr_eq] at e
      split at e
      · try dsimp only at e
        rw [wr_eq] at e
        split at e
        · have := la_118 _ _ _ _ _ _ e
          rw [this, wt_u_ne (by omega), wt_u_ne (by omega), wt_u_ne (by omega)]
        · cases e
      · cases e
    · cases e
  · cases e
/-- the words of frames that were not looked at are not marked -/
def M0 (V : vV) (s : wt_S) (t m : Nat) : Prop := ∀ t' j, t' < 6 → j < V.2.2.1 t' → (t < t' ∨ (t' = t ∧ j < m)) → ∀ x, x < vwd V.1 (V.2.2.2 t' j).1 → s 118 (vpl V t' j + x) = 0
section
variable {s s' : wt_S} {V : vV} {t i m B : Nat}
theorem M0.of (h : M0 V s t m) (e : s' 118 = s 118) : M0 V s' t m := fun t' j a b c x hx => by rw [e]; exact h t' j a b c x hx
theorem q_wrongF (h : RS s V) (hI : VI 2048 B V) (ht : t < 6) (hM : M0 V s t (V.2.2.1 t)) : ∃ s', gX11_wrongFrames s (nI t) = some (0, s') ∧ RO s s' ∧ M0 V s' t 0 := by
  have hj := hI.J
  have hN := hI.n ht
  have h112 : ∀ (K : wt_S → Int32 → Int32 → Int32 → Option (Int32 × wt_S)) (i : Nat), i < V.2.2.1 t → ∀ (m k fu : Nat) (s1 : wt_S) (l2 : Int32), k + m = vpl V t i + vwd V.1 (V.2.2.2 t i).1 → m < fu → vpl V t i ≤ k → RO s s1 → M0 V s1 t i → (∀ x, k ≤ vpl V t i + x → x < vwd V.1 (V.2.2.2 t i).1 → s1 118 (vpl V t i + x) = 0) → ∃ s2, RO s s2 ∧ M0 V s2 t i ∧ gX11_wrongFrames_112 K fu s1 (nI t) l2 (nI i) (nI (vpl V t i + vwd V.1 (V.2.2.2 t i).1)) 0 (nI k) = K s2 (nI t) l2 (nI i + (-1)) := by
    intro K i hi m
    obtain ⟨f1, f2, f3⟩ := hj.fit ht hi
    induction m with
    | zero =>
      intro k fu s1 l2 hk hfu hkp hr hM1 hz
      obtain ⟨fu, rfl⟩ : ∃ m, fu = m + 1 := ⟨fu - 1, by omega⟩
      refine ⟨s1, hr, hM1, ?_⟩
      rw [gX11_wrongFrames_112, nI_int (by omega), nI_int (by omega), if_pos (by omega), if_pos rfl]
      unfold gX11_wrongFrames_166
      rw [Int32.add_zero]
    | succ m ih =>
      intro k fu s1 l2 hk hfu hkp hr hM1 hz
      obtain ⟨fu, rfl⟩ : ∃ m, fu = m + 1 := ⟨fu - 1, by omega⟩
      have hk0 : s1 118 k = 0 := by
        have := hz (k - vpl V t i) (by omega) (by omega)
        rw [show vpl V t i + (k - vpl V t i) = k by omega] at this
        exact this
      have hr2 := hr.trans (RO.u8 (s := s1) (k := k) (v := 1))
      obtain ⟨s2, d1, d2, d3⟩ := ih (k + 1) fu (wt_u s1 118 k 1) l2 (by omega) (by omega) (by omega) hr2 (fun t' j a b c x hx => by
        have hdj := hj.dj a ht b hi (fun q => by rcases c with c | c <;> omega)
        rw [wt_u_nk (by omega)]
        exact hM1 t' j a b c x hx) (fun x hx1 hx2 => by rw [wt_u_nk (by omega)]; exact hz x (by omega) hx2)
      refine ⟨s2, d1, d2, ?_⟩
      rw [gX11_wrongFrames_112, nI_int (by omega), nI_int (by omega), if_neg (by omega), if_neg (fun q => q rfl), ix_nI (by omega) (by omega), hk0, if_pos rfl]
      unfold gX11_wrongFrames_139
      rw [nI_1, ix_nI (by omega) (by omega), wr_eq, d3]
  have loop : ∀ (m fu : Nat) (s1 : wt_S) (l2 : Int32), m < fu → m ≤ V.2.2.1 t → RO s s1 → M0 V s1 t m → ∃ s2, gX11_wrongFrames_15 fu s1 (nI t) l2 (nI m + (-1)) = some (l2, s2) ∧ RO s s2 ∧ M0 V s2 t 0 := by
    intro m
    induction m with
    | zero =>
      intro fu s1 l2 hfu hm hr hM1
      obtain ⟨fu, rfl⟩ : ∃ m, fu = m + 1 := ⟨fu - 1, by omega⟩
      rw [gX11_wrongFrames_15, if_pos (by decide)]
      exact ⟨s1, rfl, hr, hM1⟩
    | succ m ih =>
      intro fu s1 l2 hfu hm hr hM1
      obtain ⟨fu, rfl⟩ : ∃ m, fu = m + 1 := ⟨fu - 1, by omega⟩
      have hmn : m < V.2.2.1 t := by omega
      have h1 := h.ro hr
      obtain ⟨s2, e1, e2, e3, e4, e5⟩ := q_looksAt h1 hI ht hmn
      have hr2 := hr.trans e2
      have h2 := h.ro hr2
      have e8 := lk_118 e1
      have hM2 := hM1.of e8
      obtain ⟨f1, f2, f3⟩ := hj.fit ht hmn
      obtain ⟨w1, w2⟩ := hj.1.wd f1
      obtain ⟨y, q, y1, y2, y3, y4, y5, y6⟩ := q_pcAt h2 hj ht hmn
      obtain ⟨np, -, hgeo, -⟩ := hj.geo ht (show 0 < V.2.2.1 t by omega)
      have hq := vln_at hj.2.2.1 (List.mem_of_getElem? y2)
      have hqo := (hj.2.1.2 q (List.mem_of_getElem? y2)).2.1
      rw [y4, y5] at hq
      have hg := (hgeo.1 m hmn).2
      have hv : vpl V t m = vat V.2.1 t (V.2.2.2 t m).2.1 + (V.2.2.2 t m).2.2.1 := rfl
      obtain ⟨s3, d1, d2, d3⟩ := h112 (gX11_wrongFrames_15 fu) m hmn (vwd V.1 (V.2.2.2 t m).1) (vpl V t m) wt_N s2 l2 (by omega) (by unfold wt_N; omega) (Nat.le_refl _) hr2 (fun t' j a b c x hx => hM2 t' j a b (by omega) x hx) (fun x _ hx => hM2 t m ht hmn (Or.inr ⟨rfl, by omega⟩) x hx)
      obtain ⟨s4, g1, g2, g3⟩ := ih fu s3 l2 (by omega) (by omega) d1 d2
      obtain ⟨r1, r2, r3, r4⟩ := h2.2.2.1.2.2 y q y2
      refine ⟨s4, ?_, g2, g3⟩
      rw [gX11_wrongFrames_15, nI_pred2, nI_int (by omega), if_neg (by show ¬ _ < (0 : Int); omega), e1, cl_some, e4, q_frameOf f1, cl_some, h2.pr (c := 2228 + (V.2.2.2 t m).1) (by omega), w1, e3, y1, cl_some, nI_add, if_neg (nI_nm (by omega)), li_add, ix_nI (by omega) (by omega), r3, y4, if_neg (fun x => x rfl), li_add, ix_nI (by omega) (by omega), li_add, ix_nI (by omega) (by omega), r1, r2, nI_add, nI_int (by omega), nI_int (by omega), if_pos (by omega)]
      unfold gX11_wrongFrames_104
      rw [e3, d3, g1]
  obtain ⟨s2, e1, e2, e3⟩ := loop (V.2.2.1 t) wt_N s 0 (by unfold wt_N; omega) (Nat.le_refl _) RO.refl hM
  refine ⟨s2, ?_, e2, e3⟩
  unfold gX11_wrongFrames
  rw [li_add, ix_nI (by omega) (by omega), h.tk (c := 3954) (by omega) ht, hI.f54 ht, i_sub1]
  exact e1
theorem q_never_26 {l1 : Int32} (h : RS s V) : ∀ (m k fu : Nat) (s1 : wt_S), k + m = 2048 → m < fu → RO s s1 → (∀ p, p < k → s1 118 p = 0) → ∃ s2, gX11_never_26 fu s1 l1 (nI k) = gX11_never_50 wt_N s2 l1 0 0 ∧ RO s s2 ∧ ∀ p, p < 2048 → s2 118 p = 0 := by
  intro m
  induction m with
  | zero =>
    intro k fu s1 hk hfu hr hz
    obtain ⟨fu, rfl⟩ : ∃ m, fu = m + 1 := ⟨fu - 1, by omega⟩
    refine ⟨s1, ?_, hr, fun p hp => hz p (by omega)⟩
    rw [gX11_never_26, if_pos (by rw [nI_int (by omega)]; show (2048 : Int) ≤ _; omega)]
  | succ m ih =>
    intro k fu s1 hk hfu hr hz
    obtain ⟨fu, rfl⟩ : ∃ m, fu = m + 1 := ⟨fu - 1, by omega⟩
    obtain ⟨s2, d1, d2, d3⟩ := ih (k + 1) fu (wt_u s1 118 k 0) (by omega) (by omega) (hr.trans (RO.u8 (s := s1) (k := k) (v := 0))) (fun p hp => by
      by_cases e : p = k
      · subst e; rw [wt_u_self]
      · rw [wt_u_nk e]; exact hz p (by omega))
    refine ⟨s2, ?_, d2, d3⟩
    rw [gX11_never_26, if_neg (by rw [nI_int (by omega)]; show ¬ (2048 : Int) ≤ _; omega), ix_nI (by omega) (by omega), wr_eq, nI_1, d1]
theorem q_never_50 {l1 l2 : Int32} (h : RS s V) (hI : VI 2048 B V) : ∀ (m t fu : Nat) (s1 : wt_S), t + m = 6 → m < fu → RO s s1 → (∀ t' j, t' < 6 → j < V.2.2.1 t' → t ≤ t' → ∀ x, x < vwd V.1 (V.2.2.2 t' j).1 → s1 118 (vpl V t' j + x) = 0) → ∃ s2, gX11_never_50 fu s1 l1 l2 (nI t) = some (l2, s2) ∧ RO s s2 := by
  intro m
  induction m with
  | zero =>
    intro t fu s1 ht hfu hr hM
    obtain ⟨fu, rfl⟩ : ∃ m, fu = m + 1 := ⟨fu - 1, by omega⟩
    rw [gX11_never_50, if_pos (by rw [nI_int (by omega)]; show (6 : Int) ≤ _; omega)]
    exact ⟨s1, rfl, hr⟩
  | succ m ih =>
    intro t fu s1 ht hfu hr hM
    obtain ⟨fu, rfl⟩ : ∃ m, fu = m + 1 := ⟨fu - 1, by omega⟩
    have h1 := h.ro hr
    rw [gX11_never_50, if_neg (by rw [nI_int (by omega)]; show ¬ (6 : Int) ≤ _; omega)]
    unfold gX11_never_75
    by_cases c : l1 ≠ 1
    · obtain ⟨s2, e1, e2, e3⟩ := q_wrongF h1 hI (show t < 6 by omega) (fun t' j a b c x hx => hM t' j a b (by omega) x hx)
      obtain ⟨s3, d1, d2⟩ := ih (t + 1) fu s2 (by omega) (by omega) (hr.trans e2) (fun t' j a b c x hx => e3 t' j a b (Or.inl (by omega)) x hx)
      rw [if_pos c, e1, cl_some, Int32.add_zero, nI_1, d1]
      exact ⟨s3, rfl, d2⟩
    · have hc : l1 = 1 := by simpa using c
      obtain ⟨s2, e1, e2⟩ := q_wrongW h1 hI (show t < 6 by omega)
      rw [if_neg c, e1, cl_some, Int32.add_zero, nI_1]
      have only : ∀ (m t fu : Nat) (s1 : wt_S), t + m = 6 → m < fu → RO s s1 → ∃ s2, gX11_never_50 fu s1 l1 l2 (nI t) = some (l2, s2) ∧ RO s s2 := by
        intro m
        induction m with
        | zero =>
          intro t fu s1 ht hfu hr
          obtain ⟨fu, rfl⟩ : ∃ m, fu = m + 1 := ⟨fu - 1, by omega⟩
          rw [gX11_never_50, if_pos (by rw [nI_int (by omega)]; show (6 : Int) ≤ _; omega)]
          exact ⟨s1, rfl, hr⟩
        | succ m ih =>
          intro t fu s1 ht hfu hr
          obtain ⟨fu, rfl⟩ : ∃ m, fu = m + 1 := ⟨fu - 1, by omega⟩
          obtain ⟨s2, e1, e2⟩ := q_wrongW (h.ro hr) hI (show t < 6 by omega)
          obtain ⟨s3, d1, d2⟩ := ih (t + 1) fu s2 (by omega) (by omega) (hr.trans e2)
          rw [gX11_never_50, if_neg (by rw [nI_int (by omega)]; show ¬ (6 : Int) ≤ _; omega), if_neg c, e1, cl_some]
          unfold gX11_never_75
          rw [Int32.add_zero, nI_1, d1]
          exact ⟨s3, rfl, d2⟩
      exact only m (t + 1) fu s2 (by omega) (by omega) (hr.trans e2)
/-- what the reference answers -/
def vnev (V : vV) (what : Int32) : Int32 := if what ≠ 0 then (if 1 ≤ what.toInt ∧ what.toInt ≤ 2 then 0 else -1) else V.1 2066
theorem q_neverE {what : Int32} (h : RS s V) (hI : VI 2048 B V) : ∃ s', gX11_never s what = some (vnev V what, s') ∧ RO s s' := by
  have q1 : (1 : Int32).toInt = 1 := by decide
  have q2 : (2 : Int32).toInt = 2 := by decide
  unfold gX11_never vnev
  by_cases c : what ≠ 0
  · rw [if_pos c, if_pos c, q_isIn, cl_some, if_rbn, q1, q2]
    by_cases c2 : 1 ≤ what.toInt ∧ what.toInt ≤ 2
    · rw [if_pos c2, if_pos c2]
      obtain ⟨s2, e1, e2, e3⟩ := q_never_26 (l1 := what) h 2048 0 wt_N s (by omega) (by unfold wt_N; omega) RO.refl (fun p hp => by omega)
      obtain ⟨s3, d1, d2⟩ := q_never_50 (l1 := what) (l2 := 0) h hI 6 0 wt_N s2 (by omega) (by unfold wt_N; omega) e2 (fun t' j a b _ x hx => e3 _ (by have := (hI.J.fit a b).2.2; omega))
      rw [show gX11_never_26 wt_N s what 0 = _ from e1, show gX11_never_50 wt_N s2 what 0 0 = _ from d1]
      exact ⟨s3, rfl, d2⟩
    · rw [if_neg c2, if_neg c2]
      exact ⟨s, rfl, RO.refl⟩
  · rw [if_neg c, if_neg c, h.se (by omega)]
    exact ⟨s, rfl, RO.refl⟩
end
end
section
/-! ===== the class: no frame is wrong ===== -/
/-- the marks: those of the frames in P are 1, of the others 0 -/
def MW (V : vV) (s : wt_S) (P : Nat → Nat → Prop) : Prop := ∀ t' j, t' < 6 → j < V.2.2.1 t' → ∀ x, x < vwd V.1 (V.2.2.2 t' j).1 → (P t' j → s 72 (vpl V t' j + x) = 1) ∧ (¬ P t' j → s 72 (vpl V t' j + x) = 0)
/-- only where it walks and what it marks has changed -/
def FW (s0 s : wt_S) : Prop := ∀ c, c ≠ 27 → c ≠ 71 → c ≠ 72 → s c = s0 c
theorem FW.refl {s : wt_S} : FW s s := fun _ _ _ _ => rfl
theorem FW.trans {s s1 s2 : wt_S} (h : FW s s1) (h' : FW s1 s2) : FW s s2 := fun c a b d => (h' c a b d).trans (h c a b d)
section
variable {s s0 s1 s' : wt_S} {V : vV} {t i j n p B : Nat} {zs : List (vP × Nat)} {fr : List Nat} {P Q : Nat → Nat → Prop}
theorem RC.fw (h : RC 11 2048 s V zs fr) (hf : FW s s') : RC 11 2048 s' V zs fr := h.eq cx11 (fun c _ _ _ c4 c5 => hf c (by omega) (by omega) (by omega))
theorem MW.of (h : MW V s P) (e : s' 72 = s 72) : MW V s' P := fun t' j a b x hx => by rw [e]; exact h t' j a b x hx
theorem MW.imp (h : MW V s P) (hq : ∀ t' j, t' < 6 → j < V.2.2.1 t' → (Q t' j ↔ P t' j)) : MW V s Q := fun t' j a b x hx => ⟨fun q => (h t' j a b x hx).1 ((hq t' j a b).mp q), fun q => (h t' j a b x hx).2 (fun p => q ((hq t' j a b).mpr p))⟩
theorem c_mark (hp : p < 2048) : gX0_mark s (nI p) = some ((), wt_u s 72 p (s 72 p + 1)) := by
  unfold gX0_mark
  rw [if_neg (c_lo (by omega)), if_neg (by rw [nI_int (by omega)]; show ¬ (2048 : Int) ≤ _; omega), ix_nI hp (by omega), ix_nI hp (by omega), wr_eq]
theorem c_marksAt (hp : p < 2048) : gX0_marksAt s (nI p) = some (s 72 p, s) := by
  unfold gX0_marksAt
  rw [if_neg (c_lo (by omega)), if_neg (by rw [nI_int (by omega)]; show ¬ (2048 : Int) ≤ _; omega), ix_nI hp (by omega)]
theorem c_last0 {T : Nat} : ∃ s', gX8_toLast 11 T s = some ((), s') ∧ ∀ c, c ≠ 27 → s' c = s c := by
  unfold gX8_toLast
  rw [wr_eq, wr_eq, wr_eq]
  exact ⟨_, rfl, fun c hc => by rw [wt_u_ne (by omega), wt_u_ne (by omega), wt_u_ne (by omega)]⟩
/-- the words of a frame are marked -/
theorem c_41 {K : wt_S → Int32 → Option (Unit × wt_S)} (hI : VI 2048 B V) (ht : t < 6) (hi : i < V.2.2.1 t) (hPi : ¬ P t i) : ∀ (m x fu : Nat) (s : wt_S), x + m = vwd V.1 (V.2.2.2 t i).1 → m < fu → RC 11 2048 s V zs fr → s 27 1 = nI (vpl V t i) →
    (∀ t' j, t' < 6 → j < V.2.2.1 t' → ¬ (t' = t ∧ j = i) → ∀ y, y < vwd V.1 (V.2.2.2 t' j).1 → (P t' j → s 72 (vpl V t' j + y) = 1) ∧ (¬ P t' j → s 72 (vpl V t' j + y) = 0)) → (∀ y, y < vwd V.1 (V.2.2.2 t i).1 → s 72 (vpl V t i + y) = if y < x then 1 else 0) →
    ∃ s', FW s s' ∧ s' 27 = s 27 ∧ s' 71 = s 71 ∧ MW V s' (fun t' j => P t' j ∨ (t' = t ∧ j = i)) ∧ gX0_markWords_41 (11 + 17 + 2 * t) K fu s (nI (i + 1)) (nI (vwd V.1 (V.2.2.2 t i).1)) (nI x) = (if (nI (i + 1)).toInt ≤ (1 : Int32).toInt then K s' (nI (i + 1) + (-1)) else (wt_cl (gX8_toCaller 11 s') fun _ s1 => K s1 (nI (i + 1) + (-1)))) := by
  have hj := hI.J
  obtain ⟨f1, f2, f3⟩ := hj.fit ht hi
  obtain ⟨w1, w2⟩ := hj.1.wd f1
  intro m
  induction m with
  | zero =>
    intro x fu s hx hfu hR hp hM hz
    obtain ⟨fu, rfl⟩ : ∃ m, fu = m + 1 := ⟨fu - 1, by omega⟩
    refine ⟨s, FW.refl, rfl, rfl, fun t' j a b y hy => ?_, ?_⟩
    · by_cases e : t' = t ∧ j = i
      · obtain ⟨e1, e2⟩ := e
        subst e1
        subst e2
        refine ⟨fun _ => ?_, fun q => absurd (Or.inr ⟨rfl, rfl⟩) q⟩
        rw [hz y hy, if_pos (by omega)]
      · exact ⟨fun q => (hM t' j a b e y hy).1 (q.resolve_right e), fun q => (hM t' j a b e y hy).2 (fun p => q (Or.inl p))⟩
    · rw [gX0_markWords_41, if_pos (by rw [nI_int (by omega), nI_int (by omega)]; omega)]
  | succ m ih =>
    intro x fu s hx hfu hR hp hM hz
    obtain ⟨fu, rfl⟩ : ∃ m, fu = m + 1 := ⟨fu - 1, by omega⟩
    have hx0 : s 72 (vpl V t i + x) = 0 := by rw [hz x (by omega), if_neg (by omega)]
    obtain ⟨s', d1, d2, d3, d4, d5⟩ := ih (x + 1) fu (wt_u s 72 (vpl V t i + x) (s 72 (vpl V t i + x) + 1)) (by omega) (by omega) (hR.fw (fun c _ _ c3 => wt_u_ne c3)) (by rw [wt_u_ne (by omega)]; exact hp) (fun t' j a b e y hy => by
      have hdj := hj.dj a ht b hi e
      rw [wt_u_nk (by omega)]
      exact hM t' j a b e y hy) (fun y hy => by
      by_cases e : y = x
      · subst e
        rw [wt_u_self, hx0, if_pos (by omega)]
        rfl
      · rw [wt_u_nk (by omega), hz y hy]
        by_cases e2 : y < x
        · rw [if_pos e2, if_pos (by omega)]
        · rw [if_neg e2, if_neg (by omega)])
    refine ⟨s', FW.trans (fun c _ _ c3 => wt_u_ne c3) d1, d2.trans (wt_u_ne (by omega)), d3.trans (wt_u_ne (by omega)), d4, ?_⟩
    rw [gX0_markWords_41, if_neg (by rw [nI_int (by omega), nI_int (by omega)]; omega), hp, nI_add, c_mark (by omega), cl_some, show nI x + 1 = nI (x + 1) from nI_add x 1, d5]
/-- all frames of a task are marked -/
theorem c_18 (hI : VI 2048 B V) (ht : t < 6) : ∀ (m fu : Nat) (s : wt_S) (P : Nat → Nat → Prop), m < fu → m ≤ V.2.2.1 t → RC 11 2048 s V zs fr → (0 < m → s 27 1 = nI (vpl V t (m - 1)) ∧ s 27 2 = nI (V.2.2.2 t (m - 1)).1) → (∀ j, j < m → ¬ P t j) → MW V s P → ∃ s', gX0_markWords_18 (11 + 17 + 2 * t) fu s (nI m) = some ((), s') ∧ FW s s' ∧ MW V s' (fun t' j => P t' j ∨ (t' = t ∧ j < m)) := by
  have hj := hI.J
  have hN := hI.n ht
  intro m
  induction m with
  | zero =>
    intro fu s P hfu hm hR hp hPn hM
    obtain ⟨fu, rfl⟩ : ∃ m, fu = m + 1 := ⟨fu - 1, by omega⟩
    refine ⟨s, ?_, FW.refl, hM.imp (fun t' j _ _ => ⟨fun q => q.resolve_right (fun e => by omega), Or.inl⟩)⟩
    rw [gX0_markWords_18, if_pos (by decide)]
  | succ m ih =>
    intro fu s P hfu hm hR hp hPn hM
    obtain ⟨fu, rfl⟩ : ∃ m, fu = m + 1 := ⟨fu - 1, by omega⟩
    obtain ⟨p1, p2⟩ := hp (Nat.succ_pos m)
    rw [Nat.add_sub_cancel] at p1 p2
    have hmn : m < V.2.2.1 t := by omega
    have f1 := (hj.fit ht hmn).1
    obtain ⟨s1, d1, d2, d3, d4, d5⟩ := c_41 (K := gX0_markWords_18 (11 + 17 + 2 * t) fu) (P := P) hI ht hmn (hPn m (by omega)) (vwd V.1 (V.2.2.2 t m).1) 0 wt_N s (by omega) (by unfold wt_N; have := (hj.1.wd f1).2; omega) hR p1 (fun t' j a b _ y hy => hM t' j a b y hy) (fun y hy => by rw [if_neg (by omega)]; exact (hM t m ht hmn y hy).2 (hPn m (by omega)))
    have hR1 := hR.fw d1
    have base : gX0_markWords_18 (11 + 17 + 2 * t) (fu + 1) s (nI (m + 1)) = (if (nI (m + 1)).toInt ≤ (1 : Int32).toInt then gX0_markWords_18 (11 + 17 + 2 * t) fu s1 (nI (m + 1) + (-1)) else (wt_cl (gX8_toCaller 11 s1) fun _ s1 => gX0_markWords_18 (11 + 17 + 2 * t) fu s1 (nI (m + 1) + (-1)))) := by
      rw [gX0_markWords_18, if_neg (by rw [nI_int (by omega), ci0]; omega), p2, c_frameWords hR.2.2.2.2.2 hj.1 f1, cl_some]
      exact d5
    have q1 : (1 : Int32).toInt = 1 := by decide
    rw [base, nI_pred2, nI_int (by omega), q1]
    by_cases c : m = 0
    · rw [if_pos (by omega)]
      obtain ⟨s', g1, g2, g3⟩ := ih fu s1 (fun t' j => P t' j ∨ (t' = t ∧ j = m)) (by omega) (by omega) hR1 (fun q => by omega) (fun j hj => by omega) d4
      exact ⟨s', g1, d1.trans g2, g3.imp (fun t' j _ _ => ⟨fun q => q.elim (fun q => Or.inl (Or.inl q)) (fun q => by
        by_cases e : j = m
        · exact Or.inl (Or.inr ⟨q.1, e⟩)
        · exact Or.inr ⟨q.1, by omega⟩), fun q => q.elim (fun q => q.elim Or.inl (fun q => Or.inr ⟨q.1, by omega⟩)) (fun q => Or.inr ⟨q.1, by omega⟩)⟩)⟩
    · rw [if_neg (by omega)]
      obtain ⟨k, rfl⟩ : ∃ k, m = k + 1 := ⟨m - 1, by omega⟩
      obtain ⟨s2, e1, e2, e3, e4, -⟩ := c_toCaller (s0 := s1) (s := s1) (j := k) hR1 hj ht hmn (fun _ _ => rfl) (by show s1 27 1 = _; rw [congrFun d2 1]; exact p1)
      rw [e1, cl_some]
      have hF2 : FW s1 s2 := fun c a _ _ => e2 c a
      obtain ⟨s', g1, g2, g3⟩ := ih fu s2 (fun t' j => P t' j ∨ (t' = t ∧ j = k + 1)) (by omega) (by omega) (hR1.fw hF2) (fun _ => ⟨e3, e4⟩) (fun j hj q => q.elim (hPn j (by omega)) (fun q => by omega)) (d4.of (e2 72 (by omega)))
      exact ⟨s', g1, (d1.trans hF2).trans g2, g3.imp (fun t' j _ _ => ⟨fun q => q.elim (fun q => Or.inl (Or.inl q)) (fun q => by
        by_cases e : j = k + 1
        · exact Or.inl (Or.inr ⟨q.1, e⟩)
        · exact Or.inr ⟨q.1, by omega⟩), fun q => q.elim (fun q => q.elim Or.inl (fun q => Or.inr ⟨q.1, by omega⟩)) (fun q => Or.inr ⟨q.1, by omega⟩)⟩)⟩
theorem c_t4 (h : RC 11 2048 s V zs fr) (hI : VI 2048 B V) (ht : t < 6) : s (11 + 17 + 2 * t) 4 = nI (V.2.2.1 t) := by
  rw [show s (11 + 17 + 2 * t) 4 = V.1 (3954 + t) from h.at ht (e := (4, 3954)) (by decide)]
  exact hI.f54 ht
theorem c_markWords (h : RC 11 2048 s V zs fr) (hI : VI 2048 B V) (ht : t < 6) (hP : ∀ j, ¬ P t j) (hM : MW V s P) : ∃ s', gX0_markWords (11 + 17 + 2 * t) s = some ((), s') ∧ FW s s' ∧ MW V s' (fun t' j => P t' j ∨ t' = t) := by
  have hN := hI.n ht
  have go : ∀ s1 : wt_S, (∀ c, c ≠ 27 → s1 c = s c) → (0 < V.2.2.1 t → s1 27 1 = nI (vpl V t (V.2.2.1 t - 1)) ∧ s1 27 2 = nI (V.2.2.2 t (V.2.2.1 t - 1)).1) → gX8_toLast 11 (11 + 17 + 2 * t) s = some ((), s1) → ∃ s', gX0_markWords (11 + 17 + 2 * t) s = some ((), s') ∧ FW s s' ∧ MW V s' (fun t' j => P t' j ∨ t' = t) := fun s1 a2 a3 a1 => by
    have hF : FW s s1 := fun c b _ _ => a2 c b
    have hR1 := h.fw hF
    obtain ⟨s', g1, g2, g3⟩ := c_18 hI ht (V.2.2.1 t) wt_N s1 P (by unfold wt_N; omega) (Nat.le_refl _) hR1 a3 (fun j _ => hP j) (hM.of (a2 72 (by omega)))
    refine ⟨s', ?_, hF.trans g2, g3.imp (fun t' j a b => ⟨fun q => q.elim Or.inl (fun q => Or.inr ⟨q, by subst q; exact b⟩), fun q => q.elim Or.inl (fun q => Or.inr q.1)⟩)⟩
    unfold gX0_markWords
    rw [a1, cl_some, c_t4 hR1 hI ht, g1]
  by_cases c : 0 < V.2.2.1 t
  · obtain ⟨s1, a1, a2, a3, a4, -⟩ := c_toLast h hI ht c
    exact go s1 a2 (fun _ => ⟨a3, a4⟩) a1
  · obtain ⟨s1, a1, a2⟩ := c_last0 (s := s) (T := 11 + 17 + 2 * t)
    exact go s1 a2 (fun q => absurd q c) a1
/-- a frame lies well -/
theorem c_liesWell (h : RC 11 2048 s V zs fr) (hI : VI 2048 B V) (ht : t < 6) (hi : i < V.2.2.1 t) (h1 : s 27 1 = nI (vpl V t i)) (h2 : s 27 2 = nI (V.2.2.2 t i).1) (hM : ∀ x, x < vwd V.1 (V.2.2.2 t i).1 → s 72 (vpl V t i + x) = 1) : gX0_liesWell (11 + 17 + 2 * t) s = some (1, s) := by
  have hj := hI.J
  obtain ⟨f1, f2, f3⟩ := hj.fit ht hi
  obtain ⟨w1, w2⟩ := hj.1.wd f1
  have hb := (hI.bz ht (by omega)).1
  obtain ⟨np, z, z2, z3, k, l, hP, h0, -⟩ := hI.opn ht hb (by omega)
  obtain ⟨-, hc, -, -, -, -, -, -, -⟩ := hP
  obtain ⟨g1, g2⟩ := (hc.2.2.2.2.2.2.1 h0).1.1 i hi
  obtain ⟨q, q1, q2, q3, q4, q5, -⟩ := vget (hc.2.2.2.1.1 _ g1)
  obtain ⟨y, hy, rfl⟩ := h.mm q1
  obtain ⟨y1, y2, y3, y4⟩ := h.2.1.mem hy
  have hyo := (hj.2.1.2 y.1 q1).2.1
  have hv : vpl V t i = vat V.2.1 t (V.2.2.2 t i).2.1 + (V.2.2.2 t i).2.2.1 := rfl
  have hw2 : vwd V.1 (V.2.2.2 t i).1 = vsz V.1 (V.2.2.2 t i).1 + 2 := rfl
  have h00 : s (11 + 17 + 2 * t) 0 = nI t := (h.2.2.2.1 t ht).1.1
  have loop : ∀ (m x fu : Nat), x + m = vwd V.1 (V.2.2.2 t i).1 → m < fu → gX0_liesWell_94 (11 + 17 + 2 * t) fu s (nI (vpl V t i)) (nI (vwd V.1 (V.2.2.2 t i).1)) 1 (nI x) = some (1, s) := by
    intro m
    induction m with
    | zero =>
      intro x fu hx hfu
      obtain ⟨fu, rfl⟩ : ∃ m, fu = m + 1 := ⟨fu - 1, by omega⟩
      rw [gX0_liesWell_94, if_pos (by rw [nI_int (by omega), nI_int (by omega)]; omega)]
      exact if_pos (Or.inr rfl)
    | succ m ih =>
      intro x fu hx hfu
      obtain ⟨fu, rfl⟩ : ∃ m, fu = m + 1 := ⟨fu - 1, by omega⟩
      rw [gX0_liesWell_94, if_neg (by rw [nI_int (by omega), nI_int (by omega)]; omega), if_neg (by decide), nI_add, c_marksAt (by omega), cl_some, hM x (by omega), if_neg (fun q => q rfl)]
      unfold gX0_liesWell_123
      rw [show nI x + 1 = nI (x + 1) from nI_add x 1]
      exact ih (x + 1) fu (by omega) (by omega)
  unfold gX0_liesWell
  rw [h2, c_frameWords h.2.2.2.2.2 hj.1 f1, cl_some, h1, c_holding (p := vpl V t i) h.2.1 (by rw [h.1]; exact hj.2.1) (by omega) hy (by omega), cl_some, c_ownerOf y1, cl_some, y4, q2, h00, if_neg (fun q => q rfl), c_placeOf y1, cl_some, y2, nI_int (by omega), nI_int (by omega), if_neg (by omega), c_endOf y1, cl_some, y2, y3, nI_add, nI_add, nI_int (by omega), nI_int (by omega), if_neg (by omega)]
  unfold gX0_liesWell_89
  exact loop (vwd V.1 (V.2.2.2 t i).1) 0 wt_N (by omega) (by unfold wt_N; omega)
theorem c_90 {K : wt_S → Int32 → Int32 → Int32 → Option (Int32 × wt_S)} {l1 l3 : Int32} (hI : VI 2048 B V) (ht : t < 6) : ∀ (m fu : Nat) (s : wt_S), m < fu → m ≤ V.2.2.1 t → RC 11 2048 s V zs fr → (0 < m → s 27 1 = nI (vpl V t (m - 1)) ∧ s 27 2 = nI (V.2.2.2 t (m - 1)).1) → MW V s (fun _ _ => True) → ∃ s', FW s s' ∧ MW V s' (fun _ _ => True) ∧ gX0_wrongFrames_90 K fu s l1 l3 (nI t) (11 + 17 + 2 * t) (nI m) = K s' l1 l3 (nI t + 1) := by
  have hj := hI.J
  have hN := hI.n ht
  have q1 : (1 : Int32).toInt = 1 := by decide
  intro m
  induction m with
  | zero =>
    intro fu s hfu hm hR hp hM
    obtain ⟨fu, rfl⟩ : ∃ m, fu = m + 1 := ⟨fu - 1, by omega⟩
    refine ⟨s, FW.refl, hM, ?_⟩
    rw [gX0_wrongFrames_90, if_pos (by decide)]
  | succ m ih =>
    intro fu s hfu hm hR hp hM
    obtain ⟨fu, rfl⟩ : ∃ m, fu = m + 1 := ⟨fu - 1, by omega⟩
    obtain ⟨p1, p2⟩ := hp (Nat.succ_pos m)
    rw [Nat.add_sub_cancel] at p1 p2
    have hmn : m < V.2.2.1 t := by omega
    rw [gX0_wrongFrames_90, if_neg (by rw [nI_int (by omega), ci0]; omega), c_liesWell hR hI ht hmn p1 p2 (fun x hx => (hM t m ht hmn x hx).1 trivial), cl_some, if_neg (by decide)]
    unfold gX0_wrongFrames_110
    rw [Int32.add_zero, nI_pred2, nI_int (by omega), q1]
    by_cases c : m = 0
    · rw [if_pos (by omega)]
      exact ih fu s (by omega) (by omega) hR (fun q => by omega) hM
    · rw [if_neg (by omega)]
      obtain ⟨k, rfl⟩ : ∃ k, m = k + 1 := ⟨m - 1, by omega⟩
      obtain ⟨s2, e1, e2, e3, e4, -⟩ := c_toCaller (s0 := s) (s := s) (j := k) hR hj ht hmn (fun _ _ => rfl) p1
      have hF2 : FW s s2 := fun c a _ _ => e2 c a
      obtain ⟨s', g1, g2, g3⟩ := ih fu s2 (by omega) (by omega) (hR.fw hF2) (fun _ => ⟨e3, e4⟩) (hM.of (e2 72 (by omega)))
      rw [e1, cl_some]
      exact ⟨s', hF2.trans g1, g2, g3⟩
theorem c_59 (hI : VI 2048 B V) {l1 : Int32} : ∀ (m t fu : Nat) (s : wt_S), t + m = 6 → m < fu → RC 11 2048 s V zs fr → MW V s (fun _ _ => True) → ∃ s', gX0_wrongFrames_59 fu s l1 6 (nI t) = some (l1, s') ∧ FW s s' := by
  intro m
  induction m with
  | zero =>
    intro t fu s ht hfu hR hM
    obtain ⟨fu, rfl⟩ : ∃ m, fu = m + 1 := ⟨fu - 1, by omega⟩
    refine ⟨s, ?_, FW.refl⟩
    rw [gX0_wrongFrames_59, if_pos (by rw [nI_int (by omega)]; show (6 : Int) ≤ _; omega)]
  | succ m ih =>
    intro t fu s ht hfu hR hM
    obtain ⟨fu, rfl⟩ : ∃ m, fu = m + 1 := ⟨fu - 1, by omega⟩
    have ht6 : t < 6 := by omega
    have hN := hI.n ht6
    have go : ∀ s1 : wt_S, (∀ c, c ≠ 27 → s1 c = s c) → (0 < V.2.2.1 t → s1 27 1 = nI (vpl V t (V.2.2.1 t - 1)) ∧ s1 27 2 = nI (V.2.2.2 t (V.2.2.1 t - 1)).1) → gX8_toLast 11 (11 + 17 + 2 * t) s = some ((), s1) → ∃ s', gX0_wrongFrames_59 (fu + 1) s l1 6 (nI t) = some (l1, s') ∧ FW s s' := fun s1 a2 a3 a1 => by
      have hF : FW s s1 := fun c b _ _ => a2 c b
      have hR1 := hR.fw hF
      obtain ⟨s2, g1, g2, g3⟩ := c_90 (K := gX0_wrongFrames_59 fu) (l1 := l1) (l3 := 6) hI ht6 (V.2.2.1 t) wt_N s1 (by unfold wt_N; omega) (Nat.le_refl _) hR1 a3 (hM.of (a2 72 (by omega)))
      obtain ⟨s', d1, d2⟩ := ih (t + 1) fu s2 (by omega) (by omega) (hR1.fw g1) g2
      refine ⟨s', ?_, (hF.trans g1).trans d2⟩
      rw [gX0_wrongFrames_59, if_neg (by rw [nI_int (by omega)]; show ¬ (6 : Int) ≤ _; omega), ix_nI ht6 (by omega), a1, cl_some, c_t4 hR1 hI ht6, g3, show nI t + 1 = nI (t + 1) from nI_add t 1, d1]
    by_cases c : 0 < V.2.2.1 t
    · obtain ⟨s1, a1, a2, a3, a4, -⟩ := c_toLast hR hI ht6 c
      exact go s1 a2 (fun _ => ⟨a3, a4⟩) a1
    · obtain ⟨s1, a1, a2⟩ := c_last0 (s := s) (T := 11 + 17 + 2 * t)
      exact go s1 a2 (fun q => absurd q c) a1
theorem c_21 (hI : VI 2048 B V) : ∀ (m t fu : Nat) (s : wt_S), t + m = 6 → m < fu → RC 11 2048 s V zs fr → MW V s (fun t' _ => t' < t) → ∃ s', gX0_wrongFrames_21 fu s 6 (nI t) = some (0, s') ∧ FW s s' := by
  intro m
  induction m with
  | zero =>
    intro t fu s ht hfu hR hM
    obtain ⟨fu, rfl⟩ : ∃ m, fu = m + 1 := ⟨fu - 1, by omega⟩
    rw [gX0_wrongFrames_21, if_pos (by rw [nI_int (by omega)]; show (6 : Int) ≤ _; omega)]
    exact c_59 hI 6 0 wt_N s (by omega) (by unfold wt_N; omega) hR (hM.imp (fun t' j a b => ⟨fun _ => by omega, fun _ => trivial⟩))
  | succ m ih =>
    intro t fu s ht hfu hR hM
    obtain ⟨fu, rfl⟩ : ∃ m, fu = m + 1 := ⟨fu - 1, by omega⟩
    have ht6 : t < 6 := by omega
    obtain ⟨s1, a1, a2, a3⟩ := c_markWords hR hI ht6 (P := fun t' _ => t' < t) (fun j => Nat.lt_irrefl t) hM
    obtain ⟨s', d1, d2⟩ := ih (t + 1) fu s1 (by omega) (by omega) (hR.fw a2) (a3.imp (fun t' j a b => ⟨fun q => by
      by_cases e : t' = t
      · exact Or.inr e
      · exact Or.inl (by omega), fun q => q.elim (fun q => by omega) (fun q => by omega)⟩))
    refine ⟨s', ?_, a2.trans d2⟩
    rw [gX0_wrongFrames_21, if_neg (by rw [nI_int (by omega)]; show ¬ (6 : Int) ≤ _; omega), ix_nI ht6 (by omega), a1, cl_some, show nI t + 1 = nI (t + 1) from nI_add t 1, d1]
theorem c_fill72 : ∃ s', gJ7_fill_53178 72 2048 s 0 = some ((), s') ∧ (∀ c, c ≠ 72 → s' c = s c) ∧ ∀ p, p < 2048 → s' 72 p = 0 := by
  have loop : ∀ (m k fu : Nat) (s1 : wt_S), k + m = 2048 → m < fu → (∀ c, c ≠ 72 → s1 c = s c) → (∀ p, p < k → s1 72 p = 0) → ∃ s', gJ7_fill_53178_5 72 2048 fu s1 0 (nI k) (nI 2048) = some ((), s') ∧ (∀ c, c ≠ 72 → s' c = s c) ∧ ∀ p, p < 2048 → s' 72 p = 0 := by
    intro m
    induction m with
    | zero =>
      intro k fu s1 hk hfu h1 h2
      obtain ⟨fu, rfl⟩ : ∃ m, fu = m + 1 := ⟨fu - 1, by omega⟩
      obtain rfl : k = 2048 := by omega
      rw [gJ7_fill_53178_5, if_pos (by decide)]
      exact ⟨s1, rfl, h1, h2⟩
    | succ m ih =>
      intro k fu s1 hk hfu h1 h2
      obtain ⟨fu, rfl⟩ : ∃ m, fu = m + 1 := ⟨fu - 1, by omega⟩
      rw [gJ7_fill_53178_5, if_neg (by rw [nI_int (by omega), nI_int (by omega)]; omega), ix_nI (by omega) (by omega), wr_eq, show nI k + 1 = nI (k + 1) from nI_add k 1]
      refine ih (k + 1) fu _ (by omega) (by omega) (fun c hc => by rw [wt_u_ne hc]; exact h1 c hc) (fun p hp => ?_)
      by_cases e : p = k
      · subst e; rw [wt_u_self]
      · rw [wt_u_nk e]; exact h2 p (by omega)
  exact loop 2048 0 wt_N s (by omega) (by unfold wt_N; omega) (fun _ _ => rfl) (fun p hp => by omega)
theorem c_wrongFrames (h : RC 11 2048 s V zs fr) (hI : VI 2048 B V) : ∃ s', gX0_wrongFrames s = some (0, s') ∧ FW s s' := by
  obtain ⟨s1, a1, a2, a3⟩ := c_fill72 (s := s)
  have hF : FW s s1 := fun c _ _ b => a2 c b
  obtain ⟨s', d1, d2⟩ := c_21 hI 6 0 wt_N s1 (by omega) (by unfold wt_N; omega) (h.fw hF) (fun t' j a b x hx => ⟨fun q => by omega, fun _ => a3 _ (by have := (hI.J.fit a b).2.2; omega)⟩)
  refine ⟨s', ?_, hF.trans d2⟩
  unfold gX0_wrongFrames
  rw [a1, cl_some]
  exact d1
end
end
section
/-! ===== the class: no place is wrong ===== -/
/-- the guard stands at a frame -/
def GW (V : vV) (zs : List (vP × Nat)) (s : wt_S) (t i : Nat) : Prop := s 71 3 = nI (vpl V t i) ∧ s 71 4 = nI (V.2.2.2 t i).1 ∧ ∃ y ∈ zs, y.1.2.2.1 = t ∧ y.1.2.2.2 = (V.2.2.2 t i).2.1 ∧ s 71 2 = nI y.2
/-- the marks of number slots of a task -/
def MN (V : vV) (s : wt_S) (t : Nat) (P : Nat → Nat → Prop) : Prop := ∀ j, j < V.2.2.1 t → ∀ k, k < vsz V.1 (V.2.2.2 t j).1 → ¬ bt (V.1 (2238 + (V.2.2.2 t j).1)) k → (P j k → s 72 (vpl V t j + 2 + k) = 1) ∧ (¬ P j k → s 72 (vpl V t j + 2 + k) = 0)
section
variable {s s0 s1 s' : wt_S} {V : vV} {t i j n p B e : Nat} {zs : List (vP × Nat)} {fr : List Nat}
theorem GW.of (h : GW V zs s t i) (e : s' 71 = s 71) : GW V zs s' t i := by
  unfold GW
  rw [e]
  exact h
theorem c_61 (h : RC 11 2048 s V zs fr) (hj : VJ 2048 V) (ht : t < 6) (hi : j + 1 < V.2.2.1 t) (h3 : s 71 3 = nI (vpl V t (j + 1))) (he : e = vpl V t j + vwd V.1 (V.2.2.2 t j).1) : ∃ s', gX0_goToCaller_61 s (nI e) = some ((), s') ∧ (∀ c, c ≠ 71 → s' c = s c) ∧ s' 71 3 = nI (vpl V t j) ∧ s' 71 4 = nI (V.2.2.2 t j).1 ∧ s' 71 2 = s 71 2 := by
  obtain ⟨np, -, -, a3⟩ := hj.geo ht (by omega)
  have hfit := (hj.fit ht hi).2.2
  have hfj := hj.fit ht (show j < V.2.2.1 t by omega)
  unfold vwd at hfit
  obtain ⟨w1, w2, -⟩ := (h.2.2.2.2.1 t ht (j + 1) hi).2
  obtain ⟨b1, b2, -⟩ := a3.2.2.1 j hi
  obtain ⟨-, -, -, -, bb5⟩ := bk_at b1
  have hm := mz11
  have hF : ∀ v : Int32, RP 5 (wt_u s 71 4 v) V.1 := fun v => h.2.2.2.2.2.eq hj.1 vpe.refl (fun c c1 c2 => wt_u_ne (by omega))
  unfold gX0_goToCaller_61
  rw [h3, show nI (vpl V t (j + 1)) + 1 = nI (vpl V t (j + 1) + 1) from nI_add _ 1, c_word (by omega), cl_some, wr_eq, w2, bb5, b2, wt_u_self, c_frameWords (hF _) hj.1 hfj.1, cl_some, wr_eq, nI_sub (by omega)]
  refine ⟨_, rfl, fun c hc => by rw [wt_u_ne hc, wt_u_ne hc], ?_, ?_, ?_⟩
  · rw [wt_u_self, show e - vwd V.1 (V.2.2.2 t j).1 = vpl V t j by omega]
  · rw [wt_u_nk (by omega), wt_u_self]
  · rw [wt_u_nk (by omega), wt_u_nk (by omega)]
theorem c_goToCaller (h : RC 11 2048 s V zs fr) (hI : VI 2048 B V) (ht : t < 6) (hi : j + 1 < V.2.2.1 t) (hg : GW V zs s t (j + 1)) : ∃ s', gX0_goToCaller s = some ((), s') ∧ (∀ c, c ≠ 71 → s' c = s c) ∧ GW V zs s' t j := by
  have hj := hI.J
  obtain ⟨g3, g4, y, hy, y1, y2, g2⟩ := hg
  obtain ⟨m1, m2, m3, m4⟩ := h.2.1.mem hy
  have hps : y.1 ∈ V.2.1 := by rw [← h.1]; exact List.mem_map.mpr ⟨y, hy, rfl⟩
  have hb := (hI.bz ht (show 0 < V.2.2.1 t by omega)).1
  obtain ⟨np, z, z2, z3, k, l, hP, h0, -⟩ := hI.opn ht hb (by omega)
  obtain ⟨-, hc, -, -, -, -, -, -, -⟩ := hP
  have hgeo := (hc.2.2.2.2.2.2.1 h0).1
  have hjn : j < V.2.2.1 t := by omega
  have hwj := (hj.1.wd (hj.fit ht hjn).1).1
  have vat_of : ∀ w ∈ zs, w.1.2.2.1 = t → vat V.2.1 t w.1.2.2.2 = w.1.1 := fun w hw hwt => by
    have hwp : w.1 ∈ V.2.1 := by rw [← h.1]; exact List.mem_map.mpr ⟨w, hw, rfl⟩
    obtain ⟨q, q1, q2, q3, q4, -⟩ := vget ⟨w.1, hwp, hwt, rfl⟩
    rw [q4, vuniq hj.2.2.1 q q1 w.1 hwp (q2.trans hwt.symm) q3]
  have hv1 : vpl V t (j + 1) = y.1.1 + (V.2.2.2 t (j + 1)).2.2.1 := by
    unfold vpl
    rw [← y2, vat_of y hy y1]
  have hyo := (hj.2.1.2 y.1 hps).2.1
  have hfit := (hj.fit ht hi).2.2
  unfold gX0_goToCaller
  rw [g2, c_placeOf m1, cl_some, m2, g3]
  rcases hgeo.2.2 j hi with ⟨e1, e2⟩ | ⟨e1, e2⟩
  · have hv0 : vpl V t j = y.1.1 + (V.2.2.2 t j).2.2.1 := by
      unfold vpl
      rw [← e1, ← y2, vat_of y hy y1]
    have hne : nI (vpl V t (j + 1)) ≠ nI y.1.1 := fun q => by
      have := (nI_inj (by omega) (by omega)).mp q
      have hp : 1 ≤ vwd V.1 (V.2.2.2 t j).1 := by unfold vwd; omega
      omega
    rw [if_pos hne]
    obtain ⟨s', d1, d2, d3, d4, d5⟩ := c_61 (e := vpl V t (j + 1)) h hj ht hi g3 (by omega)
    exact ⟨s', d1, d2, d3, d4, y, hy, y1, y2.trans e1, d5.trans g2⟩
  · have hv : vpl V t (j + 1) = y.1.1 := by rw [hv1, e2, Nat.add_zero]
    obtain ⟨q, q1, q2, q3⟩ := hc.2.2.2.1.1 _ (hgeo.1 j hjn).1
    obtain ⟨w, hw, rfl⟩ := h.mm q1
    obtain ⟨n1, n2, n3, n4⟩ := h.2.1.mem hw
    have hwo := (hj.2.1.2 w.1 q1).2.1
    have hbel : s (11 + 6) y.2 = nI w.2 := ((h.2.2.2.1 t ht).2.2.2.2.2 y hy y1).2.2 w hw q2 (by rw [y2, e1, q3])
    have hus : s (11 + 5) w.2 = nI (vud V.1 (V.2.2.2 t) w.1.2.2.2 (V.2.2.1 t)) := ((h.2.2.2.1 t ht).2.2.2.2.2 w hw q2).1
    have hud : vud V.1 (V.2.2.2 t) w.1.2.2.2 (V.2.2.1 t) = (V.2.2.2 t j).2.2.1 + vwd V.1 (V.2.2.2 t j).1 := by
      rw [q3, vud_eq (j := j + 1) (by omega) (fun i i1 i2 => ?_)]
      · exact hgeo.ud j hjn
      · by_cases ei : i = j + 1
        · subst ei; omega
        · rcases hgeo.lt (i := j + 1) (j := i) (by omega) i2 with g | g <;> omega
    have hv0 : vpl V t j = w.1.1 + (V.2.2.2 t j).2.2.1 := by
      unfold vpl
      rw [← q3, vat_of w hw q2]
    rw [if_neg (fun q => q (by rw [hv])), g2, c_belowOf m1, cl_some, hbel, if_neg (nI_nm (by omega)), g2, c_belowOf m1, cl_some, hbel, wr_eq, wt_u_self]
    have hF : FW s (wt_u s 71 2 (nI w.2)) := fun c _ c2 _ => wt_u_ne c2
    have hR2 := h.fw hF
    obtain ⟨s', d1, d2, d3, d4, d5⟩ := c_61 (e := w.1.1 + ((V.2.2.2 t j).2.2.1 + vwd V.1 (V.2.2.2 t j).1)) hR2 hj ht hi (by rw [wt_u_nk (by omega)]; exact g3) (by omega)
    rw [c_topOf n1, cl_some, wt_u_ne (by omega), wt_u_ne (by omega), n2, hus, hud, nI_add, d1]
    exact ⟨s', rfl, fun c hc => by rw [d2 c hc, wt_u_ne hc], d3, d4, w, hw, q2, q3, by rw [d5, wt_u_self]⟩
theorem c_glast0 {T : Nat} : ∃ s', gX0_goToLast T s = some ((), s') ∧ ∀ c, c ≠ 71 → s' c = s c := by
  unfold gX0_goToLast
  rw [wr_eq, wr_eq, wr_eq]
  exact ⟨_, rfl, fun c hc => by rw [wt_u_ne hc, wt_u_ne hc, wt_u_ne hc]⟩
theorem c_goToLast (h : RC 11 2048 s V zs fr) (hI : VI 2048 B V) (ht : t < 6) (hn : 0 < V.2.2.1 t) : ∃ s', gX0_goToLast (11 + 17 + 2 * t) s = some ((), s') ∧ (∀ c, c ≠ 71 → s' c = s c) ∧ GW V zs s' t (V.2.2.1 t - 1) := by
  obtain ⟨-, n, np, e0, c2, c3, c4, c5, -, -, c8, -, -, c11, c12, -⟩ := hI.bz ht hn
  have k1 := (h.2.2.2.1 t ht).2.1.2 hn
  have k9 : s (11 + 17 + 2 * t) 9 = V.1 (3975 + t) := h.at ht (e := (9, 3975)) (by decide)
  obtain ⟨q, q1, q2, q3⟩ := c5.1 (np - 1) (by omega)
  obtain ⟨y, hy, rfl⟩ := h.mm q1
  have k12 := (h.2.2.2.1 t ht).2.2.1.2 y hy q2 (by rw [q3, c3, show np - 1 + 1 = np by omega])
  unfold gX0_goToLast
  rw [wr_eq, wr_eq, wr_eq]
  have et : ∀ (s : wt_S) k v, (wt_u s 71 k v) (11 + 17 + 2 * t) = s (11 + 17 + 2 * t) := fun s k v => wt_u_ne (by omega)
  simp only [et]
  rw [k12, k1.2, k9, c12]
  refine ⟨_, rfl, fun c hc => by rw [wt_u_ne hc, wt_u_ne hc, wt_u_ne hc], ?_, ?_, y, hy, q2, ?_, ?_⟩
  · rw [wt_u_nk (by omega), wt_u_self]
  · rw [wt_u_self, e0, Nat.add_sub_cancel]
  · rw [q3, e0, Nat.add_sub_cancel, c8]
  · rw [wt_u_nk (by omega), wt_u_nk (by omega), wt_u_self]
theorem MN.of (h : MN V s t (fun j k => p < j)) (e : s' 72 = s 72) : MN V s' t (fun j k => p < j) := fun j a k b c => by rw [e]; exact h j a k b c
/-- the numbers of a frame are marked -/
theorem c_m16 {T : Nat} {K : wt_S → Int32 → Option (Unit × wt_S)} (hI : VI 2048 B V) (ht : t < 6) (hi : i < V.2.2.1 t) : ∀ (m k fu : Nat) (s : wt_S), k + m = vsz V.1 (V.2.2.2 t i).1 → m < fu → RC 11 2048 s V zs fr → GW V zs s t i → MN V s t (fun j k' => i < j ∨ (j = i ∧ k' < k)) →
    ∃ s', FW s s' ∧ s' 71 = s 71 ∧ MN V s' t (fun j _ => i ≤ j) ∧ gX0_markNumbers_16 T K fu s (nI (i + 1)) (nI k) = (if (nI (i + 1)).toInt ≤ (1 : Int32).toInt then K s' (nI (i + 1) + (-1)) else (wt_cl (gX0_goToCaller s') fun _ s3 => K s3 (nI (i + 1) + (-1)))) := by
  have hj := hI.J
  obtain ⟨f1, f2, f3⟩ := hj.fit ht hi
  have hz := (hj.1.sz f1)
  unfold vwd at f3
  intro m
  induction m with
  | zero =>
    intro k fu s hk hfu hR hg hM
    obtain ⟨fu, rfl⟩ : ∃ m, fu = m + 1 := ⟨fu - 1, by omega⟩
    obtain ⟨g3, g4, -⟩ := id hg
    refine ⟨s, FW.refl, rfl, fun j a k' b c => ?_, ?_⟩
    · refine ⟨fun q => (hM j a k' b c).1 ?_, fun q => (hM j a k' b c).2 (fun p => q (by rcases p with p | p <;> omega))⟩
      by_cases e : j = i
      · subst e
        exact Or.inr ⟨rfl, by omega⟩
      · exact Or.inl (by have q : i ≤ j := q; omega)
    · rw [gX0_markNumbers_16, g4, c_sizeOf hR.2.2.2.2.2 f1, cl_some, hz.1, if_pos (by rw [nI_int (by omega), nI_int (by omega)]; omega)]
  | succ m ih =>
    intro k fu s hk hfu hR hg hM
    obtain ⟨fu, rfl⟩ : ∃ m, fu = m + 1 := ⟨fu - 1, by omega⟩
    obtain ⟨g3, g4, -⟩ := id hg
    rw [gX0_markNumbers_16, g4, c_sizeOf hR.2.2.2.2.2 f1, cl_some, hz.1, if_neg (by rw [nI_int (by omega), nI_int (by omega)]; omega), g4, c_isPointer hR.2.2.2.2.2 f1, cl_some, if_rbn, show nI k + 1 = nI (k + 1) from nI_add k 1]
    by_cases cb : bt (V.1 (2238 + (V.2.2.2 t i).1)) k
    · rw [if_pos cb]
      exact ih (k + 1) fu s (by omega) (by omega) hR hg (fun j a k' b c => by
        have hne : ¬ (j = i ∧ k' = k) := fun q => by
          obtain ⟨q1, q2⟩ := q
          subst q1
          subst q2
          exact c cb
        refine ⟨fun q => (hM j a k' b c).1 ?_, fun q => (hM j a k' b c).2 (fun p => q ?_)⟩
        · rcases q with q | q
          · exact Or.inl q
          · exact Or.inr ⟨q.1, by omega⟩
        · rcases p with p | p
          · exact Or.inl p
          · exact Or.inr ⟨p.1, by omega⟩)
    · rw [if_neg cb, g3, show nI (vpl V t i) + 2 = nI (vpl V t i + 2) from nI_add _ 2, nI_add, c_mark (by omega), cl_some]
      have h0 : s 72 (vpl V t i + 2 + k) = 0 := (hM i hi k (by omega) cb).2 (fun q => by rcases q with q | q <;> omega)
      obtain ⟨s', d1, d2, d3, d4⟩ := ih (k + 1) fu (wt_u s 72 (vpl V t i + 2 + k) (s 72 (vpl V t i + 2 + k) + 1)) (by omega) (by omega) (hR.fw (fun c _ _ c3 => wt_u_ne c3)) (hg.of (wt_u_ne (by omega))) (fun j a k' b c => by
        by_cases e : j = i ∧ k' = k
        · obtain ⟨q1, q2⟩ := e
          subst q1
          subst q2
          refine ⟨fun _ => ?_, fun q => absurd (Or.inr ⟨rfl, by omega⟩) q⟩
          rw [wt_u_self, h0]
          rfl
        · have hne : vpl V t j + 2 + k' ≠ vpl V t i + 2 + k := fun q => by
            by_cases ej : j = i
            · subst ej
              exact e ⟨rfl, by omega⟩
            · have hdj := hj.dj ht ht a hi (fun q => ej q.2)
              unfold vwd at hdj
              omega
          rw [wt_u_nk hne]
          refine ⟨fun q => (hM j a k' b c).1 ?_, fun q => (hM j a k' b c).2 (fun p => q ?_)⟩
          · rcases q with q | q
            · exact Or.inl q
            · exact Or.inr ⟨q.1, by omega⟩
          · rcases p with p | p
            · exact Or.inl p
            · exact Or.inr ⟨p.1, by omega⟩)
      exact ⟨s', FW.trans (fun c _ _ c3 => wt_u_ne c3) d1, d2.trans (wt_u_ne (by omega)), d3, d4⟩
end
end
