section
/-! ===== no step changes what is set, nor whose pieces there are (made out of c0.keep by wip/p2/mk_f2.py) ===== -/
def PF8 (t : Nat) (ps ps' : List vP) : Prop := ∀ q ∈ ps', q.2.2.1 = t ∨ ∃ p ∈ ps, p.2.2.1 = q.2.2.1
theorem PF8.refl {t : Nat} {ps : List vP} : PF8 t ps ps := fun q hq => Or.inr ⟨q, hq, rfl⟩
theorem PF8.trans {t : Nat} {ps ps' ps2 : List vP} (h : PF8 t ps ps') (h' : PF8 t ps' ps2) : PF8 t ps ps2 := fun q hq => by
  rcases h' q hq with e | ⟨p, p1, p2⟩
  · exact Or.inl e
  · rcases h p p1 with e | ⟨x, x1, x2⟩
    · exact Or.inl (p2.symm.trans e)
    · exact Or.inr ⟨x, x1, x2.trans p2⟩
theorem PF8.flt {t : Nat} {ps : List vP} {P : vP → Bool} : PF8 t ps (ps.filter P) := fun q hq => Or.inr ⟨q, (List.mem_filter.mp hq).1, rfl⟩
theorem PF8.ren {t n n' : Nat} {ps : List vP} : PF8 t ps (ps.map (fun p => if vkey t n p then (p.1, p.2.1, p.2.2.1, n') else p)) := fun q hq => by
  obtain ⟨p, p1, p2⟩ := List.mem_map.mp hq
  refine Or.inr ⟨p, p1, ?_⟩
  rw [← p2]
  split <;> rfl
theorem PF8.ins {t a b n : Nat} {ps ps' : List vP} (h : PF8 t ps ps') : PF8 t ps (vins (a, b, t, n) ps') := fun q hq => by
  rcases vins_mem.mp hq with e | e
  · exact Or.inl (by rw [e])
  · exact h q e
def K8 (t : Nat) (V V' : vV) : Prop := ((∀ j, 2048 ≤ j → j ≤ 2053 → V'.1 j = V.1 j) ∧ PF8 t V.2.1 V'.2.1) ∧ Sd t V'
section
variable {t lim : Nat} {V V1 V2 : vV}
theorem K8.refl (h : Sd t V) : K8 t V V := ⟨⟨fun _ _ _ => rfl, PF8.refl⟩, h⟩
theorem K8.trans (h : K8 t V V1) (h' : K8 t V1 V2) : K8 t V V2 := ⟨⟨fun j a b => (h'.1.1 j a b).trans (h.1.1 j a b), h.1.2.trans h'.1.2⟩, h'.2⟩
theorem k8_vs {i : Nat} {v : Int32} (h : Sd t V) (hi : (i < 2048 ∨ 2053 < i) ∧ i ≠ 3989 + t) : K8 t V (vs V i v) := ⟨⟨fun j a b => vs_ne (by omega), PF8.refl⟩, by unfold Sd; rw [vs_ne (by omega)]; exact h⟩
theorem k8_m1 : K8 t V (vs V (3989 + t) (-1)) := ⟨⟨fun j a b => vs_ne (by omega), PF8.refl⟩, Or.inl vs_at⟩
theorem k8_sa (h : Sd t V) (e : V1.1 = V.1) (ep : PF8 t V.2.1 V1.2.1) : K8 t V V1 := ⟨⟨fun j a b => by rw [e], ep⟩, by unfold Sd; rw [e]; exact h⟩
theorem k8_same (h : Sd t V) (e : V1.1 = V.1) (ep : V1.2.1 = V.2.1) : K8 t V V1 := k8_sa h e (by rw [ep]; exact PF8.refl)
theorem K8.s {i : Nat} {v : Int32} (h : K8 t V V1) (hi : (i < 2048 ∨ 2053 < i) ∧ i ≠ 3989 + t) : K8 t V (vs V1 i v) := h.trans (k8_vs h.2 hi)
theorem K8.p {ps : List vP} (h : K8 t V V1) (hp : PF8 t V1.2.1 ps) : K8 t V (vps V1 ps) := h.trans (k8_sa h.2 rfl hp)
theorem K8.n {n : Nat} (h : K8 t V V1) : K8 t V (vnf V1 t n) := h.trans (k8_same h.2 rfl rfl)
theorem K8.c {k : Nat} {v : Int32} (h : K8 t V V1) (hk : k < 12) : K8 t V (vcn V1 k v) := h.trans (k8_vs h.2 (by omega))
theorem K8.l (h : K8 t V V1) : K8 t V (vlg1 V1) := h.trans (k8_vs h.2 (by omega))
theorem K8.i {i : Nat} (h : K8 t V V1) (hi : (i < 2048 ∨ 2053 < i) ∧ i ≠ 3989 + t) : K8 t V (vinc V1 i) := h.trans (k8_vs h.2 hi)
theorem k8_ga (h : Sd t V) : K8 t V (vga V t) := by
  unfold vga
  dsimp only
  have h1 : K8 t V (if V.1 (3989 + t) = -1 then vps V (V.2.1.filter (fun q => decide (q.2.2.1 ≠ t))) else vs (vps V (V.2.1.filter (fun q => decide (q.2.2.1 ≠ t)))) (3923 + (V.1 (3989 + t)).toInt.toNat) (-1)) := by
    split
    · exact k8_sa h rfl PF8.flt
    · rename_i c
      obtain ⟨k, k1, k2⟩ := h.resolve_left c
      rw [k2, nI_int (by omega), Int.toNat_natCast]
      exact (k8_sa (V1 := vps V (V.2.1.filter (fun q => decide (q.2.2.1 ≠ t)))) h rfl PF8.flt).trans (k8_vs (V := vps V (V.2.1.filter (fun q => decide (q.2.2.1 ≠ t)))) h (by omega))
  exact K8.s (K8.s (K8.n (K8.s (K8.s (K8.s (h1.trans k8_m1) (by omega)) (by omega)) (by omega))) (by omega)) (by omega)
theorem k8_lg (h : Sd t V) : K8 t V (vlg1 V) := k8_vs h (by omega)
theorem k8_cn {k : Nat} {v : Int32} (h : Sd t V) (hk : k < 12) : K8 t V (vcn V k v) := k8_vs h (by omega)
theorem k8_inc {i : Nat} (h : Sd t V) (hi : (i < 2048 ∨ 2053 < i) ∧ i ≠ 3989 + t) : K8 t V (vinc V i) := k8_vs h hi
theorem k8_out (h : Sd t V) : K8 t V (vot V t) := by
  unfold vot
  have h1 := k8_ga h
  have h2 := h1.trans (k8_vs (i := 3926 + t) (v := 4) h1.2 (by omega))
  have h3 := h2.trans (k8_cn (k := 1) (v := 1) h2.2 (by omega))
  exact h3.trans (k8_lg h3.2)
theorem k8_sp (h : Sd t V) : K8 t V (vsp V t) := by
  unfold vsp
  split
  · have h1 := k8_lg h
    exact h1.trans (k8_sa h1.2 rfl PF8.flt)
  · exact K8.refl h
theorem k8_mv {g words : Nat} (h : Sd t V) : K8 t V (vmv V t g words) := by
  unfold vmv
  dsimp only
  exact K8.c (K8.s (K8.p (K8.s (K8.refl h) (by omega)) (PF8.ins PF8.flt)) (by omega)) (by omega)
theorem k8_spl {need : Nat} (h : Sd t V) : K8 t V (vspl lim V t need).2 := by
  unfold vspl
  dsimp only
  split
  · exact K8.refl h
  · exact K8.i (K8.l (K8.c (K8.i (K8.p (K8.refl h) (PF8.ins PF8.refl)) (by omega)) (by omega))) (by omega)
theorem k8_gr {need : Nat} (h : Sd t V) : K8 t V (vgr lim V t need).2 := by
  unfold vgr
  split
  · dsimp only
    split
    · exact K8.refl h
    · exact K8.l (K8.c (K8.i (k8_mv h) (by omega)) (by omega))
  · split
    · split
      · exact K8.i (K8.l (K8.c (K8.i (K8.p (K8.refl h) PF8.ren) (by omega)) (by omega))) (by omega)
      · exact (k8_sp h).trans (k8_spl (k8_sp h).2)
    · exact k8_spl h
theorem k8_rm {f : Nat} (h : Sd t V) : K8 t V (vrm lim V t f).2 := by
  have h1 := k8_inc (i := 4003 + t) h (by omega)
  have h2 := h1.trans (k8_cn (k := 3) (v := 1) h1.2 (by omega))
  have h3 := h2.trans (k8_gr (lim := lim) (need := vnd V.1 f) h2.2)
  unfold vrm
  dsimp only
  split
  · exact h2
  · split
    · rename_i V2 e
      rw [e] at h3
      exact h3
    · rename_i V2 e
      rw [e] at h3
      exact h3.trans (k8_out h3.2)
theorem k8_pu {f bk : Nat} {a : Int32} {q : Option (Nat × Nat)} (h : Sd t V) : K8 t V (vpu V t f bk a q) := by
  obtain ⟨w1, -⟩ := vpu_w (V := V) (t := t) (f := f) (bk := bk) (a := a) (q := q)
  exact ⟨⟨fun j a b => w1 _ (by omega) (by omega) (by omega) (by omega) (by omega) (by omega), by rw [vpu_2]; exact PF8.refl⟩, by unfold Sd; rw [w1 _ (by omega) (by omega) (by omega) (by omega) (by omega) (by omega)]; exact h⟩
theorem k8_cl {f bk : Nat} {hh : Int32 × Option (Nat × Nat)} (h : Sd t V) : K8 t V (vcl lim V t f bk hh) := by
  have h3 := k8_rm (lim := lim) (f := f) h
  unfold vcl
  split
  · have h1 := k8_cn (k := 11) (v := 1) h (by omega)
    exact h1.trans (k8_pu h1.2)
  · split
    · rename_i V1 e
      rw [e] at h3
      exact h3.trans (k8_pu h3.2)
    · rename_i V1 e
      rw [e] at h3
      exact h3
theorem k8_fr {i : Nat} {F : vF} (h : Sd t V) : K8 t V (vfr V t i F) := k8_same h rfl rfl
theorem k8_nu {i k : Nat} {v : Int32} (h : Sd t V) : K8 t V (vnu V t i k v) := k8_same h rfl rfl
theorem k8_po {i k : Nat} {q : Option (Nat × Nat)} (h : Sd t V) : K8 t V (vpo V t i k q) := k8_same h rfl rfl
theorem k8_fv {words : Int32} (h : Sd t V) (hn : V.1 (3989 + t) ≠ -1) : K8 t V (vfv V t words) := by
  obtain ⟨k, k1, k2⟩ := h.resolve_left hn
  have h1 := k8_cn (k := 9) (v := 1) h (by omega)
  have h2 := h1.trans (k8_vs (i := 3996 + t) (v := V.1 (3996 + t) - words) h1.2 (by omega))
  unfold vfv
  dsimp only
  split
  · exact h2
  · rw [k2, nI_int (by omega), Int.toNat_natCast]
    exact (h2.trans (k8_vs (i := 3923 + k) (v := -1) h2.2 (by omega))).trans k8_m1
theorem k8_lv {F : vF} (h : Sd t V) : K8 t V (vlv V t F) := by
  unfold vlv
  split
  · exact K8.refl h
  · have h1 := k8_vs (i := 4066 + t) (v := V.1 (4066 + t) - 1) h (by omega)
    dsimp only
    split
    · have h2 := h1.trans (k8_lg h1.2)
      exact h2.trans (k8_sa h2.2 rfl PF8.flt)
    · have h2 := h1.trans (k8_sp h1.2)
      have h3 := h2.trans (k8_sa (V1 := vps (vsp (vs V (4066 + t) (V.1 (4066 + t) - 1)) t) ((vsp (vs V (4066 + t) (V.1 (4066 + t) - 1)) t).2.1.map (fun p => if vkey t F.2.1 p then (p.1, p.2.1, p.2.2.1, 1000) else p))) h2.2 rfl PF8.ren)
      exact h3.trans (k8_lg h3.2)
theorem k8_dn {Z : (Nat → Int32) → Int32 → Int32 → Int32 → Bool} {v : Int32} (h : Sd t V) : K8 t V (vdn Z V t v) := by
  have h1 := k8_vs (i := 3926 + t) (v := 3) h (by omega)
  have h2 := h1.trans (k8_vs (i := 3940 + t) (v := v) h1.2 (by omega))
  have h3 := h2.trans (k8_ga h2.2)
  have h4 := h3.trans (k8_cn (k := 0) (v := 1) h3.2 (by omega))
  have h5 := h4.trans (k8_lg h4.2)
  unfold vdn
  dsimp only
  split
  · exact h5.trans (k8_inc (i := 2066) h5.2 (by omega))
  · exact h5
theorem k8_rt {Z : (Nat → Int32) → Int32 → Int32 → Int32 → Bool} {v : Int32} (h : Sd t V) (hcb : 2048 ≤ (V.2.2.2 t (V.2.2.1 t - 1)).2.2.2.1 → V.1 (3989 + t) ≠ -1) : K8 t V (vrt Z V t v) := by
  have h1 := k8_vs (i := 3961 + t) (v := V.1 (3961 + t) - (V.1 (2228 + (V.2.2.2 t (V.2.2.1 t - 1)).1) + 2)) h (by omega)
  have h2 := h1.trans (k8_vs (i := 3954 + t) (v := V.1 (3954 + t) - 1) h1.2 (by omega))
  have h3 := h2.trans (k8_same (V1 := vnf (vs (vs V (3961 + t) (V.1 (3961 + t) - (V.1 (2228 + (V.2.2.2 t (V.2.2.1 t - 1)).1) + 2))) (3954 + t) (V.1 (3954 + t) - 1)) t (V.2.2.1 t - 1)) h2.2 rfl rfl)
  have e89 : (vnf (vs (vs V (3961 + t) (V.1 (3961 + t) - (V.1 (2228 + (V.2.2.2 t (V.2.2.1 t - 1)).1) + 2))) (3954 + t) (V.1 (3954 + t) - 1)) t (V.2.2.1 t - 1)).1 (3989 + t) = V.1 (3989 + t) := (vs_ne (by omega)).trans (vs_ne (by omega))
  unfold vrt
  dsimp only
  generalize vnf (vs (vs V (3961 + t) (V.1 (3961 + t) - (V.1 (2228 + (V.2.2.2 t (V.2.2.1 t - 1)).1) + 2))) (3954 + t) (V.1 (3954 + t) - 1)) t (V.2.2.1 t - 1) = V1 at *
  split
  · exact h3.trans (k8_dn h3.2)
  · have hlv : ∀ i, i = 3989 + t → (vlv V1 t (V.2.2.2 t (V.2.2.1 t - 1))).1 i = V1.1 i := fun i hi => by
      unfold vlv
      split
      · rfl
      · dsimp only
        split
        · show (vlg1 (vs V1 (4066 + t) (V1.1 (4066 + t) - 1))).1 i = _
          rw [vlg1_ne (by omega), vs_ne (by omega)]
        · rw [vlg1_ne (by omega)]
          show (vsp (vs V1 (4066 + t) (V1.1 (4066 + t) - 1)) t).1 i = _
          rw [vsp_w (by omega), vs_ne (by omega)]
    have h4 : K8 t V (if V.1 (3933 + t) = 1 then vlv V1 t (V.2.2.2 t (V.2.2.1 t - 1)) else V1) ∧ (if V.1 (3933 + t) = 1 then vlv V1 t (V.2.2.2 t (V.2.2.1 t - 1)) else V1).1 (3989 + t) = V.1 (3989 + t) := by
      split
      · exact ⟨h3.trans (k8_lv h3.2), (hlv _ rfl).trans e89⟩
      · exact ⟨h3, e89⟩
    generalize (if V.1 (3933 + t) = 1 then vlv V1 t (V.2.2.2 t (V.2.2.1 t - 1)) else V1) = V2 at *
    obtain ⟨h4, e4⟩ := h4
    have h5 := h4.trans (k8_vs (i := 3982 + t) (v := nI (vpl V2 t (V.2.2.1 t - 1 - 1))) h4.2 (by omega))
    have h6 := h5.trans (k8_vs (i := 3975 + t) (v := nI ((V.2.2.2 t (V.2.2.1 t - 1)).2.2.2.1 % 1024 / 32)) h5.2 (by omega))
    have h7 := h6.trans (k8_vs (i := 3968 + t) (v := nI ((V.2.2.2 t (V.2.2.1 t - 1)).2.2.2.1 % 32)) h6.2 (by omega))
    have h8 := h7.trans (k8_nu (i := V.2.2.1 t - 1 - 1) (k := (V.1 (vco ((V.2.2.2 t (V.2.2.1 t - 1)).2.2.2.1 % 1024 / 32) ((V.2.2.2 t (V.2.2.1 t - 1)).2.2.2.1 % 32 - 1) + 3)).toInt.toNat) (v := v) h7.2)
    split
    · rename_i c
      refine h8.trans (k8_fv h8.2 ?_)
      show (vs (vs (vs V2 (3982 + t) _) (3975 + t) _) (3968 + t) _).1 (3989 + t) ≠ -1
      rw [vs_ne (by omega), vs_ne (by omega), vs_ne (by omega), e4]
      exact hcb c
    · exact h8
theorem k8_sd (hz : (V.1 2052).toInt.toNat ≤ 3) (h : Sd t V) (e : vsd V t = some V1) : K8 t V V1 ∧ V1.1 (3989 + t) ≠ -1 := by
  unfold vsd at e
  split at e
  · split at e
    · cases e
    · rename_i k hk
      cases e
      have hk3 := vfs_lt hk
      have h1 := k8_vs (i := 3923 + k) (v := nI t) h (by omega)
      exact ⟨h1.trans ⟨⟨fun j a b => vs_ne (by omega), PF8.refl⟩, Or.inr ⟨k, by omega, vs_at⟩⟩, by rw [vs_at]; exact nI_m1 (by omega)⟩
  · rename_i c
    cases e
    exact ⟨K8.refl h, c⟩
theorem k8_fg {words f slot : Int32} (hz : (V.1 2052).toInt.toNat ≤ 3) (h : Sd t V) : K8 t V (vfg lim V t words f slot) := by
  unfold vfg
  cases hsd : vsd V t with
  | none =>
    rw [vhs_0 hsd]
    have h1 := k8_vs (i := 3926 + t) (v := 2) h (by omega)
    have h2 := h1.trans (k8_vs (i := 3968 + t) (v := V.1 (3968 + t) - 1) h1.2 (by omega))
    exact h2.trans (k8_cn (k := 10) (v := 1) h2.2 (by omega))
  | some V1 =>
    obtain ⟨h0, hn0⟩ := k8_sd hz h hsd
    have h1 := h0.trans (k8_vs (i := 3926 + t) (v := 1) h0.2 (by omega))
    by_cases c : ((vs V1 (3926 + t) 1).1 (3996 + t) + words).toInt ≤ ((vs V1 (3926 + t) 1).1 2053).toInt
    · rw [vhs_1 hsd c]
      have h2 := h1.trans (k8_vs (i := 3996 + t) (v := (vs V1 (3926 + t) 1).1 (3996 + t) + words) h1.2 (by omega))
      dsimp only
      split
      · exact h2.trans (k8_cl h2.2)
      · have h3 := h2.trans (k8_nu (i := (vs (vs V1 (3926 + t) 1) (3996 + t) ((vs V1 (3926 + t) 1).1 (3996 + t) + words)).2.2.1 t - 1) (k := slot.toInt.toNat) (v := 3 * vnm (vlf (vs (vs V1 (3926 + t) 1) (3996 + t) ((vs V1 (3926 + t) 1).1 (3996 + t) + words)) t) slot + 1) h2.2)
        refine h3.trans (k8_fv h3.2 ?_)
        show (vs (vs V1 (3926 + t) 1) (3996 + t) _).1 (3989 + t) ≠ -1
        rw [vs_ne (by omega), vs_ne (by omega)]
        exact hn0
    · rw [vhs_2 hsd c]
      exact h1.trans (k8_out h1.2)
theorem k8_qu (h : Sd t V) : K8 t V (vqu lim V t).2 := by
  unfold vqu
  split
  · exact k8_sp h
  split
  · exact K8.refl h
  split
  · exact K8.refl h
  · exact K8.l (K8.c (K8.i (k8_mv h) (by omega)) (by omega))
theorem k8_ln {l : Nat} {kind a b c : Int32} {Z : (Nat → Int32) → Int32 → Int32 → Int32 → Bool} (hz : (V.1 2052).toInt.toNat ≤ 3) (h : Sd t V) (hcb : 2048 ≤ (V.2.2.2 t (V.2.2.1 t - 1)).2.2.2.1 → V.1 (3989 + t) ≠ -1) : K8 t V (vln1 lim Z V t l kind a b c) := by
  unfold vln1
  dsimp only
  by_cases c0 : kind = 0
  · rw [if_pos c0]; exact k8_nu h
  rw [if_neg c0]
  by_cases c1 : kind = 1
  · rw [if_pos c1]; exact k8_nu h
  rw [if_neg c1]
  by_cases c2 : kind = 2
  · rw [if_pos c2]; exact k8_nu h
  rw [if_neg c2]
  by_cases c3 : kind = 3
  · rw [if_pos c3]; exact k8_po h
  rw [if_neg c3]
  by_cases c4 : kind = 4
  · rw [if_pos c4]; exact k8_nu h
  rw [if_neg c4]
  by_cases c5 : kind = 5
  · rw [if_pos c5]
    cases (vlf V t).2.2.2.2.2 a.toInt.toNat with
    | none => exact K8.refl h
    | some q => exact k8_nu h
  rw [if_neg c5]
  by_cases c6 : kind = 6
  · rw [if_pos c6]
    by_cases ct : tld V.1 a
    · rw [if_pos ct]; exact k8_cl h
    · rw [if_neg ct]; exact k8_nu h
  rw [if_neg c6]
  by_cases c7 : kind = 7
  · rw [if_pos c7]
    by_cases ct : (vnm (vlf V t) a).toInt ≤ 0
    · rw [if_pos ct]; exact K8.refl h
    · rw [if_neg ct]; exact k8_vs h (by omega)
  rw [if_neg c7]
  by_cases c8 : kind = 8
  · rw [if_pos c8]; exact k8_rt h hcb
  rw [if_neg c8]
  by_cases c9 : kind = 9
  · rw [if_pos c9]; exact k8_fg hz h
  rw [if_neg c9]
  exact k8_qu h
theorem k8_st {B : Nat} {Z : (Nat → Int32) → Int32 → Int32 → Int32 → Bool} (hI : VI lim B V) (ht : t < 6) (hb : vbz V.1 t) (hlm : lim ≤ 10000) : K8 t V (vst lim Z V t) := by
  obtain ⟨np, z, z2, z3, k, l, hP, h0, -, -, ⟨s1, s2, s3⟩, -, -, hs, -, hcb⟩ := hI.opn ht hb hlm
  have h : Sd t V := hs
  have hcb' : 2048 ≤ (V.2.2.2 t (V.2.2.1 t - 1)).2.2.2.1 → V.1 (3989 + t) ≠ -1 := fun e e2 => by
    obtain ⟨ks, k1, k2⟩ := hcb e
    rw [e2] at k2
    exact absurd k2.symm (nI_m1 (by omega))
  have h1 := k8_inc (i := 3947 + t) h (by omega)
  have h2 := h1.trans (k8_cn (k := 2) (v := 1) h1.2 (by omega))
  have hz : ∀ V' : vV, (∀ i, i ≠ 3947 + t → i ≠ 2056 → i ≠ 3968 + t → V'.1 i = V.1 i) → ((V'.1 2052).toInt.toNat ≤ 3) := fun V' hv => by
    rw [hv 2052 (by omega) (by omega) (by omega), s1, nI_int (by omega)]
    show (z3 : Int).toNat ≤ 3
    omega
  have e1 : ∀ i, i ≠ 3947 + t → i ≠ 2056 → (vcn (vinc V (3947 + t)) 2 1).1 i = V.1 i := fun i g1 g2 => (vcn_ne (by omega)).trans (vinc_ne g1)
  have e12 : (vcn (vinc V (3947 + t)) 2 1).2 = V.2 := rfl
  unfold vst
  dsimp only
  generalize vcn (vinc V (3947 + t)) 2 1 = V1 at *
  split
  · have h3 := h2.trans (k8_vs (i := 3968 + t) (v := V1.1 (3968 + t) + 1) h2.2 (by omega))
    have e3 : ∀ i, i ≠ 3947 + t → i ≠ 2056 → i ≠ 3968 + t → (vs V1 (3968 + t) (V1.1 (3968 + t) + 1)).1 i = V.1 i := fun i g1 g2 g3 => (vs_ne g3).trans (e1 i g1 g2)
    have e32 : (vs V1 (3968 + t) (V1.1 (3968 + t) + 1)).2 = V.2 := e12
    generalize vs V1 (3968 + t) (V1.1 (3968 + t) + 1) = V3 at *
    exact h3.trans (k8_ln (hz V3 e3) h3.2 (by rw [e32, e3 _ (by omega) (by omega) (by omega)]; exact hcb'))
  · exact h2.trans (k8_rt h2.2 (by rw [e12, e1 _ (by omega) (by omega)]; exact hcb'))
end
end
section
/-! ===== alone: the reference's run ===== -/
/-- whose pieces there are -/
def PO (V : vV) : Prop := ∀ q ∈ V.2.1, q.2.2.1 < 6
theorem vcw_all : ∀ {ps : List vP}, (∀ q ∈ ps, q.2.2.1 = 0) → vcw 0 ps = vall ps := by
  intro ps
  induction ps with
  | nil => intro _; rfl
  | cons q ps ih =>
    intro h
    show (if q.2.2.1 = 0 then q.2.1 else 0) + vcw 0 ps = q.2.1 + vall ps
    rw [if_pos (h q (List.mem_cons_self ..)), ih (fun p hp => h p (List.mem_cons_of_mem _ hp))]
section
variable {s s' : wt_S} {V V' : vV} {B n m k t f z : Nat} {a mode x what : Int32}
theorem PO.k8 (h : PO V) (ht : t < 6) (hk : K8 t V V') : PO V' := fun q hq => by
  rcases hk.1.2 q hq with e | ⟨p, p1, p2⟩
  · omega
  · have := h p p1
    omega
theorem PO.ga (h : PO V) : PO (vcr (vga V t) t) := fun q hq => by
  have hq : q ∈ (vga V t).2.1 := hq
  rw [vga_2] at hq
  exact h q (List.mem_filter.mp hq).1
/-- nothing is there -/
theorem none_there (hI : VI 2048 B V) (hb : ∀ j, j < 6 → vby V j = false) (hp : PO V) : V.2.1 = [] ∧ V.2.2.1 0 = 0 ∧ ∀ k, k < 3 → V.1 (3923 + k) = -1 := by
  refine ⟨?_, (hI.idle (t := 0) (by omega) (hb 0 (by omega))).1, fun k hk => ?_⟩
  · cases e : V.2.1 with
    | nil => rfl
    | cons q ps =>
      have hq : q ∈ V.2.1 := by rw [e]; exact List.mem_cons_self ..
      have h6 := hp q hq
      exact absurd rfl ((hI.idle h6 (hb _ h6)).2.2.2.2.2.2.2.2 q hq)
  · rcases hI.2.2.2.1 k hk with e | ⟨t, t1, -, t3⟩
    · exact e
    · rw [(hI.idle t1 (hb t t1)).2.2.2.2.2.1] at t3
      exact absurd t3.symm (nI_m1 (by omega))
/-- all tasks go -/
theorem q_all {f a mode x : Int32} : ∀ (m k fu : Nat) (s : wt_S) (V : vV), k + m = 6 → m < fu → RS s (vs V 2048 x) → VI 2048 B V → (∀ j, j < k → vby V j = false) → PO V → ∃ s' V' fu', gX11_runsAlone_3 fu s f a mode (nI k) = gX11_runsAlone_3 (fu' + 1) s' f a mode (nI 6) ∧ RS s' (vs V' 2048 x) ∧ VI 2048 B V' ∧ (∀ j, j < 6 → vby V' j = false) ∧ vpe V.1 V'.1 ∧ RF s s' ∧ PO V' ∧ ∀ j, 2048 ≤ j → j ≤ 2053 → V'.1 j = V.1 j := by
  intro m
  induction m with
  | zero =>
    intro k fu s V hk hfu h hI hb hp
    obtain ⟨fu, rfl⟩ : ∃ m, fu = m + 1 := ⟨fu - 1, by omega⟩
    have : k = 6 := by omega
    subst this
    exact ⟨s, V, fu, rfl, h, hI, hb, vpe.refl, RF.refl, hp, fun _ _ _ => rfl⟩
  | succ m ih =>
    intro k fu s V hk hfu h hI hb hp
    obtain ⟨fu, rfl⟩ : ∃ m, fu = m + 1 := ⟨fu - 1, by omega⟩
    have hk6 : k < 6 := by omega
    have hsd := hI.sid hk6
    have hj : VJ 2048 (vs V 2048 x) := VJ.vs hI.J (by omega)
    obtain ⟨s1, a1, a2, a3⟩ := q_ga hj rfl h hk6 (by rw [vs_ne (by omega)]; exact hsd)
    have b2 := a2.cr (t := k) hk6
    rw [vno_se hsd hk6] at b2
    obtain ⟨s', V', fu', e1, e2, e3, e4, e5, e6, e7, e8⟩ := ih (k + 1) fu _ (vcr (vga V k) k) (by omega) (by omega) b2 (vi_no hI hk6) (fun j hj => by
      rw [vno_by hI hk6 (by omega)]
      by_cases e : j = k
      · rw [if_pos e]
      · rw [if_neg e]; exact hb j (by omega)) hp.ga
    refine ⟨s', V', fu', ?_, e2, e3, e4, (vno_pe hsd hk6).trans e5, RF.trans a3 (RF.trans RF.cr e6), e7, fun j h1 h2 => ?_⟩
    · rw [gX11_runsAlone_3, nI_int (by omega), if_neg (by show ¬ (6 : Int) ≤ _; omega), a1, cl_some, q_clears hk6, cl_some, nI_1]
      exact e1
    · rw [e8 j h1 h2, vcr_ne hk6 (by omega)]
      exact (vga_i hsd).2 (by omega)
theorem q_52 : ∀ (m k fu B : Nat) (s : wt_S) (V : vV) (mx : Nat), k + m = 2000 → m < fu → mx ≤ 2048 → RS s V → VI 2048 B V → B + 4 * m < 2147483200 → (∀ q ∈ V.2.1, q.2.2.1 = 0) → ∃ s', gX11_runsAlone_52 fu s (nI mx) (nI k) = some (nI (vrx 2048 vZ 0 m V mx), s') ∧ RF s s' ∧ RS s' (vrl 2048 vZ 0 m V) ∧ VI 2048 (B + 4 * m) (vrl 2048 vZ 0 m V) ∧ (∀ q ∈ (vrl 2048 vZ 0 m V).2.1, q.2.2.1 = 0) ∧ vpe V.1 (vrl 2048 vZ 0 m V).1 ∧ ∀ j, 2048 ≤ j → j ≤ 2053 → (vrl 2048 vZ 0 m V).1 j = V.1 j := by
  intro m
  induction m with
  | zero =>
    intro k fu B s V mx hk hfu hmx h hI hB hp
    obtain ⟨fu, rfl⟩ : ∃ m, fu = m + 1 := ⟨fu - 1, by omega⟩
    refine ⟨s, ?_, RF.refl, h, hI, hp, vpe.refl, fun _ _ _ => rfl⟩
    rw [gX11_runsAlone_52, nI_int (by omega), if_pos (by show (2000 : Int) ≤ _; omega)]
    rfl
  | succ m ih =>
    intro k fu B s V mx hk hfu hmx h hI hB hp
    obtain ⟨fu, rfl⟩ : ∃ m, fu = m + 1 := ⟨fu - 1, by omega⟩
    rw [gX11_runsAlone_52, nI_int (by omega), if_neg (by show ¬ (2000 : Int) ≤ _; omega), show (0 : Int32) = nI 0 from rfl, q_busy h (by omega), cl_some]
    show ∃ s', (if rb (vby V 0 = true) = 0 then _ else _) = _ ∧ _
    rw [if_rb, vrl, vrx]
    by_cases c : vby V 0 = true
    · rw [if_pos c, if_pos c, if_pos c]
      have hb := vby_iff.mp c
      obtain ⟨s1, e1, e2, e3⟩ := q_steps hd_all h hI (by omega) hb (by omega)
      have hI1 := vi_st (Z := vZ) hI (t := 0) (by omega) hb (by omega)
      have hpe := pe_st (Z := vZ) hI (t := 0) (by omega) hb (by omega)
      have h8 := k8_st (Z := vZ) hI (t := 0) (by omega) hb (by omega)
      have hp1 : ∀ q ∈ (vst 2048 vZ V 0).2.1, q.2.2.1 = 0 := fun q hq => by
        rcases h8.1.2 q hq with e | ⟨p, p1, p2⟩
        · exact e
        · rw [← p2]; exact hp p p1
      have hv := vall_lim hI1
      rw [e1, cl_some, q_wordsOf e2.2.2.1 hI1.J.2.1 (by omega), cl_some, vcw_all hp1]
      generalize hA : vall (vst 2048 vZ V 0).2.1 = A at *
      obtain ⟨s', d1, d2, d3, d4, d5, d6, d7⟩ := ih (k + 1) fu (B + 4) s1 (vst 2048 vZ V 0) (if mx < A then A else mx) (by omega) (by omega) (by by_cases d : mx < A; rw [if_pos d]; exact hv; rw [if_neg d]; exact hmx) e2 hI1 (by omega) hp1
      refine ⟨s', ?_, e3.trans d2, d3, d4.mono (by omega), d5, hpe.trans d6, fun j a b => (d7 j a b).trans (h8.1.1 j a b)⟩
      rw [← d1]
      unfold gX11_runsAlone_94
      rw [nI_1, nI_int (by omega), nI_int (by omega)]
      by_cases d : mx < A
      · rw [if_pos d, if_neg (by omega)]
      · rw [if_neg d, if_pos (by omega)]
    · rw [if_neg c, if_neg c, if_neg c]
      exact ⟨s, rfl, RF.refl, h, hI.mono (by omega), hp, vpe.refl, fun _ _ _ => rfl⟩
/-- the run of a function alone: as the class's picture has it -/
theorem q_alone1 (hf : f < 10) (hm : mode = 0 ∨ mode = 1) (hz : 8 ≤ z ∧ z ≤ 2048) (h : RS s (vs V 2048 (nI z))) (hI : VI 2048 B V) (hB : B < 2147400000) (hs1 : 1 ≤ vsz V.1 f) (hp : PO V) : ∃ (s' : wt_S) (U : vV), gX11_runsAlone s (nI f) a mode = some (nI (vrx 2048 vZ 0 2000 U (vall U.2.1)), s') ∧ RF s s' ∧ RS s' (vrl 2048 vZ 0 2000 U) ∧ VI 2048 (B + 8003) (vrl 2048 vZ 0 2000 U) ∧ PO (vrl 2048 vZ 0 2000 U) ∧ vpe V.1 (vrl 2048 vZ 0 2000 U).1 ∧ (∀ j, 2049 ≤ j → j ≤ 2053 → (vrl 2048 vZ 0 2000 U).1 j = V.1 j) ∧ VI 2048 (B + 3) U ∧ AE U (vAU V z f a mode) := by
  obtain ⟨s1, V1, fu', e1, e2, e3, e4, e5, e6, e7, e8⟩ := q_all (B := B) (f := nI f) (a := a) (mode := mode) (x := nI z) 6 0 wt_N s V (by omega) (by unfold wt_N; omega) h hI (fun j hj => by omega) hp
  have hno : vab V1 6 0 = false := vab_all (fun j h1 h2 => e4 j (by omega))
  obtain ⟨n1, n2, n3⟩ := none_there e3 e4 e7
  have hpe2 : vpe V1.1 (vs V1 2048 (nI z)).1 := vpe.upd (by omega)
  have hI2 : VI 2048 B (vs V1 2048 (nI z)) := by
    refine e3.re2 hno rfl ?_ (e3.2.1.ww hpe2) (fun i h1 h2 => vs_ne (by omega))
    obtain ⟨i1, i2, i3, i4, i5, i6⟩ := e3.1
    unfold Ise
    rw [vs_at, vs_ne (by omega), vs_ne (by omega), vs_ne (by omega), vs_ne (by omega), vs_ne (by omega)]
    exact ⟨⟨z, rfl, by omega, by omega, by omega⟩, i2, i3, i4, i5, i6⟩
  have hid : Iid (vs V1 2048 (nI z)) 0 := hI2.idle (by omega) (by
    have := e4 0 (by omega)
    unfold vby at this ⊢
    rw [vs_ne (by omega)]
    exact this)
  have hpe1 := e5.trans hpe2
  have hs2 : 1 ≤ vsz (vs V1 2048 (nI z)).1 f := by rw [(hpe1.sz hf).1]; exact hs1
  have hAS : AS (vs V1 2048 (nI z)) (vnw (vAA V z) V.1) := by
    refine ⟨hI2.2.1, fun i hi => ?_, n2, rfl, ?_⟩
    · by_cases c : i < 2228
      · obtain ⟨j, rfl⟩ : ∃ j, i = 2048 + j := ⟨i - 2048, by omega⟩
        rw [vnw_se (by omega)]
        unfold vAA
        by_cases c0 : j = 0
        · subst c0
          rw [if_pos rfl]
          exact vs_at.symm
        · rw [if_neg c0, vs_ne (by omega), e8 _ (by omega) (by omega)]
      · by_cases c2 : i < 2898
        · rw [vnw_pp i ⟨by omega, c2⟩, vs_ne (by omega)]
          exact (e5 i (Or.inl ⟨by omega, c2⟩)).symm
        · obtain ⟨j, rfl⟩ : ∃ j, i = 3923 + j := ⟨i - 3923, by omega⟩
          rw [vnw_m (by omega), vs_ne (by omega), n3 j (by omega)]
    · show [] = V1.2.1
      exact n1.symm
  have hgap : (vgap 2048 0 (vs V1 2048 (nI z)).2.1 ((vs V1 2048 (nI z)).1 2048).toInt.toNat).isSome := by
    rw [vs_at, nI_int (by omega)]
    show (vgap 2048 0 V1.2.1 z).isSome
    rw [n1]
    show (if 0 + z ≤ 2048 then some 0 else none).isSome
    rw [if_pos (by omega)]
    rfl
  obtain ⟨b1, b2⟩ := AS.bg (a := a) (mode := mode) hAS hf hgap
  have e2' : RS (wt_u s1 110 10 0) (vs V1 2048 (nI z)) := e2.o (by omega)
  obtain ⟨s2, f1, f2, f3⟩ := q_begins (a := a) e2' hI2 (by omega) (by omega) hid hf hs2 hm
  have hI3 := vi_bg (a := a) hI2 (by omega) (by omega) hid hf hs2 hm
  have h8 : ∀ q ∈ (vbg 2048 (vs V1 2048 (nI z)) 0 f a mode).2.2.1, q.2.2.1 = 0 := fun q hq => by
    unfold vbg at hq
    split at hq
    · rw [show (vs V1 2048 (nI z)).2.1 = [] from n1] at hq
      cases hq
    · rename_i g _
      have hs : Sd 0 (vb5 (vs V1 2048 (nI z)) 0 g ((vs V1 2048 (nI z)).1 2048).toInt.toNat (nI f) a mode) := Or.inl (by rw [vb5_0 (c := 3989) (by omega)]; exact vcr_f.2)
      rcases (k8_cl hs).1.2 q hq with e | ⟨p, p1, p2⟩
      · exact e
      · rw [vb5_2] at p1
        have p1 : p ∈ vins (g, ((vs V1 2048 (nI z)).1 2048).toInt.toNat, 0, 0) V1.2.1 := p1
        rw [n1] at p1
        rcases vins_mem.mp p1 with r | r
        · rw [← p2, r]
        · cases r
  have h9 : ∀ j, 2049 ≤ j → j ≤ 2053 → (vbg 2048 (vs V1 2048 (nI z)) 0 f a mode).2.1 j = V.1 j := fun j j1 j2 => by
    have hb : (vbg 2048 (vs V1 2048 (nI z)) 0 f a mode).2.1 j = (vs V1 2048 (nI z)).1 j := by
      unfold vbg
      split
      · rfl
      · rename_i g _
        have hs : Sd 0 (vb5 (vs V1 2048 (nI z)) 0 g ((vs V1 2048 (nI z)).1 2048).toInt.toNat (nI f) a mode) := Or.inl (by rw [vb5_0 (c := 3989) (by omega)]; exact vcr_f.2)
        exact ((k8_cl hs).1.1 j (by omega) j2).trans (vb5_ne (by omega) (by omega))
    rw [hb, vs_ne (by omega), e8 j (by omega) j2]
  generalize hU : (vbg 2048 (vs V1 2048 (nI z)) 0 f a mode).2 = U at *
  have f1 : gX11_begins (wt_u s1 110 10 0) 0 (nI f) a mode = _ := f1
  have hw : gX11_wordsOf s2 0 = _ := q_wordsOf (t := 0) f2.2.2.1 hI3.J.2.1 (by omega)
  have e1 : gX11_runsAlone s (nI f) a mode = _ := e1
  have hR : RF s s2 := e6.trans ((RF.uo (by omega) (by omega)).trans f3)
  have hpe3 : vpe V.1 U.1 := by
    rw [← hU]
    exact hpe1.trans (vbg_pe (by omega))
  obtain ⟨s', d1, d2, d3, d4, d5, d6, d7⟩ := q_52 2000 0 wt_N (B + 3) s2 U (vall U.2.1) (by omega) (by unfold wt_N; omega) (vall_lim hI3) f2 hI3 (by omega) h8
  refine ⟨s', U, ?_, hR.trans d2, d3, d4.mono (by omega), fun q hq => ?_, hpe3.trans d6, fun j j1 j2 => (d7 j (by omega) j2).trans (h9 j j1 j2), hI3, b2⟩
  · rw [e1, gX11_runsAlone_3, nI_int (by omega), if_pos (by decide), wr_eq, f1, cl_some, hw, cl_some, vcw_all h8]
    exact d1
  · rw [d5 q hq]
    omega
end
end
section
/-! ===== whose pieces there are, behind each operation ===== -/
section
variable {V V' : vV} {B n m t f : Nat} {x : Int32} {Z : (Nat → Int32) → Int32 → Int32 → Int32 → Bool}
theorem po_eq (h : PO V) (e : V'.2.1 = V.2.1) : PO V' := fun q hq => h q (by rw [← e]; exact hq)
theorem po_set {v : Int32} (h : PO V) : PO (vset V x v).2 := by
  unfold vset
  split <;> exact po_eq h rfl
theorem po_func {z p : Int32} (h : PO V) : PO (vfunc V x z p).2 := by
  unfold vfunc
  split <;> exact po_eq h rfl
theorem po_line {kind a b c : Int32} (h : PO V) : PO (vline V x kind a b c).2 := by
  unfold vline
  split <;> exact po_eq h rfl
theorem po_bg {a mode : Int32} (h : PO V) (ht : t < 6) : PO (vbg 2048 V t f a mode).2 := by
  unfold vbg
  split
  · exact h
  · rename_i g _
    have hs : Sd t (vb5 V t g (V.1 2048).toInt.toNat (nI f) a mode) := Or.inl (by rw [vb5_0 (c := 3989) (by omega)]; exact vcr_f.2)
    refine PO.k8 (V := vb5 V t g (V.1 2048).toInt.toNat (nI f) a mode) (fun q hq => ?_) ht (k8_cl hs)
    rw [vb5_2] at hq
    rcases vins_mem.mp hq with e | e
    · rw [e]; exact ht
    · exact h q e
theorem po_start {f a mode : Int32} (h : PO V) : PO (vstart V x f a mode).2 := by
  unfold vstart
  split
  · rename_i c
    have c1 := c.1
    exact po_bg h (by omega)
  · exact h
theorem po_run (ht : t < 6) : ∀ (n B : Nat) (V : vV), VI 2048 B V → PO V → PO (vrun Z t n V).2 ∧ VI 2048 (B + 4 * n) (vrun Z t n V).2 := by
  intro n
  induction n with
  | zero => intro B V hI h; exact ⟨h, hI⟩
  | succ n ih =>
    intro B V hI h
    unfold vrun
    by_cases c : vby V t = true
    · rw [if_pos c]
      have hb := vby_iff.mp c
      obtain ⟨g1, g2⟩ := ih (B + 4) (vst 2048 Z V t) (vi_st hI ht hb (by omega)) (h.k8 ht (k8_st hI ht hb (by omega)))
      exact ⟨g1, g2.mono (by omega)⟩
    · rw [if_neg c]
      exact ⟨h, hI.mono (by omega)⟩
theorem po_step {n : Int32} (hI : VI 2048 B V) (h : PO V) : PO (vstep Z V x n).2 := by
  unfold vstep
  split
  · rename_i c
    have c1 := c.1
    exact (po_run (by omega) _ B V hI h).1
  · exact h
theorem po_rn6 : ∀ (r t m B : Nat) (V : vV), t + r = 6 → VI 2048 B V → PO V → PO (vrn6 Z r t m V).2 ∧ VI 2048 (B + 4 * r) (vrn6 Z r t m V).2 := by
  intro r
  induction r with
  | zero => intro t m B V _ hI h; exact ⟨h, hI⟩
  | succ r ih =>
    intro t m B V ht hI h
    obtain ⟨g1, g2⟩ := po_run (Z := Z) (t := t) (by omega) 1 B V hI h
    obtain ⟨d1, d2⟩ := ih (t + 1) (m + (vrun Z t 1 V).1) (B + 4 * 1) (vrun Z t 1 V).2 (by omega) g2 g1
    exact ⟨d1, d2.mono (by omega)⟩
theorem po_rnd : ∀ (r m B : Nat) (V : vV), VI 2048 B V → PO V → PO (vrnd Z r m V).2 := by
  intro r
  induction r with
  | zero => intro m B V _ h; exact h
  | succ r ih =>
    intro m B V hI h
    obtain ⟨g1, g2⟩ := po_rn6 (Z := Z) 6 0 m B V (by omega) hI h
    exact ih (vrn6 Z 6 0 m V).1 (B + 4 * 6) (vrn6 Z 6 0 m V).2 g2 g1
theorem po_round {n : Int32} (hI : VI 2048 B V) (h : PO V) : PO (vround Z V n).2 := by
  unfold vround
  split
  · exact po_rnd _ 0 B V hI h
  · exact h
theorem po_sto (h : PO V) : PO (vsto V x).2 := by
  unfold vsto
  split
  · split
    · exact h.ga
    · exact h
  · exact h
theorem po_quiet (hI : VI 2048 B V) (h : PO V) : PO (vquiet V x).2 := by
  unfold vquiet
  split
  · rename_i c
    have ht : x.toInt.toNat < 6 := by have := c.1; omega
    exact h.k8 ht (k8_qu (hI.sid ht))
  · exact h
theorem po_join (h : PO V) : PO (vjoin V x).2 := by
  unfold vjoin
  split
  · rename_i c
    have ht : x.toInt.toNat < 6 := by have := c.1; omega
    show PO (vjo 2048 V x.toInt.toNat).2
    unfold vjo
    dsimp only
    cases vgap 2048 0 V.2.1 (vdbl (vkp V x.toInt.toNat) 16 (V.1 2048).toInt.toNat) with
    | none => exact h
    | some g =>
      intro q hq
      have hq : q ∈ (vj1 V x.toInt.toNat g (vdbl (vkp V x.toInt.toNat) 16 (V.1 2048).toInt.toNat)).2.1 := hq
      have hq : q ∈ vins (g, vdbl (vkp V x.toInt.toNat) 16 (V.1 2048).toInt.toNat, x.toInt.toNat, 0) (V.2.1.filter (fun q => decide (q.2.2.1 ≠ x.toInt.toNat))) := hq
      rcases vins_mem.mp hq with e | e
      · rw [e]; exact ht
      · exact h q (List.mem_filter.mp e).1
  · exact h
theorem vpk_own : ∀ (ps : List vP) (a : Nat), ∀ q ∈ vpk a ps, ∃ p ∈ ps, p.2.2.1 = q.2.2.1 := by
  intro ps
  induction ps with
  | nil => intro a q hq; cases hq
  | cons r ps ih =>
    intro a q hq
    rcases List.mem_cons.mp hq with e | e
    · exact ⟨r, List.mem_cons_self .., by rw [e]⟩
    · obtain ⟨p, p1, p2⟩ := ih _ q e
      exact ⟨p, List.mem_cons_of_mem _ p1, p2⟩
theorem po_cm (h : PO V) : PO (vcm V) := fun q hq => by
  obtain ⟨p, p1, p2⟩ := vpk_own V.2.1 0 q hq
  rw [← p2]
  exact h p p1
end
/-! ===== both sides, with whose pieces there are (made out of e8.six by wip/p2/mk_f6.py) ===== -/
/-- what holds at the law's loop -/
def L7 (F B : Nat) (s : wt_S) : Prop := CI F s s ∧ s 4 6 = s 110 4 ∧ ∃ V Vk, RQ B s V Vk ∧ NW B s V ∧ KI B s Vk ∧ PO V ∧ (s 4 6 = 0 ∨ PO Vk)
/-- one operation of both: the answers are E -/
def O7 (F B : Nat) (s : wt_S) (x : Option (Int32 × wt_S)) (y : wt_S → Option (Int32 × wt_S)) (E : Int32 → Int32 → Prop) : Prop := ∃ r s1 r2 s2, x = some (r, s1) ∧ s1 0 = s 0 ∧ y s1 = some (r2, s2) ∧ E r r2 ∧ L7 F B s2
section
variable {F F' B B' : Nat} {s s' : wt_S} {V Vk : vV} {x : Option (Int32 × wt_S)} {y : wt_S → Option (Int32 × wt_S)} {E : Int32 → Int32 → Prop}
theorem L7.mono (h : L7 F B s) (hF : F ≤ F') (hB : B ≤ B') : L7 F' B' s := by
  obtain ⟨h1, h2, V, Vk, h3, h4, h5, h6⟩ := h
  exact ⟨h1.mono hF, h2, V, Vk, h3.mk2 h3.1 (h3.2.1.mono hB) hB (RH.of RF.refl), h4.mono hB, h5.keep hB (fun _ _ => rfl), h6⟩
theorem lo7_mk (h : L7 F B s) (hB : B ≤ B') (hx : Ok (fun _ s' => CI F' s s') x) (hs : ∀ V, RS s V → VI 2048 B V → NW B s V → PO V → ∃ r s1 V', x = some (r, s1) ∧ NW B' s1 V' ∧ (∀ c, c = 75 ∨ (77 ≤ c ∧ c ≤ 109) → s1 c = s c) ∧ PO V' ∧ ∀ s1', RS s1' V → ∃ r2 s2, y s1' = some (r2, s2) ∧ E r r2 ∧ RS s2 V' ∧ RH s1' s2) : O7 F' B' s x y E := by
  obtain ⟨h1, h2, V, Vk, h3, h4, h5, h6, h7⟩ := h
  obtain ⟨r, s1, V', a1, a2, a3, a6, a4⟩ := hs V h3.1 h3.2.1 h4 h6
  obtain ⟨r', s1', b1, b2⟩ := hx
  rw [a1] at b1
  cases b1
  have e : ∀ c, (c = 0 ∨ 110 ≤ c) ∨ c = 4 → s1 c = s c := b2.2.2.2.2.2.2
  have hRS : RS s1 V := ⟨by rw [e 110 (by omega)]; exact h3.1.1, by rw [e 111 (by omega)]; exact h3.1.2⟩
  have hQ : RQ B s1 V Vk := ⟨hRS, h3.2.1, by rw [e 110 (by omega), e 113 (by omega)]; exact h3.2.2⟩
  obtain ⟨r2, s2, c1, c2, c3, c4⟩ := a4 s1 hRS
  refine ⟨r, s1, r2, s2, a1, e 0 (by omega), c1, c2, b2.re c4.1, ?_, V', Vk, hQ.mk2 c3 a2.2.1 hB c4, a2.re1 c4.1, h5.keep hB (fun c hc => ?_), ?_, ?_⟩
  · rw [c4.1 4 (by omega), c4.2.2, e 4 (by omega), e 110 (by omega)]
    exact h2
  · rw [c4.1 c (by omega)]
    rcases hc with hc | hc
    · exact e c (Or.inr hc)
    · exact a3 c hc
  · exact a6
  · rw [c4.1 4 (by omega), e 4 (by omega)]
    exact h7
/-- a question that changes nothing -/
theorem lo7_pure (h : L7 F B s) (hx : Ok (fun _ s' => s' = s ∧ True) x) (hy : ∀ V s1, RS s1 V → VI 2048 B V → Ok (fun _ s' => RO s1 s') (y s1)) : O7 F B s x y TR := by
  obtain ⟨r, s', e, e1, -⟩ := hx
  subst e1
  refine lo7_mk h (Nat.le_refl _) ⟨r, s', e, h.1⟩ (fun V hr hI hn h6 => ⟨r, s', V, e, hn, fun _ _ => rfl, h6, fun s1' h' => ?_⟩)
  obtain ⟨r2, s2, b1, b2⟩ := hy V s1' h' hI
  exact ⟨r2, s2, b1, trivial, h'.ro b2, RH.of b2.1⟩
/-- a question that walks or marks -/
theorem lo7_walk (h : L7 F B s) (hx : Ok (fun _ s' => CI F s s') x) (hf : FP s x) (hy : ∀ V s1, RS s1 V → VI 2048 B V → Ok (fun _ s' => RO s1 s') (y s1)) : O7 F B s x y TR := by
  refine lo7_mk h (Nat.le_refl _) hx (fun V hr hI hn h6 => ?_)
  obtain ⟨r, s', e, -⟩ := hx
  have hk : ∀ c, c ≠ 27 → c ≠ 71 → c ≠ 72 → s' c = s c := fun c c1 c2 c3 => hf r s' e c (fun q => by unfold KQ at q; omega)
  obtain ⟨⟨zs, fr, hR⟩, hI2, hW, hK, hT⟩ := hn
  refine ⟨r, s', V, e, ⟨⟨zs, fr, hR.eq cx11 (fun c _ _ _ c4 hc => hk c (by omega) (by omega) (by omega))⟩, hI2, hW, fun j hj => by rw [hk 1 (by omega) (by omega) (by omega), hk 2 (by omega) (by omega) (by omega), hk 3 (by omega) (by omega) (by omega)]; exact hK j hj, fun k hk' => by rw [hk _ (by omega) (by omega) (by omega)]; exact hT k hk'⟩, fun c hc => hk c (by omega) (by omega) (by omega), h6, fun s1' h' => ?_⟩
  obtain ⟨r2, s2, b1, b2⟩ := hy V s1' h' hI
  exact ⟨r2, s2, b1, trivial, h'.ro b2, RH.of b2.1⟩
theorem lo7_set {a b : Int32} (h : L7 F B s) (hF : F ≤ 1999990000) : O7 F B s (gX10_set s a b) (fun s1 => gX11_set s1 a b) Eq :=
  lo7_mk h (Nat.le_refl _) (ok_im (oX10_set (by omega) h.1) (fun _ _ e => e.1)) (fun V hr hI hn h6 => by
    obtain ⟨s0, -, -, -, hI'⟩ := q_set (x := a) (v := b) hr hI
    obtain ⟨s1, a1, a2, a3⟩ := c_setop hn hI'
    refine ⟨_, s1, _, a1, a2, fun c hc => a3 c (by omega), po_set h6, fun s1' h' => ?_⟩
    obtain ⟨s2, b1, b2, b3, -⟩ := q_set (x := a) (v := b) h' hI
    exact ⟨_, s2, b1, rfl, b2, RH.of b3⟩)
theorem lo7_function {a b c : Int32} (h : L7 F B s) (hF : F ≤ 1999990000) : O7 F B s (gX10_function s a b c) (fun s1 => gX11_function s1 a b c) Eq :=
  lo7_mk h (Nat.le_refl _) (ok_im (oX10_function (by omega) h.1) (fun _ _ e => e.1)) (fun V hr hI hn h6 => by
    obtain ⟨s0, -, -, -, hI'⟩ := q_function (x := a) (z := b) (p := c) hr hI
    obtain ⟨s1, a1, a2, a3⟩ := c_functionop hn hI'
    refine ⟨_, s1, _, a1, a2, fun c hc => a3 c (by omega), po_func h6, fun s1' h' => ?_⟩
    obtain ⟨s2, b1, b2, b3, -⟩ := q_function (x := a) (z := b) (p := c) h' hI
    exact ⟨_, s2, b1, rfl, b2, RH.of b3⟩)
theorem lo7_line {k a b c d : Int32} (h : L7 F B s) (hF : F ≤ 1999990000) : O7 F B s (gX10_line s k a b c d) (fun s1 => gX11_line s1 k a b c d) Eq :=
  lo7_mk h (Nat.le_refl _) (oX10_line (by omega) h.1) (fun V hr hI hn h6 => by
    obtain ⟨s0, -, -, -, hI'⟩ := q_line (x := k) (kind := a) (a := b) (b := c) (c := d) hr hI
    obtain ⟨s1, a1, a2, a3⟩ := c_lineop hn hI'
    refine ⟨_, s1, _, a1, a2, fun c hc => a3 c (by omega), po_line h6, fun s1' h' => ?_⟩
    obtain ⟨s2, b1, b2, b3, -⟩ := q_line (x := k) (kind := a) (a := b) (b := c) (c := d) h' hI
    exact ⟨_, s2, b1, rfl, b2, RH.of b3⟩)
theorem lo7_start {a b c d : Int32} (h : L7 F B s) (hF : F ≤ 1999990000) (hB : B ≤ 2147200000) : O7 (F + 1) (B + 3) s (gX10_start s a b c d) (fun s1 => gX11_start s1 a b c d) Eq :=
  lo7_mk h (Nat.le_add_right _ _) (ok_im (oX10_start (by omega) h.1) (fun _ _ e => e.1)) (fun V hr hI hn h6 => by
    obtain ⟨s1, a1, a2, a3⟩ := c_startop (x := a) (f := b) (a := c) (mode := d) hn
    refine ⟨_, s1, _, a1, a2, fun c hc => a3 c (by omega), po_start h6, fun s1' h' => ?_⟩
    obtain ⟨s2, b1, b2, b3, -⟩ := q_start (x := a) (f := b) (a := c) (mode := d) h' hI (by omega)
    exact ⟨_, s2, b1, rfl, b2, RH.of b3⟩)
theorem lo7_step {a b : Int32} (h : L7 F B s) (hF : F + 4401 ≤ 1999990000) (hB : B ≤ 2147200000) : O7 (F + 4401) (B + 800) s (gX10_step s a b) (fun s1 => gX11_step s1 a b) Eq :=
  lo7_mk h (Nat.le_add_right _ _) (oX10_step hF h.1) (fun V hr hI hn h6 => by
    obtain ⟨s1, a1, a2, a3⟩ := c_stepop (x := a) (n := b) (Z := vZ) hn
    refine ⟨_, s1, _, a1, a2, fun c hc => a3 c (by omega), po_step hI h6, fun s1' h' => ?_⟩
    obtain ⟨s2, b1, b2, b3, -⟩ := q_step (x := a) (n := b) hd_all h' hI (by omega)
    exact ⟨_, s2, b1, rfl, b2, RH.of b3⟩)
theorem lo7_round {a : Int32} (h : L7 F B s) (hF : F + 2401800 ≤ 1999990000) (hB : B ≤ 2147200000) : O7 (F + 2401800) (B + 2400) s (gX10_round s a) (fun s1 => gX11_round s1 a) Eq :=
  lo7_mk h (Nat.le_add_right _ _) (oX10_round hF h.1) (fun V hr hI hn h6 => by
    obtain ⟨s1, a1, a2, a3⟩ := c_roundop (n := a) (Z := vZ) hn
    refine ⟨_, s1, _, a1, a2, fun c hc => a3 c (by omega), po_round hI h6, fun s1' h' => ?_⟩
    obtain ⟨s2, b1, b2, b3, -⟩ := q_round (n := a) hd_all h' hI (by omega)
    exact ⟨_, s2, b1, rfl, b2, RH.of b3⟩)
theorem lo7_stop {a : Int32} (h : L7 F B s) (hF : F ≤ 1999990000) : O7 F B s (gX10_stop s a) (fun s1 => gX11_stop s1 a) Eq :=
  lo7_mk h (Nat.le_refl _) (ok_im (oX10_stop (by omega) h.1) (fun _ _ e => e.1)) (fun V hr hI hn h6 => by
    obtain ⟨s1, a1, a2, a3⟩ := c_stopop (x := a) hn
    refine ⟨_, s1, _, a1, a2, fun c hc => a3 c (by omega), po_sto h6, fun s1' h' => ?_⟩
    obtain ⟨s2, b1, b2, b3⟩ := q_stop (x := a) h' hI
    exact ⟨_, s2, b1, rfl, b2, RH.of b3⟩)
theorem lo7_quiet {a : Int32} (h : L7 F B s) (hF : F ≤ 1999990000) (hB : B ≤ 2147200000) : O7 F (B + 1) s (gX10_quiet s a) (fun s1 => gX11_quiet s1 a) Eq :=
  lo7_mk h (Nat.le_add_right _ _) (ok_im (oX10_quiet (by omega) h.1) (fun _ _ e => e.1)) (fun V hr hI hn h6 => by
    obtain ⟨s1, a1, a2, a3⟩ := c_quietop (x := a) hn
    refine ⟨_, s1, _, a1, a2, fun c hc => a3 c (by omega), po_quiet hI h6, fun s1' h' => ?_⟩
    obtain ⟨s2, b1, b2, b3, -⟩ := q_quiet (x := a) h' hI (by omega)
    exact ⟨_, s2, b1, rfl, b2, RH.of b3⟩)
theorem lo7_join {a : Int32} (h : L7 F B s) (hF : F ≤ 1999990000) (hB : B ≤ 2147200000) : O7 F (B + 1) s (gX10_join s a) (fun s1 => gX11_join s1 a) Eq :=
  lo7_mk h (Nat.le_add_right _ _) (ok_im (oX10_join (by omega) h.1) (fun _ _ e => e.1)) (fun V hr hI hn h6 => by
    obtain ⟨s1, a1, a2, a3⟩ := c_joinop (x := a) hn
    refine ⟨_, s1, _, a1, a2, fun c hc => a3 c (by omega), po_join h6, fun s1' h' => ?_⟩
    obtain ⟨s2, b1, b2, b3, -⟩ := q_join (x := a) h' hI (by omega)
    exact ⟨_, s2, b1, rfl, b2, RH.of b3⟩)
theorem lo7_compact (h : L7 F B s) (hF : F ≤ 1999990000) (hB : B ≤ 2147200000) : O7 F (B + 256) s (gX10_compact s) (fun s1 => gX11_compact s1) Eq :=
  lo7_mk h (Nat.le_add_right _ _) (oX10_compact (by omega) h.1) (fun V hr hI hn h6 => by
    obtain ⟨s1, a1, a2, a3⟩ := c_compactop hn
    refine ⟨_, s1, _, a1, a2, fun c hc => a3 c (by omega), po_cm h6, fun s1' h' => ?_⟩
    obtain ⟨s2, b1, b2, b3⟩ := q_compact h' hI (by omega)
    exact ⟨_, s2, b1, rfl, b2, RH.of b3⟩)
theorem lo7_deep {a : Int32} (h : L7 F B s) (hF : F ≤ 1999990000) : O7 F B s (gX10_deep s a) (fun s1 => gX11_deep s1 a) TR := lo7_pure h (oX10_deep (by omega) h.1) (fun V s1 a b => k_deep a b)
theorem lo7_need {a : Int32} (h : L7 F B s) (hF : F ≤ 1999990000) : O7 F B s (gX10_need s a) (fun s1 => gX11_need s1 a) TR := lo7_pure h (oX10_need (by omega) h.1) (fun V s1 a b => k_need a b)
theorem lo7_task {a b : Int32} (h : L7 F B s) (hF : F ≤ 1999990000) : O7 F B s (gX10_task s a b) (fun s1 => gX11_task s1 a b) TR := lo7_pure h (oX10_task (by omega) h.1) (fun V s1 a b => k_task a b)
theorem lo7_piece {a b c : Int32} (h : L7 F B s) (hF : F ≤ 1999990000) : O7 F B s (gX10_piece s a b c) (fun s1 => gX11_piece s1 a b c) TR := lo7_pure h (oX10_piece (by omega) h.1) (fun V s1 a b => k_piece a b)
theorem lo7_gap {a b : Int32} (h : L7 F B s) (hF : F ≤ 1999990000) : O7 F B s (gX10_gap s a b) (fun s1 => gX11_gap s1 a b) TR := lo7_pure h (oX10_gap (by omega) h.1) (fun V s1 g _ => by
  obtain ⟨v, e⟩ := k_gap (i := a) (what := b) g.2.2.1
  exact ⟨v, s1, e, RO.refl⟩)
theorem lo7_log {a b : Int32} (h : L7 F B s) (hB : B ≤ 2147200000) : O7 F B s (gX10_log s a b) (fun s1 => gX11_log s1 a b) TR := lo7_pure h (oX10_log h.1) (fun V s1 a b => k_log a b (by omega))
theorem lo7_count {a : Int32} (h : L7 F B s) (hF : F ≤ 1999990000) : O7 F B s (gX10_count s a) (fun s1 => gX11_count s1 a) TR := lo7_pure h (oX10_count (by omega) h.1) (fun V s1 a b => k_count)
theorem lo7_look {a : Int32} (h : L7 F B s) (hF : F ≤ 1999990000) : O7 F B s (gX10_look s a) (fun s1 => gX11_look s1 a) TR := lo7_pure h (oX10_look (by omega) h.1) (fun V s1 a b => k_look a)
theorem lo7_frame {a b c : Int32} (h : L7 F B s) (hF : F ≤ 1999990000) : O7 F B s (gX10_frame s a b c) (fun s1 => gX11_frame s1 a b c) TR := lo7_walk h (oX10_frame (by omega) h.1) (fX10_frame FR.refl) (fun V s1 a b => k_frame a b)
theorem lo7_slot {a b c d : Int32} (h : L7 F B s) (hF : F ≤ 1999990000) : O7 F B s (gX10_slot s a b c d) (fun s1 => gX11_slot s1 a b c d) TR := lo7_walk h (oX10_slot (by omega) h.1) (fX10_slot FR.refl) (fun V s1 a b => k_slot a b)
theorem lo7_never {a : Int32} (h : L7 F B s) (hF : F ≤ 1999990000) : O7 F B s (gX10_never s a) (fun s1 => gX11_never s1 a) TR := lo7_walk h (oX10_never (by omega) h.1) (fX10_never FR.refl) (fun V s1 a b => k_never a b)
theorem lo7_endless {a b c : Int32} (h : L7 F B s) (hF : F + 4001 ≤ 1999990000) : O7 (F + 4001) B s (gX10_endless s a b c) (fun s1 => gX11_endless s1 a b c) TR :=
  lo7_mk h (Nat.le_refl _) (oX10_endless hF h.1) (fun V hr hI hn h6 => by
    obtain ⟨s1, a1, a2, a3⟩ := c_endlessop (f := a) (a := b) (what := c) (Z := vZ) hn
    refine ⟨_, s1, _, a1, a2, fun c hc => a3 c (by omega), h6, fun s1' h' => ?_⟩
    obtain ⟨r2, s2, b1, b2, b3⟩ := k_endless (f := a) (a := b) (what := c) h' hI
    exact ⟨r2, s2, b1, trivial, b2, RH.of b3⟩)
theorem lo7_land {a b c : Int32} (h : L7 F B s) (hF : F + 400 ≤ 1999990000) (hB : B ≤ 2147200000) : O7 (F + 400) B s (gX10_land s a b c) (fun s1 => gX11_land s1 a b c) TR :=
  lo7_mk h (Nat.le_refl _) (oX10_land hF h.1) (fun V hr hI hn h6 => by
    obtain ⟨s1, a1, a2, a3⟩ := c_landop (x := a) (n := b) (what := c) (Z := vZ) hn
    refine ⟨_, s1, _, a1, a2, fun c hc => a3 c (by omega), h6, fun s1' h' => ?_⟩
    obtain ⟨r2, s2, b1, b2, b3⟩ := k_land (x := a) (n := b) (what := c) h' hI (by omega)
    exact ⟨r2, s2, b1, trivial, b2, b3⟩)
theorem lo7_image {a : Int32} (h : L7 F B s) : O7 F B s (gX10_image s a) (fun s1 => gX11_image s1 a) Eq := by
  obtain ⟨h1, h2, V, Vk, h3, h4, h5, h6, h7⟩ := h
  have hz : s 4 6 = 0 ∨ s 4 6 = 1 := by
    rw [h2]
    rcases h3.2.2 with e | e
    · exact Or.inl e
    · exact Or.inr e.1
  obtain ⟨r, s1, b1, b2, -⟩ := oX10_image (i1 := a) h1 hz
  obtain ⟨s1', a1, a2, a3, a4, a5⟩ := c_imageop (x := a) h4 h5
  rw [a1] at b1
  cases b1
  have hQ : RQ B s1 V Vk := ⟨⟨by rw [a5 110 (by omega)]; exact h3.1.1, by rw [a5 111 (by omega)]; exact h3.1.2⟩, h3.2.1, by rw [a5 110 (by omega), a5 113 (by omega)]; exact h3.2.2⟩
  obtain ⟨s2, c1, c2, c3, c4⟩ := k_image2 (a := a) hQ
  have e110 : s1 110 4 = s 4 6 := by rw [a5 110 (by omega)]; exact h2.symm
  rw [e110] at c1 c2 c3
  refine ⟨_, s1, _, s2, a1, a5 0 (Or.inr rfl), c1, rfl, b2.re c4, ?_, _, _, c2, a2.re1 c4, a3.keep (Nat.le_refl _) (fun c hc => c4 c (by omega)), ?_, ?_⟩
  · rw [c4 4 (by omega), c3, a4]
  · by_cases cx : a ≠ 0
    · rw [if_pos cx]; exact h6
    · rw [if_neg cx]
      by_cases c0 : s 4 6 = 0
      · rw [if_pos c0]; exact h6
      · rw [if_neg c0]; exact h7.resolve_left c0
  · rw [c4 4 (by omega), a4]
    by_cases cx : a ≠ 0
    · rw [if_pos cx, if_pos cx]; exact Or.inr h6
    · rw [if_neg cx, if_neg cx]
      exact h7
end
end
section
/-! ===== what leaves two fields of a cell alone (written by wip/p2/gen_fx.py) ===== -/
def FX (c k1 k2 : Nat) (x1 x2 : Int32) (s : wt_S) : Prop := s c k1 = x1 ∧ s c k2 = x2
def FZ {α : Type} (c k1 k2 : Nat) (x1 x2 : Int32) (x : Option (α × wt_S)) : Prop := ∀ r s', x = some (r, s') → FX c k1 k2 x1 x2 s'
section
variable {α β : Type} {s : wt_S} {c k1 k2 : Nat} {x1 x2 : Int32}
theorem fz_none : FZ c k1 k2 x1 x2 (none : Option (α × wt_S)) := fun _ _ e => by cases e
theorem fz_some {r : α} (h : FX c k1 k2 x1 x2 s) : FZ c k1 k2 x1 x2 (some (r, s)) := fun _ _ e => by cases e; exact h
theorem fz_if {p : Prop} [Decidable p] {x y : Option (α × wt_S)} (h1 : FZ c k1 k2 x1 x2 x) (h2 : FZ c k1 k2 x1 x2 y) : FZ c k1 k2 x1 x2 (if p then x else y) := by
  by_cases h : p
  · rw [if_pos h]; exact h1
  · rw [if_neg h]; exact h2
theorem fz_ix {i : Int32} {n : Nat} {F : Nat → Option (α × wt_S)} (h : ∀ k, FZ c k1 k2 x1 x2 (F k)) : FZ c k1 k2 x1 x2 (wt_ix i n F) := by
  unfold wt_ix
  exact fz_if (h _) fz_none
theorem fz_cl {x : Option (β × wt_S)} {F : β → wt_S → Option (α × wt_S)} (h : FZ c k1 k2 x1 x2 x) (hF : ∀ r s1, FX c k1 k2 x1 x2 s1 → FZ c k1 k2 x1 x2 (F r s1)) : FZ c k1 k2 x1 x2 (wt_cl x F) := by
  cases x with
  | none => exact fz_none
  | some p => exact hF p.1 p.2 (h p.1 p.2 rfl)
theorem fx_u {a j : Nat} {v : Int32} (h : FX c k1 k2 x1 x2 s) (ha : a ≠ c ∨ (j ≠ k1 ∧ j ≠ k2)) : FX c k1 k2 x1 x2 (wt_u s a j v) := by
  by_cases e : c = a
  · subst e
    have hj := ha.resolve_left (fun q => q rfl)
    exact ⟨by rw [wt_u_nk (fun q => hj.1 q.symm)]; exact h.1, by rw [wt_u_nk (fun q => hj.2 q.symm)]; exact h.2⟩
  · exact ⟨by rw [wt_u_ne e]; exact h.1, by rw [wt_u_ne e]; exact h.2⟩
theorem fz_wr {a j : Nat} {v : Int32} {F : wt_S → Option (α × wt_S)} (h : FX c k1 k2 x1 x2 s) (ha : a ≠ c ∨ (j ≠ k1 ∧ j ≠ k2)) (hF : ∀ s1, FX c k1 k2 x1 x2 s1 → FZ c k1 k2 x1 x2 (F s1)) : FZ c k1 k2 x1 x2 (wt_wr s a j v F) := hF _ (fx_u h ha)
theorem fz_w0 {F : wt_S → Option (α × wt_S)} (h : s 110 5 = x2) (hF : ∀ s1, FX 110 10 5 1 x2 s1 → FZ 110 10 5 1 x2 (F s1)) : FZ 110 10 5 1 x2 (wt_wr s 110 10 1 F) := hF _ ⟨wt_u_self, by rw [wt_u_nk (by decide)]; exact h⟩
theorem fz_w1 {F : wt_S → Option (α × wt_S)} (h : FX 110 10 5 1 x2 s) (hF : ∀ s1, FX 110 10 5 1 x2 s1 → FZ 110 10 5 1 x2 (F s1)) : FZ 110 10 5 1 x2 (wt_wr s 110 10 1 F) := hF _ ⟨wt_u_self, by rw [wt_u_nk (by decide)]; exact h.2⟩
theorem fz_ac {a b n0 n1 : Nat} {p q n : Int32} {F : wt_S → Option (α × wt_S)} (h : FX c k1 k2 x1 x2 s) (ha : b ≠ c) (hF : ∀ s1, FX c k1 k2 x1 x2 s1 → FZ c k1 k2 x1 x2 (F s1)) : FZ c k1 k2 x1 x2 (wt_ac s a p b q n n0 n1 F) := by
  unfold wt_ac
  exact fz_if (hF _ ⟨by rw [wt_uf_ne (fun e => ha e.symm)]; exact h.1, by rw [wt_uf_ne (fun e => ha e.symm)]; exact h.2⟩) fz_none
theorem fz_rz {v : Int32} {x : Option (α × wt_S)} (h : FZ c k1 k2 x1 x2 x) : FZ c k1 k2 x1 x2 (wt_rz v x) := by
  unfold wt_rz
  exact fz_if h fz_none
end
end
