section
/-! ===== alone: two runs that differ in how many words a piece has at first ===== -/
def QZ (z : Nat) (a b : List vP) : Prop := a = [(0, 64, 0, 0)] ∧ b = [(0, z, 0, 0)]
def RZ (z : Nat) (v v' : Int32) : Prop := v = nI 64 ∧ v' = nI z
abbrev AZ (z : Nat) (V V' : vV) : Prop := AQ (QZ z) (RZ z) V V'
/-- or nothing is there any more -/
def AY (z : Nat) (V V' : vV) : Prop := AZ z V V' ∨ (A0 V V' ∧ V.2.1 = [])
/-- one piece that starts at 0 -/
def O1 (V : vV) : Prop := vnp V 0 = 1 ∧ vtop V 0 = vuse V 0 ∧ ∀ i, i < V.2.2.1 0 → (V.2.2.2 0 i).2.1 = 0
/-- the same, but for what doesn't count for room -/
def SM (V X : vV) : Prop := X.2 = V.2 ∧ vpe V.1 X.1 ∧ X.1 (3961 + 0) = V.1 (3961 + 0) ∧ X.1 (4066 + 0) = V.1 (4066 + 0)
theorem vl_at {z : Nat} : vat ([(0, z, 0, 0)] : List vP) 0 0 = 0 ∧ vln ([(0, z, 0, 0)] : List vP) 0 0 = z := ⟨by simp [vat, vkey], by simp [vln, vkey]⟩
theorem vf_one {z : Nat} : ([(0, z, 0, 0)] : List vP).filter (fun q => decide (q.2.2.1 ≠ 0)) = [] := by simp
theorem vud_us1 {w : Nat → Int32} {fr : Nat → vF} : ∀ {n : Nat}, (∀ i, i < n → (fr i).2.1 = 0) → vud w fr 0 n = vus w fr n := by
  intro n
  induction n with
  | zero => intro _; rfl
  | succ n ih =>
    intro h
    show vud w fr 0 n + (if (fr n).2.1 = 0 then vwd w (fr n).1 else 0) = vus w fr n + vwd w (fr n).1
    rw [ih (fun i hi => h i (by omega)), if_pos (h n (by omega))]
section
variable {V V' X U : vV} {lim k n f bk B z np y : Nat} {v v' : Int32} {F : vF}
theorem O1.of (hP : Vpre lim V 0 np y) (e : V.2.1 = [(0, z, 0, 0)]) : O1 V := by
  obtain ⟨hj, hc, -, -, -, -, hl, -, -⟩ := hP
  obtain ⟨c1, c2, ⟨c3, c3'⟩, c4, -, c6, c7, -⟩ := id hc
  have hnp : np = 1 := by
    by_cases c : 2 ≤ np
    · obtain ⟨q, q1, q2, q3⟩ := c4.1 1 (by omega)
      rw [e] at q1
      rw [List.mem_singleton.mp q1] at q3
      have q3 : (0 : Nat) = 1 := q3
      omega
    · omega
  subst hnp
  have hfr : ∀ i, i < V.2.2.1 0 → (V.2.2.2 0 i).2.1 = 0 := fun i hi => by
    have := ((c7 (by omega)).1.1 i hi).1
    omega
  refine ⟨vnp_of c2 c3', ?_, hfr⟩
  rw [hc.top, e]
  show vat ([(0, z, 0, 0)] : List vP) 0 0 + vud V.1 (V.2.2.2 0) 0 (V.2.2.1 0) = vuse V 0
  rw [vl_at.1, vud_us1 hfr, Nat.zero_add]
  unfold vuse
  rw [c6, nI_int (by have := (hc.n hj hl).2; omega)]
  rfl
theorem SM.wc (h : SM V X) (hp : Ipr V.1) (hf : f < 10) : swc X f = swc V f := by
  obtain ⟨e2, hw, e61, -⟩ := h
  unfold swc vlc vuse
  rw [e2, e61, (hw.mg hp hf).2]
theorem SM.o1 (h : SM V X) (ho : O1 V) (h10 : 0 < V.2.2.1 0 → (vlf V 0).1 < 10) : O1 X := by
  obtain ⟨e2, hw, e61, e66⟩ := h
  obtain ⟨o1, o2, o3⟩ := ho
  refine ⟨?_, ?_, by rw [e2]; exact o3⟩
  · unfold vnp at o1 ⊢
    rw [e66]
    exact o1
  · unfold vuse vtop vpl at o2 ⊢
    rw [e2, e61]
    by_cases c : V.2.2.1 0 = 0
    · rw [if_pos c] at o2 ⊢
      exact o2
    · rw [if_neg c] at o2 ⊢
      have hq : (V.2.2.2 0 (V.2.2.1 0 - 1)).1 < 10 := h10 (by omega)
      rw [(hw.sz hq).2.1]
      exact o2
theorem SM.trans (h : SM V X) (h' : SM X U) : SM V U := ⟨h'.1.trans h.1, h.2.1.trans h'.2.1, h'.2.2.1.trans h.2.2.1, h'.2.2.2.trans h.2.2.2⟩
theorem SM.o2 (h : SM V X) (hp : Ipr V.1) (ho : O1 X) (e : X.2.1 = [(0, z, 0, 0)]) (hf : f < 10) : (vlc X 0 = true ∨ vtop X 0 + vnd X.1 f ≤ vend X 0) ↔ swc V f ≤ z := by
  rw [← h.wc hp hf]
  have hE : vend X 0 = z := by
    unfold vend
    rw [ho.1, e]
    show vat ([(0, z, 0, 0)] : List vP) 0 0 + vln ([(0, z, 0, 0)] : List vP) 0 0 = z
    rw [vl_at.1, vl_at.2, Nat.zero_add]
  rw [hE, ho.2.1]
  unfold swc
  by_cases c : vlc X 0 = true
  · rw [if_pos c]
    exact ⟨fun _ => Nat.zero_le _, fun _ => Or.inl c⟩
  · rw [if_neg c]
    exact ⟨fun q => q.resolve_left c, Or.inr⟩
theorem sd_sm {W : vV} {wd : Int32} (hI : VI lim B W) (hb : vbz W.1 0) (hlm : lim ≤ 10000) (e : vhs W 0 wd = (true, X)) : SM W X := by
  obtain ⟨np, y, z2, z3, k, l, hP, -, -, -, ⟨q1, -, q3⟩, -, -, hsd, -, -⟩ := hI.opn (t := 0) (by omega) hb hlm
  obtain ⟨b1, -, b3, -⟩ := vhs_T hP (by rw [q1, nI_int (by omega)]; show (z3 : Int).toNat ≤ 3; omega) hsd e
  exact ⟨b1, fun i hi => b3 i (by omega) (by omega) (by omega) (by omega), b3 _ (by omega) (by omega) (by omega) (by omega), b3 _ (by omega) (by omega) (by omega) (by omega)⟩
/-- where the line comes next -/
theorem st3 (hI : VI lim B V) (hb : vbz V.1 0) (hlm : lim ≤ 10000) (c : (V.1 (3968 + 0)).toInt.toNat < vli V.1 (vlf V 0).1) : VI lim B (vs3 V) ∧ vbz (vs3 V).1 0 ∧ SM V (vs3 V) ∧ ∀ i, i ≠ 3947 → i ≠ 2056 → i ≠ 3968 → (vs3 V).1 i = V.1 i := by
  obtain ⟨np, y, z2, z3, k, l, hP, h0, -, -, -, -, ⟨l1, l2⟩, -⟩ := hI.opn (t := 0) (by omega) hb hlm
  obtain ⟨hH, h10⟩ := HB.of hI hb hlm
  have hli := (hI.2.1.li h10).2
  rw [l1, nI_int (by omega)] at c
  have c : l < vli V.1 (vlf V 0).1 := c
  have hI1 : VI lim B (vinc V (3947 + 0)) := hI.vs (by omega) hb (vown_t (c := 3947) (by omega)) (by omega) (fun e => absurd e (by omega))
  have hb1 : vbz (vinc V (3947 + 0)).1 0 := by unfold vbz; rw [vinc_ne (by omega)]; exact hb
  have hI2 : VI lim B (vcn (vinc V (3947 + 0)) 2 1) := hI1.vs (by omega) hb1 (Or.inl (by omega)) (by omega) (fun e => absurd e (by omega))
  have hb2 : vbz (vcn (vinc V (3947 + 0)) 2 1).1 0 := by unfold vbz; rw [vcn_ne (by omega)]; exact hb1
  have hL : (vcn (vinc V (3947 + 0)) 2 1).1 (3968 + 0) + 1 = nI (l + 1) := by rw [vcn_ne (by omega), vinc_ne (by omega), l1, nI_1]
  have hat : ∀ i, i ≠ 3947 → i ≠ 2056 → i ≠ 3968 → (vs3 V).1 i = V.1 i := fun i g1 g2 g3 => by
    unfold vs3
    rw [vs_ne (by omega), vcn_ne (by omega), vinc_ne (by omega)]
  refine ⟨hI2.vs (by omega) hb2 (vown_t (c := 3968) (by omega)) (by omega) (fun _ => ⟨l + 1, by omega, hL⟩), ?_, ⟨rfl, fun i hi => hat i (by omega) (by omega) (by omega), hat _ (by omega) (by omega) (by omega), hat _ (by omega) (by omega) (by omega)⟩, hat⟩
  unfold vbz
  rw [hat _ (by omega) (by omega) (by omega)]
  exact hb
/-! ### what is done to both -/
theorem AZ.fl (h : AZ z V V') : V'.2.1.filter (fun q => decide (q.2.2.1 ≠ 0)) = V.2.1.filter (fun q => decide (q.2.2.1 ≠ 0)) := by rw [h.2.1.1, h.2.1.2, vf_one, vf_one]
theorem AZ.en (h : AZ z V V') (hn : vnp V 0 = 1) : vend V 0 = 64 ∧ vend V' 0 = z := by
  unfold vend
  rw [h.1.np, hn, h.2.1.1, h.2.1.2]
  refine ⟨?_, ?_⟩
  · show vat ([(0, 64, 0, 0)] : List vP) 0 0 + vln ([(0, 64, 0, 0)] : List vP) 0 0 = 64
    rw [vl_at.1, vl_at.2]
  · show vat ([(0, z, 0, 0)] : List vP) 0 0 + vln ([(0, z, 0, 0)] : List vP) 0 0 = z
    rw [vl_at.1, vl_at.2, Nat.zero_add]
theorem AZ.cl (h : AZ z V V') (hf : f < 10) (ho : O1 V) (hz : z ≤ 64) (hs : swc V f ≤ z) {h2 : Int32 × Option (Nat × Nat)} : AZ z (vcl lim V 0 f bk h2) (vcl lim V' 0 f bk h2) := by
  have h1 : AZ z (vcn (vinc V (4003 + 0)) 3 1) (vcn (vinc V' (4003 + 0)) 3 1) := (h.inc (by unfold aw; omega)).vc (by omega)
  obtain ⟨e1, e2⟩ := h.en ho.1
  unfold vcl
  rw [h.1.lc, (h.1.mg hf).1]
  by_cases c : vlc V 0 = true
  · rw [if_pos c, if_pos c]
    exact (h.vc (k := 11) (by omega)).pu hf
  · have hs : vuse V 0 + vnd V.1 f ≤ z := by
      unfold swc at hs
      rw [if_neg c] at hs
      exact hs
    have r1 : vrm lim V 0 f = (true, vcn (vinc V (4003 + 0)) 3 1) := by
      unfold vrm
      dsimp only
      rw [ho.2.1, e1, if_pos (by omega)]
    have r2 : vrm lim V' 0 f = (true, vcn (vinc V' (4003 + 0)) 3 1) := by
      unfold vrm
      dsimp only
      rw [h.1.top, (h.1.mg hf).2, ho.2.1, e2, if_pos hs]
    rw [if_neg c, if_neg c, r1, r2]
    exact h1.pu hf
theorem vdn_p (e : V.2.1 = [(0, z, 0, 0)]) : (vdn vZ V 0 v).2.1 = [] := by
  have e1 : (vga (vs (vs V (3926 + 0) 3) (3940 + 0) v) 0).2.1 = [] := by
    rw [vga_2]
    show V.2.1.filter _ = []
    rw [e, vf_one]
  unfold vdn
  dsimp only
  split
  · exact e1
  · exact e1
theorem AZ.rt (h : AZ z V V') (hH : HB V) (ho : O1 V) : AY z (vrt vZ V 0 v) (vrt vZ V' 0 v) := by
  obtain ⟨hn, -, hF, -⟩ := hH
  have h1 := AQ.gn h hn
  unfold vrt
  dsimp only
  have ef : V'.2.2.2 0 (V'.2.2.1 0 - 1) = V.2.2.2 0 (V.2.2.1 0 - 1) := by
    rw [h.1.nn]
    exact h.1.ff (by omega)
  have em := h.1.own (c := 3933) (by omega)
  generalize hU : vnf (vs (vs V (3961 + 0) (V.1 (3961 + 0) - (V.1 (2228 + (V.2.2.2 0 (V.2.2.1 0 - 1)).1) + 2))) (3954 + 0) (V.1 (3954 + 0) - 1)) 0 (V.2.2.1 0 - 1) = U at *
  generalize vnf (vs (vs V' (3961 + 0) (V'.1 (3961 + 0) - (V'.1 (2228 + (V'.2.2.2 0 (V'.2.2.1 0 - 1)).1) + 2))) (3954 + 0) (V'.1 (3954 + 0) - 1)) 0 (V'.2.2.1 0 - 1) = U' at *
  rw [ef, h.1.nn, em]
  by_cases c : V.2.2.1 0 - 1 = 0
  · rw [if_pos c, if_pos c]
    exact Or.inr ⟨(AQ.dn h1 (AZ.fl h1)).1, vdn_p h1.2.1.1⟩
  · rw [if_neg c, if_neg c]
    have hF2 := hF (by omega)
    have hUn : U.2.2.1 0 = V.2.2.1 0 - 1 := by
      rw [← hU]
      show mj_upd V.2.2.1 0 (V.2.2.1 0 - 1) 0 = _
      exact mj_upd_self
    have hl : ∀ X : vV, (if V.1 (3933 + 0) = 1 then vlv X 0 (V.2.2.2 0 (V.2.2.1 0 - 1)) else X) = X := fun X => by
      by_cases c2 : V.1 (3933 + 0) = 1
      · rw [if_pos c2]
        unfold vlv
        exact if_pos (Or.inr (ho.2.2 _ (by omega)))
      · rw [if_neg c2]
    rw [hl, hl]
    exact Or.inl (AQ.bk1 h1 h.1.pe (by rw [hUn]; omega) hF2)
theorem vqu_one (e : V.2.1 = [(0, z, 0, 0)]) (e2 : V.1 2048 = nI z) (hz : 1 ≤ z ∧ z ≤ 2048) : (vqu lim V 0).2 = V := by
  have h1 : vln ([(0, z, 0, 0)] : List vP) 0 0 / 2 < (nI z).toInt.toNat := by
    rw [vl_at.2, nI_int (by omega)]
    omega
  unfold vqu
  rw [e, e2]
  by_cases c : V.1 (3933 + 0) = 1
  · rw [if_pos c]
    show vsp V 0 = V
    unfold vsp
    rw [e]
    exact if_neg (by simp [vkey])
  · rw [if_neg c, if_pos (Or.inr h1)]
theorem AZ.fg {wd f slot : Int32} (h : AZ z V V') (hI : VI lim B V) (hb : vbz V.1 0) (hlm : lim ≤ 10000) (hH : HB V) (ho : O1 V) (hz : z ≤ 64) (hs : (vhs V 0 wd).1 = true → tld V.1 f → swc V f.toInt.toNat ≤ z) : AY z (vfg lim V 0 wd f slot) (vfg lim V' 0 wd f slot) := by
  rcases AQ.hs (wd := wd) h hH.2.2.2 h.fl with ⟨X, X', e1, e2, e3⟩ | ⟨X, X', e1, e2, e3, e4⟩
  · unfold vfg
    rw [e1, e2]
    rcases e3 with e3 | e3
    · exact Or.inl e3.1
    · refine Or.inr ⟨e3.1.1, ?_⟩
      show X.2.1 = []
      rw [e3.2, h.2.1.1, vf_one]
  · have hn : 0 < X.2.2.1 0 := by rw [e4]; exact hH.1
    have hS := sd_sm hI hb hlm e1
    unfold vfg
    rw [e1, e2]
    dsimp only
    rw [e3.1.lf hn, e3.1.own (c := 3968) (by omega), e3.1.nn]
    by_cases c : tld X.1 f
    · have hf : f.toInt.toNat < 10 := by have := c.1; omega
      rw [if_pos c, if_pos (e3.1.pe.tl.mpr c), e3.1.ha hf (e3.1.lf10 hn)]
      refine Or.inl (AZ.cl e3 hf (hS.o1 ho (fun h0 => h.1.lf10 h0)) hz ?_)
      rw [hS.wc hI.2.1 hf]
      exact hs (by rw [e1]) (hS.2.1.tl.mp c)
    · rw [if_neg c, if_neg (fun q => c (e3.1.pe.tl.mp q))]
      exact Or.inl (AQ.nu e3 (show X.2.2.1 0 - 1 < X.2.2.1 0 by omega)).fv
theorem AZ.ln {l : Nat} {kind a b c : Int32} (h : AZ z V V') (hI : VI lim B V) (hb : vbz V.1 0) (hlm : lim ≤ 10000) (hH : HB V) (ho : O1 V) (hz : 1 ≤ z ∧ z ≤ 64) (hc : vcan V.1 (vlf V 0).1 kind a b c) (h6 : kind = 6 → tld V.1 a → swc V a.toInt.toNat ≤ z) (h9 : kind = 9 → (vhs V 0 a).1 = true → tld V.1 b → swc V b.toInt.toNat ≤ z) : AY z (vln1 lim vZ V 0 l kind a b c) (vln1 lim vZ V' 0 l kind a b c) := by
  have hn := hH.1
  have hl := h.1.lf hn
  have h10 := h.1.lf10 hn
  unfold vln1
  dsimp only
  rw [hl, h.1.nn]
  by_cases c0 : kind = 0
  · rw [if_pos c0, if_pos c0]; exact Or.inl (h.nu (by omega))
  rw [if_neg c0, if_neg c0]
  by_cases c1 : kind = 1
  · rw [if_pos c1, if_pos c1]; exact Or.inl (h.nu (by omega))
  rw [if_neg c1, if_neg c1]
  by_cases c2 : kind = 2
  · rw [if_pos c2, if_pos c2]; exact Or.inl (h.nu (by omega))
  rw [if_neg c2, if_neg c2]
  by_cases c3 : kind = 3
  · rw [if_pos c3, if_pos c3]; exact Or.inl (h.po (by omega))
  rw [if_neg c3, if_neg c3]
  by_cases c4 : kind = 4
  · rw [if_pos c4, if_pos c4]
    cases e : (vlf V 0).2.2.2.2.2 b.toInt.toNat with
    | none => exact Or.inl (h.nu (by omega))
    | some q =>
      have hq := hH.ptr h.1.1 h10 (hc.2.2.2.2.1 c4).2 e
      dsimp only
      rw [h.1.ff hq]
      exact Or.inl (h.nu (by omega))
  rw [if_neg c4, if_neg c4]
  by_cases c5 : kind = 5
  · rw [if_pos c5, if_pos c5]
    cases e : (vlf V 0).2.2.2.2.2 a.toInt.toNat with
    | none => exact Or.inl h
    | some q => exact Or.inl (h.nu (hH.ptr h.1.1 h10 (hc.2.2.2.2.2.1 c5).1 e))
  rw [if_neg c5, if_neg c5]
  by_cases c6 : kind = 6
  · rw [if_pos c6, if_pos c6]
    by_cases ct : tld V.1 a
    · have hf : a.toInt.toNat < 10 := by have := ct.1; omega
      rw [if_pos ct, if_pos (h.1.pe.tl.mpr ct), h.1.ha hf h10]
      exact Or.inl (AZ.cl h hf ho hz.2 (h6 c6 ct))
    · rw [if_neg ct, if_neg (fun q => ct (h.1.pe.tl.mp q))]
      exact Or.inl (h.nu (by omega))
  rw [if_neg c6, if_neg c6]
  by_cases c7 : kind = 7
  · rw [if_pos c7, if_pos c7]
    by_cases ct : (vnm (vlf V 0) a).toInt ≤ 0
    · rw [if_pos ct, if_pos ct]; exact Or.inl h
    · rw [if_neg ct, if_neg ct]; exact Or.inl (h.vss (by unfold aw; omega) (fun _ => rfl))
  rw [if_neg c7, if_neg c7]
  by_cases c8 : kind = 8
  · rw [if_pos c8, if_pos c8]; exact AZ.rt h hH ho
  rw [if_neg c8, if_neg c8]
  by_cases c9 : kind = 9
  · rw [if_pos c9, if_pos c9]; exact AZ.fg h hI hb hlm hH ho hz.2 (h9 c9)
  rw [if_neg c9, if_neg c9]
  rw [vqu_one h.2.1.1 h.2.2.1 (by omega), vqu_one h.2.1.2 h.2.2.2 (by omega)]
  exact Or.inl h
theorem AZ.s3 (h : AZ z V V') : AZ z (vs3 V) (vs3 V') := by
  have h1 : AZ z (vcn (vinc V (3947 + 0)) 2 1) (vcn (vinc V' (3947 + 0)) 2 1) := (h.inc (i := 3947 + 0) (by unfold aw; omega)).vc (by omega)
  unfold vs3
  rw [h1.1.own (c := 3968) (by omega)]
  exact h1.vss (by unfold aw; omega) (fun _ => rfl)
theorem AZ.st (h : AZ z V V') (hI : VI lim B V) (hb : vbz V.1 0) (hlm : lim ≤ 10000) (hz : 1 ≤ z ∧ z ≤ 64) (hs : sw V ≤ z) : AY z (vst lim vZ V 0) (vst lim vZ V' 0) := by
  obtain ⟨hH, h10⟩ := HB.of hI hb hlm
  have hn := hH.1
  obtain ⟨np, y, z2, z3, k, l, hP, -⟩ := hI.opn (t := 0) (by omega) hb hlm
  have ho := O1.of hP h.2.1.1
  have h1 : AZ z (vcn (vinc V (3947 + 0)) 2 1) (vcn (vinc V' (3947 + 0)) 2 1) := (h.inc (i := 3947 + 0) (by unfold aw; omega)).vc (by omega)
  have hp1 : vpe V.1 (vcn (vinc V (3947 + 0)) 2 1).1 := (vpe.upd (by omega)).trans (vpe.upd (by omega))
  have e52 : (vcn (vinc V (3947 + 0)) 2 1).1 2052 = V.1 2052 := (vcn_ne (by omega)).trans (vinc_ne (by omega))
  have hs1 : SM V (vcn (vinc V (3947 + 0)) 2 1) := ⟨rfl, hp1, (vcn_ne (by omega)).trans (vinc_ne (by omega)), (vcn_ne (by omega)).trans (vinc_ne (by omega))⟩
  unfold vst
  dsimp only
  rw [h.1.lf hn, h.1.own (c := 3968) (by omega), (h.1.pe.sz h10).2.2.1]
  by_cases c : (V.1 (3968 + 0)).toInt.toNat < vli V.1 (vlf V 0).1
  · have hl16 := (hI.2.1.li h10).2
    have hlin := (hI.2.1 _ h10).2.2 _ c
    obtain ⟨hI3, hb3, hs3, hat3⟩ := st3 hI hb hlm c
    have h3 := h.s3
    have hsw := hs
    unfold sw at hsw
    rw [if_pos c] at hsw
    rw [if_pos c, if_pos c, h.1.pe.co0 h10 (by omega), h.1.pe.co h10 (by omega) (j := 1) (by omega), h.1.pe.co h10 (by omega) (j := 2) (by omega), h.1.pe.co h10 (by omega) (j := 3) (by omega)]
    have el : vlf (vs3 V) 0 = vlf V 0 := by unfold vlf; rw [hs3.1]
    refine AZ.ln (V := vs3 V) (V' := vs3 V') h3 hI3 hb3 hlm (hH.same h10 hs3.1 hs3.2.1 (hat3 _ (by omega) (by omega) (by omega))) (hs3.o1 ho (fun _ => h10)) hz ?_ (fun k6 ct => ?_) (fun k9 cb ct => ?_)
    · rw [el]
      exact vcan_eq (hs3.2.1 _ (Or.inl (by omega))) (hs3.2.1 _ (Or.inl (by omega))) hlin
    · have ct0 := hs3.2.1.tl.mp ct
      rw [if_pos k6, if_pos ct0] at hsw
      rw [hs3.wc hI.2.1 (by have := ct.1; omega)]
      exact hsw
    · have ct0 := hs3.2.1.tl.mp ct
      rw [if_neg (by rw [k9]; decide), if_pos k9, if_pos ⟨cb, ct0⟩] at hsw
      rw [hs3.wc hI.2.1 (by have := ct.1; omega)]
      exact hsw
  · rw [if_neg c, if_neg c]
    exact AZ.rt h1 (hH.same h10 rfl hp1 e52) (hs1.o1 ho (fun _ => h10))
theorem AZ.swe (h : AZ z V V') (hI : VI lim B V) (hb : vbz V.1 0) (hlm : lim ≤ 10000) : sw V' = sw V := by
  obtain ⟨hH, h10⟩ := HB.of hI hb hlm
  have hn := hH.1
  have hwc : ∀ f, f < 10 → swc V' f = swc V f := fun f hf => by
    unfold swc
    rw [h.1.lc, h.1.use, (h.1.mg hf).2]
  unfold sw
  rw [h.1.lf hn, h.1.own (c := 3968) (by omega), (h.1.pe.sz h10).2.2.1]
  by_cases c : (V.1 (3968 + 0)).toInt.toNat < vli V.1 (vlf V 0).1
  · have hl16 := (hI.2.1.li h10).2
    obtain ⟨hI3, hb3, hs3, hat3⟩ := st3 hI hb hlm c
    have h3 := h.s3
    rw [if_pos c, if_pos c, h.1.pe.co0 h10 (by omega), h.1.pe.co h10 (by omega) (j := 1) (by omega), h.1.pe.co h10 (by omega) (j := 2) (by omega)]
    generalize V.1 (vco (vlf V 0).1 (V.1 (3968 + 0)).toInt.toNat) = K
    generalize V.1 (vco (vlf V 0).1 (V.1 (3968 + 0)).toInt.toNat + 1) = A
    generalize V.1 (vco (vlf V 0).1 (V.1 (3968 + 0)).toInt.toNat + 2) = Bb
    by_cases k6 : K = 6
    · rw [if_pos k6, if_pos k6]
      by_cases ct : tld V.1 A
      · rw [if_pos ct, if_pos (h.1.pe.tl.mpr ct)]
        exact hwc _ (by have := ct.1; omega)
      · rw [if_neg ct, if_neg (fun q => ct (h.1.pe.tl.mp q))]
    rw [if_neg k6, if_neg k6]
    by_cases k9 : K = 9
    · rw [if_pos k9, if_pos k9]
      have hv : (vhs (vs3 V') 0 A).1 = (vhs (vs3 V) 0 A).1 := by
        rcases AQ.hs (wd := A) h3 (hH.same h10 hs3.1 hs3.2.1 (hat3 _ (by omega) (by omega) (by omega))).2.2.2 h3.fl with ⟨X, X', e1, e2, -⟩ | ⟨X, X', e1, e2, -⟩ <;> rw [e1, e2]
      by_cases ct : (vhs (vs3 V) 0 A).1 = true ∧ tld V.1 Bb
      · rw [if_pos ct, if_pos ⟨by rw [hv]; exact ct.1, h.1.pe.tl.mpr ct.2⟩]
        exact hwc _ (by have := ct.2.1; omega)
      · rw [if_neg ct, if_neg (fun q => ct ⟨by rw [← hv]; exact q.1, h.1.pe.tl.mp q.2⟩)]
    rw [if_neg k9, if_neg k9]
  · rw [if_neg c, if_neg c]
end
end
section
/-! ===== the class: how far a checked call would have to reach ===== -/
/-- it answers -1 -/
def FV (x1 : Int32) (x : Option (Int32 × wt_S)) : Prop := ∀ r s', x = some (r, s') → FX 57 14 14 x1 x1 s' ∧ r = -1
section
variable {α : Type} {s s1 : wt_S} {V V1 : vV} {x1 : Int32} {zs : List (vP × Nat)} {fr : List Nat} {np y z2 k f l r B x : Nat}
theorem fv_some (h : FX 57 14 14 x1 x1 s) : FV x1 (some ((-1 : Int32), s)) := fun _ _ e => by cases e; exact ⟨h, rfl⟩
theorem fv_cl {y : Option (α × wt_S)} {F : α → wt_S → Option (Int32 × wt_S)} (h : FZ 57 14 14 x1 x1 y) (hF : ∀ r s1, FX 57 14 14 x1 x1 s1 → FV x1 (F r s1)) : FV x1 (wt_cl y F) := by
  cases y with
  | none => exact fun _ _ e => by cases e
  | some p => exact hF p.1 p.2 (h p.1 p.2 rfl)
theorem xc_225 (h : FX 57 14 14 x1 x1 s) : FZ 57 14 14 x1 x1 (gX2_makeStep_225 40 57 s) := by
  unfold gX2_makeStep_225
  exact fz_if (fz_some h) (fz_cl (xcX9_add h) (fun _ _ h1 => fz_some h1))
theorem xc_208 {a b : Int32} (h : FX 57 14 14 x1 x1 s) : FZ 57 14 14 x1 x1 (gX2_makeStep_208 40 57 s a b) := by
  unfold gX2_makeStep_208
  exact fz_if (xc_225 h) (fz_cl (xcX2_enter h) (fun _ _ h1 => xc_225 h1))
theorem xc_191m (h : FX 57 14 14 x1 x1 s) : FZ 57 14 14 x1 x1 (gX2_makeStep_191 40 57 s (-1)) := by
  unfold gX2_makeStep_191
  rw [if_neg (by simp)]
  exact xc_208 h
theorem fv_191 {y : Option (Int32 × wt_S)} (h : FV x1 y) : FZ 57 14 14 x1 x1 (wt_cl y fun v s1 => gX2_makeStep_191 40 57 s1 v) := by
  cases y with
  | none => exact fz_none
  | some p =>
    obtain ⟨v, s1⟩ := p
    obtain ⟨h1, h2⟩ := h v s1 rfl
    subst h2
    exact xc_191m h1
theorem swc_lt (hP : Vpre 2048 V 0 np y) (hf : f < 10) : swc V f ≤ 2148 := by
  obtain ⟨hj, hc, -, -, -, -, hl, -, -⟩ := hP
  have h1 := vnd_le hj.1 hf
  have h2 := (hc.n hj hl).2
  have h3 : vuse V 0 = vus V.1 (V.2.2.2 0) (V.2.2.1 0) := by
    unfold vuse
    rw [hc.2.2.2.2.2.1, nI_int (by omega)]
    rfl
  unfold swc
  split <;> omega
theorem xc_room (h : RC 40 2048 s V zs fr) (hP : Vpre 2048 V 0 np y) (hf : f < 10) (hs1 : 1 ≤ vsz V.1 f) (hmg : V.1 2050 = 0 ∨ V.1 2050 = 1) (hr : V.1 2051 = nI z2) (hz2 : z2 ≤ 80) (h14 : s 57 14 = nI r) (hr14 : r ≤ 5000) : FZ 57 14 14 (nI (max r (swc V f))) (nI (max r (swc V f))) (gX2_roomFor 40 57 s (nI f)) := by
  have hx := cx40 (lim := 2048) (by omega)
  have hlt := swc_lt hP hf
  obtain ⟨hj, hc, -, hz, h8, hzl, hl, hl2, hq⟩ := hP
  have q1 : gX9_lastCovered 40 57 s = some (rb (vlc V 0 = true), s) := c_lastCovered h hx hj hc (by omega)
  unfold gX2_roomFor
  rw [q1, cl_some, if_rb]
  by_cases cv : vlc V 0 = true
  · have e : swc V f = 0 := by unfold swc; rw [if_pos cv]
    rw [if_pos cv, e, Nat.max_zero]
    exact fz_cl (xcX9_add ⟨h14, h14⟩) (fun _ _ h1 => fz_some h1)
  · have e : swc V f = vuse V 0 + vnd V.1 f := by unfold swc; rw [if_neg cv]
    have q2 : gX9_needOf 40 s (nI f) = some (nI (vnd V.1 f), s) := c_needOf h.2.2.2.2.2 h.2.2.1 hj.1 hf hs1 hmg hr hz2
    obtain ⟨s1, a1, a2, a3, -⟩ := c_adds h hx hj.1 hj.vfr (t := 0) (by omega) (e := (3, 4003)) (by decide) (v := 1)
    have a1 : gX9_add 40 57 s 3 1 = some ((), s1) := a1
    have f1 : s1 57 14 = nI r := (xcX9_add ⟨h14, h14⟩ _ _ a1).1
    have hu : s1 57 5 = nI (vuse V 0) := by
      have h1 : s1 57 5 = (vcn (vs V (4003 + 0) (V.1 (4003 + 0) + 1)) 3 1).1 (3961 + 0) := a2.at (t := 0) (by omega) (e := (5, 3961)) (by decide)
      have h2 := (hc.n hj hl).2
      rw [h1, vcn_ne (by omega), vs_ne (by omega), hc.2.2.2.2.2.1]
      unfold vuse
      rw [hc.2.2.2.2.2.1, nI_int (by omega)]
      rfl
    have hm : gJ9_max_7cf53 s1 (nI r) (nI (vuse V 0 + vnd V.1 f)) = some (nI (max r (vuse V 0 + vnd V.1 f)), s1) := by
      unfold gJ9_max_7cf53
      rw [nI_int (by omega), nI_int (by omega)]
      by_cases c : r < vuse V 0 + vnd V.1 f
      · rw [if_pos (by omega), Nat.max_eq_right (by omega)]
      · rw [if_neg (by omega), Nat.max_eq_left (by omega)]
    rw [e]
    rw [if_neg cv, q2, cl_some, a1, cl_some, f1, hu, nI_add, hm, cl_some, wr_eq]
    have h2 : FX 57 14 14 (nI (max r (vuse V 0 + vnd V.1 f))) (nI (max r (vuse V 0 + vnd V.1 f))) (wt_u s1 57 14 (nI (max r (vuse V 0 + vnd V.1 f)))) := ⟨wt_u_self, wt_u_self⟩
    generalize wt_u s1 57 14 (nI (max r (vuse V 0 + vnd V.1 f))) = S at *
    exact fz_cl (xcX5_wordsOf h2) (fun _ _ h3 => fz_cl (xcX5_usedOf h3) (fun _ _ h4 => fz_if (xcX2_roomFor_150 h4) (fz_if (fz_cl (xcX4_doubled h4) (fun _ _ h5 => fz_cl (xcX4_moveInto h5) (fun _ _ h6 => xcX2_roomFor_135 h6))) (fz_cl (xcX4_linkPiece h4) (fun _ _ h5 => xcX2_roomFor_135 h5)))))
theorem xc_191 (h : RC 40 2048 s V zs fr) (hP : Vpre 2048 V 0 np y) (hf : f < 10) (hs1 : 1 ≤ vsz V.1 f) (hmg : V.1 2050 = 0 ∨ V.1 2050 = 1) (hr : V.1 2051 = nI z2) (hz2 : z2 ≤ 80) (h14 : s 57 14 = nI r) (hr14 : r ≤ 5000) : FZ 57 14 14 (nI (max r (swc V f))) (nI (max r (swc V f))) (gX2_makeStep_191 40 57 s (nI f)) := by
  unfold gX2_makeStep_191
  rw [if_pos (nI_m1 (by omega))]
  exact fz_cl (xc_room h hP hf hs1 hmg hr hz2 h14 hr14) (fun _ _ h1 => xc_208 h1)
/-- a side is there -/
theorem xc_fg1 {Bf : Int32} (h : LC 40 2048 s V zs fr 0 l) (hI : VI 2048 B V) (hb : vbz V.1 0) (h9 : V.1 (vco (vlf V 0).1 l) = 9) (e1 : V.1 (vco (vlf V 0).1 l + 1) = nI x) (hx1 : 1 ≤ x ∧ x ≤ 40) (e2 : V.1 (vco (vlf V 0).1 l + 2) = Bf) (hR : RC 40 2048 s1 V1 zs fr) (hsd : vsd V 0 = some V1) (h14 : s1 57 14 = nI r) (hr14 : r ≤ 5000) (G : Nat) (hG : G = max r (if (vhs V 0 (nI x)).1 = true ∧ tld V.1 Bf then swc V Bf.toInt.toNat else 0)) :
    FZ 57 14 14 (nI G) (nI G) (wt_cl (gX2_callForeign_19 40 57 s1 (nI l)) fun v22 s21 => gX2_makeStep_191 40 57 s21 v22) := by
  obtain ⟨-, hx, -, ht, -, h75, hl⟩ := h
  obtain ⟨np, z, z2, z3, k, l2, hP, h0, -, ⟨r1, -, r2⟩, ⟨hz3, -, hz33⟩, ⟨k1, k2⟩, -, -, hbg, -⟩ := hI.opn ht hb (by omega)
  have hP0 := hP
  obtain ⟨hj, hc, -, hz, h8, hzl, -, -, hq⟩ := hP
  obtain ⟨n1, n2, n3⟩ := hc.mn
  obtain ⟨d1, d2, d3, d4, d5⟩ := hc.2.2.2.2.2.2.1 h0
  have hi0 : V.2.2.1 0 - 1 < V.2.2.1 0 := by omega
  have hft : (vlf V 0).1 < 10 := (d3.1 _ hi0).1
  have hl16 : l < 16 := by have := (hj.1.li hft).2; omega
  obtain ⟨zs0, zs1, zs2⟩ := hI.1.2.2.2.2.2
  obtain ⟨n, np', o1, -, -, -, -, -, -, -, -, -, -, -, -, o14, o15, o16, -⟩ := (hI.bz ht h0).2
  rw [← o1] at o14 o15 o16
  obtain ⟨hO, hsd1, e2', ⟨ks, ks1, ks2, ks3, ks4, hw⟩, hV1⟩ := vsd_ot hI ht (by rw [hz3, nI_int (by omega)]; show (z3 : Int).toNat ≤ 3; omega) hsd
  have hsc : ∀ i, i ≠ 3989 + 0 → (i < 3923 ∨ 3926 ≤ i) → V1.1 i = V.1 i := fun i g1 g2 => hw i g1 (by omega)
  have h96 : (vs V1 (3926 + 0) 1).1 (3996 + 0) + nI x = nI (vos V.1 (V.2.2.2 0) (V.2.2.1 0) + x) := by
    rw [vs_ne (by omega), hsc _ (by omega) (by omega), o14, nI_add]
  have h53 : ((vs V1 (3926 + 0) 1).1 2053).toInt = zs0 := by rw [vs_ne (by omega), hsc _ (by omega) (by omega), zs1, nI_int (by omega)]
  have hO2 : OT 0 V (vs V1 (3926 + 0) 1) := hO.trans (OT.vs ht (vown_t (c := 3926) (by omega)))
  have hj1 : VJ 2048 V1 := hj.ww hO.1 e2'
  have hj2 : VJ 2048 (vs V1 (3926 + 0) 1) := VJ.vs hj1 (by omega)
  have hst1 : V1.1 (3926 + 0) ≠ 0 := by
    rw [hsc _ (by omega) (by omega)]
    rcases hb with e | e <;> rw [e] <;> decide
  have hlf2 : vlf (vs V1 (3926 + 0) 1) 0 = vlf V 0 := by unfold vlf; show V1.2.2.2 0 (V1.2.2.1 0 - 1) = _; rw [e2']
  have a1 : RC 40 2048 (wt_u s1 (40 + 17 + 2 * 0) 1 1) (vs V1 (3926 + 0) 1) zs fr := hR.ut hx hj1.1 hj1.vfr ht (e := (1, 3926)) (by decide) (v := 1) (fun _ _ => hst1)
  have hl2 : LC 40 2048 (wt_u s1 (40 + 17 + 2 * 0) 1 1) (vs V1 (3926 + 0) 1) zs fr 0 l := ⟨a1, hx, hj2, ht, by show 0 < V1.2.2.1 0; rw [e2']; exact h0, by rw [hlf2, vs_ne (by omega), hsc _ (by omega) (by omega)]; exact h75, by rw [hlf2, (hO2.1.sz hft).2.2.1]; exact hl⟩
  have e7 : s1 57 7 = nI ks := (hR.at ht (e := (7, 3989)) (by decide)).trans ks2
  have p1 : (vs V1 (3926 + 0) 1).1 (vco (vlf V 0).1 l + 1) = nI x := (hO2.1.co hft hl16 (by omega)).trans e1
  have hl2' : l < vli (vs V1 (3926 + 0) 1).1 (vlf V 0).1 := by rw [(hO2.1.sz hft).2.2.1]; exact hl
  have t9 := hl2.t9
  rw [hlf2] at t9
  have a1 : RC 40 2048 (wt_u s1 57 1 1) (vs V1 (3926 + 0) 1) zs fr := a1
  have t9 : wt_u s1 57 1 1 57 9 = nI (vlf V 0).1 := t9
  have hX1 : FX 57 14 14 (nI r) (nI r) (wt_u s1 57 1 1) := fx_u ⟨h14, h14⟩ (Or.inr ⟨by decide, by decide⟩)
  have hr0 : max r 0 = r := Nat.max_eq_left (Nat.zero_le _)
  unfold gX2_callForeign_19
  rw [e7, if_pos (nI_m1 (by omega)), wr_eq, t9, c_part1 a1.2.2.2.2.2 hj2.1 hft hl2', cl_some, p1, show (wt_u s1 57 1 1) 57 8 = (vs V1 (3926 + 0) 1).1 (3996 + 0) from a1.at ht (e := (8, 3996)) (by decide), show (wt_u s1 57 1 1) (40 + 1) 5 = (vs V1 (3926 + 0) 1).1 2053 from a1.2.2.1.1 5 (by omega), h96, h53, nI_int (by omega)]
  by_cases cs : vos V.1 (V.2.2.2 0) (V.2.2.1 0) + x ≤ zs0
  · rw [vhs_1 hsd (by rw [h96, h53, nI_int (by omega)]; omega), h96] at hG
    rw [if_pos (by omega), wr_eq]
    have a2 : RC 40 2048 (wt_u (wt_u s1 57 1 1) 57 8 (nI (vos V.1 (V.2.2.2 0) (V.2.2.1 0) + x))) (vs (vs V1 (3926 + 0) 1) (3996 + 0) (nI (vos V.1 (V.2.2.2 0) (V.2.2.1 0) + x))) zs fr := a1.ut hx hj2.1 hj2.vfr ht (e := (8, 3996)) (by decide) (fun q => absurd q (by decide))
    have hX2 : FX 57 14 14 (nI r) (nI r) (wt_u (wt_u s1 57 1 1) 57 8 (nI (vos V.1 (V.2.2.2 0) (V.2.2.1 0) + x))) := fx_u hX1 (Or.inr ⟨by decide, by decide⟩)
    generalize wt_u (wt_u s1 57 1 1) 57 8 (nI (vos V.1 (V.2.2.2 0) (V.2.2.1 0) + x)) = s3 at *
    generalize hV3 : vs (vs V1 (3926 + 0) 1) (3996 + 0) (nI (vos V.1 (V.2.2.2 0) (V.2.2.1 0) + x)) = V3 at *
    have g3 : ∀ i, i ≠ 3989 + 0 → i ≠ 3923 + ks → i ≠ 3926 + 0 → i ≠ 3996 + 0 → V3.1 i = V.1 i := fun i q1 q2 q3 q4 => by rw [← hV3, vs_ne q4, vs_ne q3, hw i q1 q2]
    have e32 : V3.2 = V.2 := by rw [← hV3]; exact e2'
    have hw3 : vpe V.1 V3.1 := fun i hi => g3 i (by omega) (by omega) (by omega) (by omega)
    have hj3 : VJ 2048 V3 := hj.ww hw3 e32
    have hlf : vlf V3 0 = vlf V 0 := by unfold vlf; rw [e32]
    have hl3 : LC 40 2048 s3 V3 zs fr 0 l := ⟨a2, hx, hj3, ht, by rw [e32]; exact h0, by rw [hlf, g3 _ (by omega) (by omega) (by omega) (by omega)]; exact h75, by rw [hlf, (hw3.sz hft).2.2.1]; exact hl⟩
    have hl3' : l < vli V3.1 (vlf V 0).1 := by rw [(hw3.sz hft).2.2.1]; exact hl
    have t9 := hl3.t9
    rw [hlf] at t9
    have t9 : s3 57 9 = nI (vlf V 0).1 := t9
    have p2 : V3.1 (vco (vlf V 0).1 l + 2) = Bf := (hw3.co hft hl16 (by omega)).trans e2
    rw [t9, c_part2 a2.2.2.2.2.2 hj3.1 hft hl3', cl_some, p2, c_told a2.2.2.2.2.2, cl_some, if_rb]
    by_cases ct : tld V3.1 Bf
    · have ct0 : tld V.1 Bf := hw3.tl.mp ct
      rw [if_pos ⟨rfl, ct0⟩] at hG
      rw [if_pos ct, cl_some]
      obtain ⟨f', f10, hf', hfn, hs1⟩ := tld_nat ct
      have hP3 : Vpre 2048 V3 0 np z := hP0.ww e32 (fun i hi _ => g3 i (by omega) (by omega) (by omega) (by omega)) (fun c hc => g3 _ (by omega) (by omega) (by omega) (by omega))
      have hS : SM V V3 := ⟨e32, hw3, g3 _ (by omega) (by omega) (by omega) (by omega), g3 _ (by omega) (by omega) (by omega) (by omega)⟩
      rw [hfn, ← hS.wc hj.1 f10] at hG
      rw [hf', hG]
      exact xc_191 a2 hP3 f10 hs1 (by rw [g3 _ (by omega) (by omega) (by omega) (by omega)]; exact hI.1.2.2.1) (by rw [g3 _ (by omega) (by omega) (by omega) (by omega)]; exact r1) r2 hX2.1 hr14
    · rw [if_neg (fun q => ct (hw3.tl.mpr q.2)), hr0] at hG
      rw [if_neg ct, hG]
      exact fv_191 (fv_cl (xcX6_part hX2) (fun _ _ h3 => fv_cl (xcX3_word h3) (fun _ _ h4 => fv_cl (xcX3_put h4) (fun _ _ h5 => fv_cl (xcX2_endForeign h5) (fun _ _ h6 => fv_some h6)))))
  · rw [vhs_2 hsd (by rw [h96, h53, nI_int (by omega)]; omega), if_neg (fun q => by cases (show false = true from q.1)), hr0] at hG
    rw [if_neg (by omega), hG]
    exact fv_191 (fv_cl (xcX2_end hX1) (fun _ _ h3 => fv_some h3))
theorem xc_foreign {A Bf C : Int32} (h : LC 40 2048 s V zs fr 0 l) (hI : VI 2048 B V) (hb : vbz V.1 0) (h9 : V.1 (vco (vlf V 0).1 l) = 9) (e1 : V.1 (vco (vlf V 0).1 l + 1) = A) (e2 : V.1 (vco (vlf V 0).1 l + 2) = Bf) (h14 : s 57 14 = nI r) (hr14 : r ≤ 5000) (G : Nat) (hG : G = max r (if (vhs V 0 A).1 = true ∧ tld V.1 Bf then swc V Bf.toInt.toNat else 0)) :
    FZ 57 14 14 (nI G) (nI G) (wt_cl (gX2_callForeign 40 57 s (nI l)) fun v22 s21 => gX2_makeStep_191 40 57 s21 v22) := by
  have h' := h
  obtain ⟨hR, hx, hj, ht, h0, h75, hl⟩ := h'
  obtain ⟨np, z, z2, z3, k, l2, hP, -, -, -, ⟨hz3, -, hz33⟩, -, -, -, -, -⟩ := hI.opn ht hb (by omega)
  have hft := h.f.1
  have hv := (hI.2.1 _ hft).2.2 l hl
  unfold vlin vcan at hv
  obtain ⟨⟨x, xx, x1, x2⟩, -, -⟩ := hv.2.2.2.2.2.2.2.2.2 h9
  rw [e1] at xx
  subst xx
  have hzz : (V.1 2052).toInt.toNat = z3 := by rw [hz3, nI_int (by omega)]; rfl
  have e7 : s 57 7 = V.1 (3989 + 0) := hR.at ht (e := (7, 3989)) (by decide)
  unfold gX2_callForeign
  by_cases c89 : V.1 (3989 + 0) = -1
  · rw [e7, c89, if_neg (by simp), c_freeSide hR hI.2.2.2.1 (fun t' ht' k hk e => hI.sdt ht' hk e) hz3 hz33, cl_some, wr_eq]
    have hvsd : vsd V 0 = (match vfs V.1 z3 0 with
      | none => none
      | some k => some (vs (vs V (3923 + k) (nI 0)) (3989 + 0) (nI k))) := by
      unfold vsd
      rw [if_pos c89, hzz]
      cases vfs V.1 z3 0 <;> rfl
    cases hv : vfs V.1 z3 0 with
    | none =>
      rw [hv] at hvsd
      rw [vhs_0 hvsd, if_neg (fun q => by cases (show false = true from q.1)), Nat.max_eq_left (Nat.zero_le _)] at hG
      rw [hG]
      have hX : FX 57 14 14 (nI r) (nI r) (wt_u s 57 7 (-1)) := fx_u ⟨h14, h14⟩ (Or.inr ⟨by decide, by decide⟩)
      show FZ 57 14 14 (nI r) (nI r) (wt_cl (gX2_callForeign_19 40 57 (wt_u s 57 7 (-1)) (nI l)) fun v22 s21 => gX2_makeStep_191 40 57 s21 v22)
      unfold gX2_callForeign_19
      rw [wt_u_self, if_neg (by simp), wr_eq, wr_eq]
      exact fv_191 (fv_some (fx_u (fx_u hX (Or.inr ⟨by decide, by decide⟩)) (Or.inr ⟨by decide, by decide⟩)))
    | some k =>
      rw [hv] at hvsd
      have hk := vfs_lt hv
      have a1 : RC 40 2048 (wt_u s (40 + 17 + 2 * 0) 7 (nI k)) (vs V (3989 + 0) (nI k)) zs fr := hR.ut hx hj.1 hj.vfr ht (e := (7, 3989)) (by decide) (fun q => absurd q (by decide))
      have hj2 : VJ 2048 (vs V (3989 + 0) (nI k)) := VJ.vs hj (by omega)
      have a2 := a1.v hx hj2.1 hj2.vfr (i := 3923 + k) (v := nI 0) (by omega)
      rw [vs_cm (by omega)] at a2
      exact xc_fg1 h hI hb h9 e1 ⟨x1, x2⟩ e2 a2 hvsd (fx_u (s := s) ⟨h14, h14⟩ (Or.inr ⟨by decide, by decide⟩)).1 hr14 G hG
  · rw [e7, if_pos c89]
    exact xc_fg1 h hI hb h9 e1 ⟨x1, x2⟩ e2 hR (by unfold vsd; rw [if_neg c89]) h14 hr14 G hG
end
end
section
/-! ===== alone: how far checked calls reach, step by step ===== -/
/-- the most that a run's checked calls want -/
def vmq : Nat → vV → Nat → Nat
  | 0, _, r => r
  | n + 1, V, r => if vby V 0 = true then vmq n (vst 2048 vZ V 0) (max r (sw V)) else r
theorem vmq_ge : ∀ (n : Nat) (V : vV) (r : Nat), r ≤ vmq n V r := by
  intro n
  induction n with
  | zero => intro V r; exact Nat.le_refl r
  | succ n ih =>
    intro V r
    have ev : vmq (n + 1) V r = if vby V 0 = true then vmq n (vst 2048 vZ V 0) (max r (sw V)) else r := rfl
    rw [ev]
    split
    · exact Nat.le_trans (Nat.le_max_left _ _) (ih _ _)
    · exact Nat.le_refl r
section
variable {s : wt_S} {V U : vV} {zs : List (vP × Nat)} {fr : List Nat} {B r z f : Nat} {a mode : Int32}
theorem sw_lt (hI : VI 2048 B V) (hb : vbz V.1 0) : sw V ≤ 2148 := by
  obtain ⟨np, y, z2, z3, k, l, hP, -⟩ := hI.opn (t := 0) (by omega) hb (by omega)
  unfold sw
  split
  · split
    · split
      · rename_i ct
        exact swc_lt hP (by have := ct.1; omega)
      · exact Nat.zero_le _
    · split
      · split
        · rename_i ct
          exact swc_lt hP (by have := ct.2.1; omega)
        · exact Nat.zero_le _
      · exact Nat.zero_le _
  · exact Nat.zero_le _
/-- the class: a step -/
theorem xc_step (h : RC 40 2048 s V zs fr) (hI : VI 2048 B V) (hb : vbz V.1 0) (h14 : s 57 14 = nI r) (hr14 : r ≤ 5000) : FZ 57 14 14 (nI (max r (sw V))) (nI (max r (sw V))) (gX2_makeStep 40 57 s) := by
  have hx := cx40 (lim := 2048) (by omega)
  obtain ⟨np, z, z2, z3, k, l, hP, h0, -, ⟨r1, -, r2⟩, -, -, ⟨l1, l2⟩, hsd0, -, -⟩ := hI.opn (t := 0) (by omega) hb (by omega)
  obtain ⟨hj, hc, -, -, -, -, -, -, -⟩ := hP
  have d5 := (hc.2.2.2.2.2.2.1 h0).2.2.2.2
  have hft := (vbz_f hI (by omega) hb).2
  have hll : (V.1 (3968 + 0)).toInt.toNat = l := by rw [l1, nI_int (by omega)]; rfl
  have hI1 : VI 2048 B (vinc V (3947 + 0)) := hI.vs (by omega) hb (vown_t (c := 3947) (by omega)) (by omega) (fun e => absurd e (by omega))
  have hb1 : vbz (vinc V (3947 + 0)).1 0 := by unfold vbz; rw [vinc_ne (by omega)]; exact hb
  have hI2 : VI 2048 B (vcn (vinc V (3947 + 0)) 2 1) := hI1.vs (by omega) hb1 (Or.inl (by omega)) (by omega) (fun e => absurd e (by omega))
  obtain ⟨S1, a1, a2, a3, -⟩ := c_adds h hx hj.1 hj.vfr (t := 0) (by omega) (e := (2, 3947)) (by decide) (v := 1)
  have a1 : gX9_add 40 57 s 2 1 = some ((), S1) := a1
  have a2 : RC 40 2048 S1 (vcn (vinc V (3947 + 0)) 2 1) zs fr := a2
  have f1 := xcX9_add (x1 := nI r) (x2 := nI r) ⟨h14, h14⟩ _ _ a1
  have hswu : sw V = if l < vli V.1 (vlf V 0).1 then
    (if V.1 (vco (vlf V 0).1 l) = 6 then (if tld V.1 (V.1 (vco (vlf V 0).1 l + 1)) then swc V (V.1 (vco (vlf V 0).1 l + 1)).toInt.toNat else 0)
    else if V.1 (vco (vlf V 0).1 l) = 9 then (if (vhs (vs3 V) 0 (V.1 (vco (vlf V 0).1 l + 1))).1 = true ∧ tld V.1 (V.1 (vco (vlf V 0).1 l + 2)) then swc V (V.1 (vco (vlf V 0).1 l + 2)).toInt.toNat else 0)
    else 0) else 0 := by
    unfold sw
    simp only [hll]
  have hv3 : vs (vcn (vinc V (3947 + 0)) 2 1) (3968 + 0) (nI (l + 1)) = vs3 V := by
    unfold vs3
    rw [show (vcn (vinc V (3947 + 0)) 2 1).1 (3968 + 0) + 1 = nI (l + 1) by rw [vcn_ne (by omega), vinc_ne (by omega), l1, nI_1]]
  have hat : ∀ i, i ≠ 3947 + 0 → i ≠ 2056 → (vcn (vinc V (3947 + 0)) 2 1).1 i = V.1 i := fun i g1 g2 => by rw [vcn_ne (by omega), vinc_ne g1]
  have hw1 : vpe V.1 (vcn (vinc V (3947 + 0)) 2 1).1 := fun i hi => hat i (by omega) (by omega)
  have h01 : 0 < (vcn (vinc V (3947 + 0)) 2 1).2.2.1 0 := h0
  have t9 : S1 57 9 = nI (vlf V 0).1 := (a2.at (t := 0) (by omega) (e := (9, 3975)) (by decide)).trans ((hat _ (by omega) (by omega)).trans d5)
  have t10 : S1 57 10 = nI l := ((a2.2.2.2.1 0 (by omega)).2.1.2 h01).1.trans ((hat _ (by omega) (by omega)).trans l1)
  have hr0 : max r 0 = r := Nat.max_eq_left (Nat.zero_le _)
  unfold gX2_makeStep
  rw [a1, cl_some, t9, t10]
  by_cases cl : l < vli V.1 (vlf V 0).1
  · have hl16 : l < 16 := by have := (hI.2.1.li hft).2; omega
    obtain ⟨hI3, hb3, hs3, hat3⟩ := st3 hI hb (by omega) (by rw [hll]; exact cl)
    have hR3 : RC 40 2048 (wt_u S1 57 10 (nI (l + 1))) (vs3 V) zs fr := by
      have := a2.line (v := nI (l + 1)) hx hI2.J (t := 0) (by omega) h01
      rw [hv3] at this
      exact this
    have hX3 : FX 57 14 14 (nI r) (nI r) (wt_u S1 57 10 (nI (l + 1))) := fx_u f1 (Or.inr ⟨by decide, by decide⟩)
    have hlf : vlf (vs3 V) 0 = vlf V 0 := by unfold vlf; rw [hs3.1]
    have hLC : LC 40 2048 (wt_u S1 57 10 (nI (l + 1))) (vs3 V) zs fr 0 l := ⟨hR3, hx, hI3.J, by omega, by rw [hs3.1]; exact h0, by rw [hlf, hat3 _ (by omega) (by omega) (by omega)]; exact d5, by rw [hlf, (hs3.2.1.sz hft).2.2.1]; exact cl⟩
    have hv := (hI3.2.1 _ hft).2.2 l (by rw [(hs3.2.1.sz hft).2.2.1]; exact cl)
    unfold vlin vcan at hv
    have g0 : (vs3 V).1 (vco (vlf V 0).1 l) = V.1 (vco (vlf V 0).1 l) := hs3.2.1.co0 hft hl16
    have g1 : (vs3 V).1 (vco (vlf V 0).1 l + 1) = V.1 (vco (vlf V 0).1 l + 1) := hs3.2.1.co hft hl16 (by omega)
    have g2 : (vs3 V).1 (vco (vlf V 0).1 l + 2) = V.1 (vco (vlf V 0).1 l + 2) := hs3.2.1.co hft hl16 (by omega)
    rw [if_pos cl] at hswu
    rw [c_part0 a2.2.2.2.2.2 hI2.2.1 hft (by rw [(hw1.sz hft).2.2.1]; exact cl), cl_some, hw1.co0 hft hl16, wr_eq, nI_1]
    generalize wt_u S1 57 10 (nI (l + 1)) = S3 at *
    by_cases k6 : V.1 (vco (vlf V 0).1 l) = 6
    · rw [if_pos k6] at hswu
      rw [k6, if_neg (show ¬ ((6 : Int32).toInt < -1 ∨ 10 < (6 : Int32).toInt) by decide), if_neg (show ¬ (6 : Int32).toInt = -1 by decide), if_neg (show ¬ (6 : Int32).toInt = 0 by decide), if_neg (show ¬ (6 : Int32).toInt = 1 by decide), if_neg (show ¬ (6 : Int32).toInt = 2 by decide), if_neg (show ¬ (6 : Int32).toInt = 3 by decide), if_neg (show ¬ (6 : Int32).toInt = 4 by decide), if_neg (show ¬ (6 : Int32).toInt = 5 by decide), if_pos (show (6 : Int32).toInt = 6 by decide)]
      by_cases ct : tld V.1 (V.1 (vco (vlf V 0).1 l + 1))
      · rw [if_pos ct] at hswu
        have q1 : gX2_callFunction 40 57 S3 (nI l) = some (V.1 (vco (vlf V 0).1 l + 1), S3) := c_cf1 (b := 40) (t := 0) (A := V.1 (vco (vlf V 0).1 l + 1)) hLC (by rw [hlf]; exact g1) (hs3.2.1.tl.mpr ct)
        obtain ⟨f', f10, hf', hfn, hs1⟩ := tld_nat (hs3.2.1.tl.mpr ct)
        obtain ⟨np3, y3, w2, w3, k3, l3, hP3, -, -, ⟨p1, -, p2⟩, -⟩ := hI3.opn (t := 0) (by omega) hb3 (by omega)
        rw [hfn, ← hs3.wc hj.1 f10] at hswu
        rw [q1, cl_some, hf', hswu]
        exact xc_191 hR3 hP3 f10 hs1 hI3.1.2.2.1 p1 p2 hX3.1 hr14
      · rw [if_neg ct] at hswu
        obtain ⟨s', q1, -⟩ := c_cf0 (b := 40) (t := 0) (A := V.1 (vco (vlf V 0).1 l + 1)) (C := (vs3 V).1 (vco (vlf V 0).1 l + 3)) hLC (by rw [hlf]; exact g1) (by rw [hlf]) (by rw [hlf]; exact (hv.2.2.2.2.2.2.1 (g0.trans k6)).2.2) (fun q => ct (hs3.2.1.tl.mp q))
        have q1 : gX2_callFunction 40 57 S3 (nI l) = some (-1, s') := q1
        rw [q1, cl_some, hswu, hr0]
        exact xc_191m (xcX2_callFunction hX3 _ _ q1)
    rw [if_neg k6] at hswu
    by_cases k9 : V.1 (vco (vlf V 0).1 l) = 9
    · rw [if_pos k9] at hswu
      rw [k9, if_neg (show ¬ ((9 : Int32).toInt < -1 ∨ 10 < (9 : Int32).toInt) by decide), if_neg (show ¬ (9 : Int32).toInt = -1 by decide), if_neg (show ¬ (9 : Int32).toInt = 0 by decide), if_neg (show ¬ (9 : Int32).toInt = 1 by decide), if_neg (show ¬ (9 : Int32).toInt = 2 by decide), if_neg (show ¬ (9 : Int32).toInt = 3 by decide), if_neg (show ¬ (9 : Int32).toInt = 4 by decide), if_neg (show ¬ (9 : Int32).toInt = 5 by decide), if_neg (show ¬ (9 : Int32).toInt = 6 by decide), if_neg (show ¬ (9 : Int32).toInt = 7 by decide), if_neg (show ¬ (9 : Int32).toInt = 8 by decide), if_pos (show (9 : Int32).toInt = 9 by decide)]
      refine xc_foreign (A := V.1 (vco (vlf V 0).1 l + 1)) (Bf := V.1 (vco (vlf V 0).1 l + 2)) (C := 0) hLC hI3 hb3 (by rw [hlf]; exact g0.trans k9) (by rw [hlf]; exact g1) (by rw [hlf]; exact g2) hX3.1 hr14 _ ?_
      rw [hswu]
      by_cases ct : (vhs (vs3 V) 0 (V.1 (vco (vlf V 0).1 l + 1))).1 = true ∧ tld V.1 (V.1 (vco (vlf V 0).1 l + 2))
      · rw [if_pos ct, if_pos ⟨ct.1, hs3.2.1.tl.mpr ct.2⟩, hs3.wc hj.1 (by have := ct.2.1; omega)]
      · rw [if_neg ct, if_neg (fun q => ct ⟨q.1, hs3.2.1.tl.mp q.2⟩)]
    rw [if_neg k9] at hswu
    rw [hswu, hr0]
    generalize V.1 (vco (vlf V 0).1 l) = K at *
    have n6 : ¬ K.toInt = 6 := fun e => k6 (Int32.toInt_inj.mp (e.trans (by decide)))
    have n9 : ¬ K.toInt = 9 := fun e => k9 (Int32.toInt_inj.mp (e.trans (by decide)))
    have R : ∀ {a b : Int32}, FZ 57 14 14 (nI r) (nI r) (wt_cl (gX2_reckon 40 57 S3 a b) fun _ s1 => gX2_makeStep_191 40 57 s1 (-1)) := fz_cl (xcX2_reckon hX3) (fun _ _ h1 => xc_191m h1)
    exact fz_if R (fz_if (fz_cl (xcX2_leaveFrame hX3) (fun _ _ h1 => xc_191m h1)) (fz_if R (fz_if R (fz_if R (fz_if R (fz_if R (fz_if R (fz_ifn n6 (fz_if R (fz_if (fz_cl (xcX6_part hX3) (fun _ _ h1 => fz_cl (xcX3_word h1) (fun _ _ h2 => fz_cl (xcX2_leaveFrame h2) (fun _ _ h3 => xc_191m h3)))) (fz_ifn n9 (fz_if (fz_cl (xcX4_makeSmaller hX3) (fun _ _ h1 => xc_191m h1)) fz_none))))))))))))
  · rw [if_neg cl] at hswu
    have hli1 : vli (vcn (vinc V (3947 + 0)) 2 1).1 (vlf V 0).1 ≤ l := by rw [(hw1.sz hft).2.2.1]; omega
    have hX3 : FX 57 14 14 (nI r) (nI r) (wt_u S1 57 10 (nI l + 1)) := fx_u f1 (Or.inr ⟨by decide, by decide⟩)
    rw [hswu, hr0, c_part_n a2.2.2.2.2.2 hI2.2.1 hft hli1 (by omega), cl_some, wr_eq, if_neg (show ¬ ((-1 : Int32).toInt < -1 ∨ 10 < (-1 : Int32).toInt) by decide), if_pos (show (-1 : Int32).toInt = -1 by decide)]
    exact fz_cl (xcX2_leaveFrame hX3) (fun _ _ h1 => xc_191m h1)
/-- the class: all steps -/
theorem xc_81 : ∀ (m k fu B r : Nat) (a : Int32) (s : wt_S) (V : vV) (zs : List (vP × Nat)) (fr : List Nat), k + m = 2000 → m < fu → RC 40 2048 s V zs fr → VI 2048 B V → WL V 0 → s 57 14 = nI r → r ≤ 5000 → FZ 57 14 14 (nI (vmq m V r)) (nI (vmq m V r)) (gX10_thinkAlone_81 fu s 57 a (nI k)) := by
  have hx := cx40 (lim := 2048) (by omega)
  intro m
  induction m with
  | zero =>
    intro k fu B r a s V zs fr hk hfu h hI hW h14 hr
    obtain ⟨fu, rfl⟩ : ∃ m, fu = m + 1 := ⟨fu - 1, by omega⟩
    rw [gX10_thinkAlone_81, nI_int (by omega), if_pos (by show (2000 : Int) ≤ _; omega)]
    exact fz_some ⟨h14, h14⟩
  | succ m ih =>
    intro k fu B r a s V zs fr hk hfu h hI hW h14 hr
    obtain ⟨fu, rfl⟩ : ∃ m, fu = m + 1 := ⟨fu - 1, by omega⟩
    have hon : gX7_on 57 s = some (rb (vby V 0 = true), s) := c_on (t := 0) h (by omega)
    have ev : vmq (m + 1) V r = if vby V 0 = true then vmq m (vst 2048 vZ V 0) (max r (sw V)) else r := rfl
    rw [gX10_thinkAlone_81, nI_int (by omega), if_neg (by show ¬ (2000 : Int) ≤ _; omega), hon, cl_some, if_rb, ev]
    by_cases c : vby V 0 = true
    · rw [if_pos c, if_pos c]
      have hb := vby_iff.mp c
      obtain ⟨s1, zs1, fr1, a1, a2, a3⟩ := c_step (Z := vZ) (t := 0) h hx hI (by omega) hb hW
      have a1 : gX2_makeStep 40 57 s = some ((), s1) := a1
      have f1 := xc_step h hI hb h14 hr _ _ a1
      have hI1 := vi_st (Z := vZ) hI (t := 0) (by omega) hb (by omega)
      have hlt := sw_lt hI hb
      have hmax : ∀ (x y : Int32), ∃ v, gJ9_max_7cf53 s1 x y = some (v, s1) := fun x y => by
        unfold gJ9_max_7cf53
        split
        · exact ⟨y, rfl⟩
        · exact ⟨x, rfl⟩
      obtain ⟨v, hv⟩ := hmax a (s1 42 8)
      rw [a1, cl_some, hv, cl_some, show nI k + 1 = nI (k + 1) from nI_add k 1]
      exact ih (k + 1) fu (B + 4) _ v s1 _ zs1 fr1 (by omega) (by omega) a2 hI1 (wl_st hI (by omega) hb hW (by omega)) f1.1 (by omega)
    · rw [if_neg c, if_neg c]
      exact fz_some ⟨h14, h14⟩
/-- the reference: a step in one piece that starts at 0 -/
theorem xr_sw (h : RS s U) (hI : VI 2048 B U) (hb : vbz U.1 0) (hB : B < 2147483200) (e : U.2.1 = [(0, z, 0, 0)]) (hx : s 110 10 = 0) : FZ 110 10 5 (if sw U ≤ z then 0 else 1) 0 (gX11_steps gX11_runsEndless s (nI 0)) := by
  obtain ⟨np, y, z2, z3, k, l, hP, -⟩ := hI.opn (t := 0) (by omega) hb (by omega)
  have ho := O1.of hP e
  obtain ⟨hH, h10⟩ := HB.of hI hb (by omega)
  refine xr_steps0 (t := 0) h hI (by omega) hb hB hx (fun _ _ _ h9 => xr_endless h9) _ (fun c => ?_) (fun c c6 => ⟨fun nt => ?_, fun f hf ea W w2 w1 ct => ?_⟩) (fun c c9 W hW => ?_) (fun c n6 n9 => ?_)
  · have hsw : sw U = 0 := by unfold sw; rw [if_neg c]
    rw [hsw, if_pos (Nat.zero_le _)]
  · have hsw : sw U = 0 := by unfold sw; rw [if_pos c, if_pos c6, if_neg nt]
    rw [hsw, if_pos (Nat.zero_le _)]
  · have hS : SM U W := ⟨w2, fun i hi => w1 i (by omega) (by omega) (by omega), w1 _ (by omega) (by omega) (by omega), w1 _ (by omega) (by omega) (by omega)⟩
    have hsw : sw U = swc U f := by
      unfold sw
      rw [if_pos c, if_pos c6, if_pos (by rw [ea]; exact ct), ea, nI_int (by omega)]
      rfl
    have key := hS.o2 hI.2.1 (hS.o1 ho (fun _ => h10)) (by rw [w2]; exact e) hf
    rw [hsw]
    by_cases d : swc U f ≤ z
    · rw [if_pos d, if_pos (key.mpr d)]
    · rw [if_neg d, if_neg (fun q => d (key.mp q))]
  · have hW' : W = vs3 U := hW
    obtain ⟨hI3, hb3, hs3, hat3⟩ := st3 hI hb (by omega) c
    rw [← hW'] at hI3 hb3 hs3 hat3
    have hsw : sw U = if (vhs W 0 (U.1 (vco (vlf U 0).1 (U.1 (3968 + 0)).toInt.toNat + 1))).1 = true ∧ tld U.1 (U.1 (vco (vlf U 0).1 (U.1 (3968 + 0)).toInt.toNat + 2)) then swc U (U.1 (vco (vlf U 0).1 (U.1 (3968 + 0)).toInt.toNat + 2)).toInt.toNat else 0 := by
      unfold sw
      rw [if_pos c, if_neg (by rw [c9]; decide), if_pos c9, hW']
    clear hW hW'
    generalize U.1 (vco (vlf U 0).1 (U.1 (3968 + 0)).toInt.toNat + 1) = A at *
    generalize U.1 (vco (vlf U 0).1 (U.1 (3968 + 0)).toInt.toNat + 2) = Bf at *
    have key : ((vhs W 0 A).1 = true ∧ tld W.1 Bf ∧ ¬ (vlc (vhs W 0 A).2 0 = true ∨ vtop (vhs W 0 A).2 0 + vnd (vhs W 0 A).2.1 Bf.toInt.toNat ≤ vend (vhs W 0 A).2 0)) ↔ ¬ sw U ≤ z := by
      by_cases hh : (vhs W 0 A).1 = true ∧ tld U.1 Bf
      · rw [if_pos hh] at hsw
        have hf : Bf.toInt.toNat < 10 := by have := hh.2.1; omega
        have hS : SM U (vhs W 0 A).2 := hs3.trans (sd_sm hI3 hb3 (by omega) (wd := A) (Prod.ext hh.1 rfl))
        have k1 := hS.o2 hI.2.1 (hS.o1 ho (fun _ => h10)) (by rw [hS.1]; exact e) hf
        rw [hsw]
        exact ⟨fun q d => q.2.2 (k1.mpr d), fun d => ⟨hh.1, hs3.2.1.tl.mpr hh.2, fun q => d (k1.mp q)⟩⟩
      · rw [if_neg hh] at hsw
        rw [hsw]
        exact ⟨fun q => absurd ⟨q.1, hs3.2.1.tl.mp q.2.1⟩ hh, fun d => absurd (Nat.zero_le _) d⟩
    by_cases d : sw U ≤ z
    · rw [if_pos d, if_neg (fun q => (key.mp q) d)]
    · rw [if_neg d, if_pos (key.mpr d)]
  · have hsw : sw U = 0 := by unfold sw; rw [if_pos c, if_neg n6, if_neg n9]
    rw [hsw, if_pos (Nat.zero_le _)]
/-- all steps, where it has grown before -/
theorem xr_52M : ∀ (n : Nat) {s : wt_S} {a b : Int32}, FX 110 10 5 1 0 s → FZ 110 10 5 1 0 (gX11_runsAlone_52 n s a b) := by
  intro n
  induction n with
  | zero => exact fun _ => fz_none
  | succ n ih =>
    intro s a b h
    unfold gX11_runsAlone_52 gX11_runsAlone_94
    exact fz_if (fz_some h) (fz_cl (xrX11_isBusy h) (fun _ _ h1 => fz_if (fz_some h1) (fz_cl (xr_stepM h1) (fun _ _ h2 => fz_cl (xrX11_wordsOf h2) (fun _ _ h3 => fz_if (ih h3) (ih h3))))))
/-- all steps: whether it grows -/
theorem xr_52 (hz : 1 ≤ z ∧ z ≤ 64) : ∀ (m k fu B B' r : Nat) (a : Int32) (s : wt_S) (U V : vV), k + m = 2000 → m < fu → RS s U → VI 2048 B U → VI 2048 B' V → B + 4 * m < 2147483200 → AY z V U → s 110 10 = 0 → r ≤ z → FZ 110 10 5 (if vmq m V r ≤ z then 0 else 1) 0 (gX11_runsAlone_52 fu s a (nI k)) := by
  intro m
  induction m with
  | zero =>
    intro k fu B B' r a s U V hk hfu h hI hI' hB hA hx hr
    obtain ⟨fu, rfl⟩ : ∃ m, fu = m + 1 := ⟨fu - 1, by omega⟩
    have ev : vmq 0 V r = r := rfl
    rw [gX11_runsAlone_52, nI_int (by omega), if_pos (show (2000 : Int32).toInt ≤ (k : Int) by show (2000 : Int) ≤ _; omega), ev, if_pos hr]
    exact fz_some ⟨hx, h.1⟩
  | succ m ih =>
    intro k fu B B' r a s U V hk hfu h hI hI' hB hA hx hr
    obtain ⟨fu, rfl⟩ : ∃ m, fu = m + 1 := ⟨fu - 1, by omega⟩
    have ev : vmq (m + 1) V r = if vby V 0 = true then vmq m (vst 2048 vZ V 0) (max r (sw V)) else r := rfl
    have hby : vby U 0 = vby V 0 := by
      rcases hA with q | q
      · exact q.1.by
      · exact q.1.by
    rw [gX11_runsAlone_52, nI_int (by omega), if_neg (show ¬ (2000 : Int32).toInt ≤ (k : Int) by show ¬ (2000 : Int) ≤ _; omega), show (0 : Int32) = nI 0 from rfl, q_busy h (by omega), cl_some]
    show FZ 110 10 5 _ _ (if rb (vby U 0 = true) = 0 then _ else _)
    rw [if_rb, ev, hby]
    by_cases c : vby V 0 = true
    · rw [if_pos c, if_pos c]
      have hb' := vby_iff.mp c
      have hb := vby_iff.mp (hby.trans c)
      have hZ : AZ z V U := by
        rcases hA with q | q
        · exact q
        · exfalso
          obtain ⟨np, y, z2, z3, k, l, hP, -⟩ := hI'.opn (t := 0) (by omega) hb' (by omega)
          obtain ⟨p, p1, -⟩ := hP.2.1.2.2.2.1.1 0 (by have := hP.2.1.2.2.1; omega)
          rw [q.2] at p1
          cases p1
      have hsw : sw U = sw V := AZ.swe hZ hI' hb' (by omega)
      obtain ⟨s1, e1, e2, e3⟩ := q_steps hd_all h hI (by omega) hb (by omega)
      have hI1 := vi_st (Z := vZ) hI (t := 0) (by omega) hb (by omega)
      have hI1' := vi_st (Z := vZ) hI' (t := 0) (by omega) hb' (by omega)
      have hF := xr_sw h hI hb (by omega) hZ.2.1.2 hx _ _ e1
      rw [hsw] at hF
      have e1 : gX11_steps gX11_runsEndless s (nI 0) = some ((), s1) := e1
      rw [e1, cl_some, q_wordsOf e2.2.2.1 hI1.J.2.1 (by omega), cl_some]
      unfold gX11_runsAlone_94
      by_cases d : sw V ≤ z
      · rw [if_pos d] at hF
        have go : ∀ a, FZ 110 10 5 (if vmq m (vst 2048 vZ V 0) (max r (sw V)) ≤ z then 0 else 1) 0 (gX11_runsAlone_52 fu s1 a (nI (k + 1))) := fun a => ih (k + 1) fu (B + 4) (B' + 4) _ a s1 _ _ (by omega) (by omega) e2 hI1 hI1' (by omega) (AZ.st hZ hI' hb' (by omega) hz d) hF.1 (by omega)
        rw [show nI k + 1 = nI (k + 1) from nI_add k 1]
        exact fz_if (go _) (go _)
      · rw [if_neg d] at hF
        have hge := vmq_ge m (vst 2048 vZ V 0) (max r (sw V))
        rw [if_neg (show ¬ vmq m (vst 2048 vZ V 0) (max r (sw V)) ≤ z by omega)]
        exact fz_if (xr_52M _ hF) (xr_52M _ hF)
    · rw [if_neg c, if_neg c, if_pos hr]
      exact fz_some ⟨hx, h.1⟩
end
end
section
/-! ===== alone: it begins ===== -/
theorem A0.jn {V U W : vV} (h : A0 V W) (h' : A0 U W) : A0 V U := ⟨h.1, fun i hi => (h'.2.1 i hi).symm.trans (h.2.1 i hi), h'.2.2.1.symm.trans h.2.2.1, fun i hi => ⟨(h'.2.2.2.1 i (by rw [← h'.2.2.1, h.2.2.1]; exact hi)).1.symm.trans (h.2.2.2.1 i hi).1, (h.2.2.2.1 i hi).2⟩, fun m => (h'.2.2.2.2 m).symm.trans (h.2.2.2.2 m)⟩
theorem AZ.jn {z : Nat} {V U W : vV} (h : AZ z V W) (h' : AE U W) : AZ z V U := ⟨h.1.jn h'.1, ⟨h.2.1.1, (show W.2.1 = U.2.1 from h'.2.1).symm.trans h.2.1.2⟩, ⟨h.2.2.1, (show W.1 2048 = U.1 2048 from h'.2.2).symm.trans h.2.2.2⟩⟩
section
variable {s s' : wt_S} {V V' : vV} {zs : List (vP × Nat)} {fr : List Nat} {B f z g k : Nat} {a mode x : Int32}
/-- nothing has been called -/
theorem b5_swc (hid : Iid V 0) (hp : Ipr V.1) (hf : f < 10) : swc (vb5 V 0 g z x a mode) f = vnd V.1 f := by
  have hn : (vb5 V 0 g z x a mode).2.2.1 0 = 0 := hid.1
  have hu : vuse (vb5 V 0 g z x a mode) 0 = 0 := by
    unfold vuse
    rw [vb5_0 (c := 3961) (by omega), vcr_0 (by omega) (by omega) (by omega)]
    rfl
  have hO : OT 0 V (vb5 V 0 g z x a mode) := OT.b5 (by omega)
  unfold swc
  rw [if_neg (by unfold vlc; rw [hn]; simp), hu, Nat.zero_add, (hO.1.mg hp hf).2]
theorem b5_one (h : V.2.1 = []) : (vb5 V 0 0 z x a mode).2.1 = [(0, z, 0, 0)] := by
  rw [vb5_2, h]
  rfl
theorem gap0 (hz : z ≤ 2048) : vgap 2048 0 [] z = some 0 := by
  show (if 0 + z ≤ 2048 then some 0 else none) = some 0
  rw [if_pos (by omega)]
/-- the class -/
theorem xc_begin (h : RC 40 2048 s V zs fr) (hI : VI 2048 B V) (hid : Iid V 0) (hf : f < 10) (hs1 : 1 ≤ vsz V.1 f) (hm : mode = 0 ∨ mode = 1) (e : vgap 2048 0 V.2.1 (V.1 2048).toInt.toNat = some g) : FZ 57 14 14 (nI (vnd V.1 f)) (nI (vnd V.1 f)) (gX2_begin 40 57 s (nI f) a mode) := by
  have hx := cx40 (lim := 2048) (by omega)
  have ht : 0 < 6 := by omega
  have hj := hI.J
  obtain ⟨z, hz, z2, z3, z4⟩ := hI.1.1
  have hzn : (V.1 2048).toInt.toNat = z := by rw [hz, nI_int (by omega)]; rfl
  rw [hzn] at e
  have e0 : s (40 + 1) 0 = nI z := (h.2.2.1.1 0 (by omega)).trans hz
  have et : s 57 0 = nI 0 := (h.2.2.2.1 0 ht).1.1
  have h12 : s (40 + 17 + 2 * 0) 12 = -1 := (h.2.2.2.1 0 ht).2.2.1.1 hid.2.2.1
  have hmem := hid.2.2.2.2.2.2.2.2
  have hlen : zs.length < 256 := by
    have := Vlen hj.2.1 (fun q hq => by have := hI.2.2.1.2.2 q hq; omega) z2 z4 (Nat.le_refl z) e
    rw [← h.1, List.length_map] at this
    exact this
  obtain ⟨id, s1, zs1, fr1, a1, a2, a3, a4⟩ := c_new h hx hj (t := 0) ht (n := 0) (words := z) (g := g) hid.2.2.1 (by omega) (fun q hq e => absurd e (hmem q hq)) (fun i hi => by rw [hid.1] at hi; omega) ⟨by omega, by omega⟩ hlen e
  rw [h12] at a1
  obtain ⟨s3, c1, c2, c3, c4⟩ := c_clear (s := s1) (T := 57)
  unfold gX2_begin
  rw [e0, et]
  rw [show gX5_take 40 s (nI z) (nI 0) (-1) = some (nI id, s1) from a1, cl_some, if_pos (nI_m1 (by omega)), c1, cl_some, wr_eq, wr_eq, wr_eq, wr_eq, wr_eq]
  obtain ⟨hP, hsd⟩ := b5_pre (a := a) (x := nI f) hI hx.2.2 ht hid hz (by omega) e hm
  have hO0 : OT 0 V (vb5 V 0 g z (nI f) a mode) := OT.b5 ht
  generalize hS8 : wt_u (wt_u (wt_u (wt_u (wt_u s3 57 1 1) 57 2 mode) 57 15 (nI f)) 57 16 a) 57 12 (nI id) = S8
  have f8 : ∀ c, c ≠ 57 → S8 c = s3 c := fun c hc => by rw [← hS8, wt_u_ne hc, wt_u_ne hc, wt_u_ne hc, wt_u_ne hc, wt_u_ne hc]
  have f8T : S8 57 = mj_upd (mj_upd (mj_upd (mj_upd (mj_upd (clr (s1 57)) 1 1) 2 mode) 15 (nI f)) 16 a) 12 (nI id) := by rw [← hS8, wt_u_at, wt_u_at, wt_u_at, wt_u_at, wt_u_at, c3]
  have h14 : S8 57 14 = nI 0 := by
    rw [f8T, mj_upd_ne (by omega), mj_upd_ne (by omega), mj_upd_ne (by omega), mj_upd_ne (by omega), mj_upd_ne (by omega)]
    unfold clr
    rw [if_neg (by omega), if_neg (by omega)]
    rfl
  have hT0 : S8 57 0 = s1 57 0 := by
    rw [f8T, mj_upd_ne (by omega), mj_upd_ne (by omega), mj_upd_ne (by omega), mj_upd_ne (by omega), mj_upd_ne (by omega)]
    unfold clr
    rw [if_pos (by omega)]
  have hTj : ∀ j, 1 ≤ j → j ≤ 16 → j ≠ 14 → S8 57 j = if j = 1 then 1 else if j = 2 then mode else if j = 15 then nI f else if j = 16 then a else if j = 12 then nI id else if j = 7 ∨ (9 ≤ j ∧ j ≤ 13) then -1 else 0 := fun j j1 j2 j3 => by
    rw [f8T]
    by_cases d1 : j = 1
    · subst d1; rw [if_pos rfl, mj_upd_ne (by omega), mj_upd_ne (by omega), mj_upd_ne (by omega), mj_upd_ne (by omega), mj_upd_self]
    rw [if_neg d1]
    by_cases d2 : j = 2
    · subst d2; rw [if_pos rfl, mj_upd_ne (by omega), mj_upd_ne (by omega), mj_upd_ne (by omega), mj_upd_self]
    rw [if_neg d2]
    by_cases d3 : j = 15
    · subst d3; rw [if_pos rfl, mj_upd_ne (by omega), mj_upd_ne (by omega), mj_upd_self]
    rw [if_neg d3]
    by_cases d4 : j = 16
    · subst d4; rw [if_pos rfl, mj_upd_ne (by omega), mj_upd_self]
    rw [if_neg d4]
    by_cases d5 : j = 12
    · subst d5; rw [if_pos rfl, mj_upd_self]
    rw [if_neg d5, mj_upd_ne d5, mj_upd_ne d4, mj_upd_ne d3, mj_upd_ne d2, mj_upd_ne d1]
    unfold clr
    rw [if_neg (by omega)]
    by_cases d6 : j = 7 ∨ (9 ≤ j ∧ j ≤ 13)
    · rw [if_pos d6, if_pos (by omega)]
    · rw [if_neg d6, if_neg (by omega)]
  have hR8 : RC 40 2048 S8 (vb5 V 0 g z (nI f) a mode) zs1 fr1 := c_b5 (b := 40) (t := 0) (S := s1) h hx hI ht hid a3 (fun c h1 h2 => (f8 c h1).trans (c2 c h1 h2)) hT0 hTj (fun j hj => (congrFun (f8 58 (by omega)) j).trans (c4 j hj))
  obtain ⟨z5, y1, y2, y3⟩ := hI.1.2.2.2.1
  have hs2 : 1 ≤ vsz (vb5 V 0 g z (nI f) a mode).1 f := by rw [(hO0.1.sz hf).1]; exact hs1
  have hF := xc_room (r := 0) hR8 hP hf hs2 (by rw [vb5_ne ht (by omega)]; exact hI.1.2.2.1) ((vb5_ne ht (by omega)).trans y1) y3 h14 (by omega)
  rw [Nat.zero_max, b5_swc hid hI.2.1 hf] at hF
  exact fz_cl hF (fun _ _ h1 => fz_if (fz_some h1) (fz_cl (xcX2_pushFrame h1) (fun _ _ h2 => fz_cl (xcX6_isPointer h2) (fun _ _ h3 => fz_if (fz_some h3) (fz_cl (xcX3_put h3) (fun _ _ h4 => fz_some h4))))))
theorem nw_pe : vpe V.1 (vnw (vAA V z) V.1).1 := fun i hi => by
  rcases hi with hi | rfl | rfl
  · exact vnw_pp i hi
  · exact (vnw_se (i := 2) (by omega)).trans rfl
  · exact (vnw_se (i := 3) (by omega)).trans rfl
theorem nw_48 (hz : z ≤ 2048) : ((vnw (vAA V z) V.1).1 2048) = nI z ∧ ((vnw (vAA V z) V.1).1 2048).toInt.toNat = z := by
  have h : (vnw (vAA V z) V.1).1 2048 = nI z := (vnw_se (i := 0) (by omega)).trans rfl
  refine ⟨h, ?_⟩
  rw [h, nI_int (by omega)]
  rfl
theorem nw_gap (hz : z ≤ 2048) : vgap 2048 0 (vnw (vAA V z) V.1).2.1 ((vnw (vAA V z) V.1).1 2048).toInt.toNat = some 0 := by
  rw [(nw_48 hz).2]
  exact gap0 hz
/-- the class: as far as it goes -/
theorem xc_alone (h : NW B s V) (hf : f < 10) (hs1 : 1 ≤ vsz V.1 f) (hm : mode = 0 ∨ mode = 1) (hz : 8 ≤ z ∧ z ≤ 2048) : FZ 57 14 14 (nI (vmq 2000 (vAU V z f a mode) (vnd V.1 f))) (nI (vmq 2000 (vAU V z f a mode) (vnd V.1 f))) (gX10_thinkAlone s (nI f) a mode (nI z)) := by
  obtain ⟨⟨zs, fr, hR⟩, hI, hW, hK, hT⟩ := id h
  have hp := hI.2.1
  obtain ⟨s1, a1, a2, a3, a4, a5, a6, a7, a8⟩ := c_clr9 (b := 40) (s := s) (lim := 2048) (Or.inr rfl)
  have a1 : gX9_clear 40 s 2048 = some ((), s1) := a1
  unfold gX10_thinkAlone
  rw [a1, cl_some, c_ac0 (n := 6) (N := 6) rfl (by omega), wr_eq, ix_0 (by omega) (by omega)]
  generalize hS : wt_u (wt_uf s1 41 (mj_cpy (s1 12) (s1 41) 0 0 6)) 41 0 (nI z) = s4
  have f4 : ∀ c, c ≠ 41 → s4 c = s1 c := fun c hc => by rw [← hS, wt_u_ne hc, wt_uf_ne hc]
  have e4 : ∀ j, j < 6 → s4 (40 + 1) j = vAA V z j := fun j hj => by
    have hg : s 12 j = V.1 (2048 + j) := hR.2.2.1.1 j hj
    rw [← hS]
    unfold vAA
    by_cases c0 : j = 0
    · subst c0; rw [wt_u_self]; rfl
    · rw [wt_u_nk c0, if_neg c0, c_ac1 hj, a2 12 (by omega)]
      exact hg
  have hR4 : RP 5 s4 V.1 := hR.2.2.2.2.2.eq hp vpe.refl (fun c c1 c2 => by rw [f4 c (by omega), a2 c (by omega)])
  have hF := RC.fresh (b := 40) (lim := 2048) (s := s4) (s0 := s) (A := vAA V z) (W := V.1) (by omega) (a3.eq (fun c hc => f4 c (by omega))) e4 (fun j hj => by rw [f4 _ (by omega)]; exact a5 j hj) (fun k hk => by rw [f4 _ (by omega)]; exact a6 k hk) hT (fun k hk j hj => by rw [f4 _ (by omega)]; exact a7 k hk j hj) hR4 hp
  have hx := cx40 (lim := 2048) (by omega)
  have hI0 : VI 2048 0 (vnw (vAA V z) V.1) := vi_nw hp (ise_al hI hz rfl)
  have hs1' : 1 ≤ vsz (vnw (vAA V z) V.1).1 f := by rw [(vnw_pp.sz hf).1]; exact hs1
  obtain ⟨s6, zs6, fr6, b1, b2, b3⟩ := c_begin (t := 0) (a := a) (mode := mode) hF hx hI0 (by omega) (nw_id (by omega)) hf hs1' hm
  have hI6 := vi_bg (a := a) hI0 (by omega) (by omega) (nw_id (t := 0) (by omega)) hf hs1' hm
  have f6 := xc_begin (a := a) hF hI0 (nw_id (by omega)) hf hs1' hm (nw_gap hz.2) _ _ b1
  rw [(nw_pe.mg hp hf).2] at f6
  have hnd := vnd_le hp hf
  rw [b1, cl_some]
  exact xc_81 2000 0 wt_N _ (vnd V.1 f) (s6 42 8) s6 (vAU V z f a mode) zs6 fr6 (by omega) (by unfold wt_N; omega) b2 hI6 (wl_bg hI0 (by omega) (by omega) (nw_id (by omega)) hf hs1' hm) f6.1 (by omega)
/-! ### two beginnings -/
theorem nw_cong (hi : (2049 ≤ k ∧ k ≤ 2053) ∨ (2228 ≤ k ∧ k < 2898) ∨ (3923 ≤ k ∧ k < 3926)) : (vnw (vAA V z) V.1).1 k = (vnw (vAA V 64) V.1).1 k := by
  rcases hi with hi | hi | hi
  · obtain ⟨j, rfl⟩ : ∃ j, k = 2048 + j := ⟨k - 2048, by omega⟩
    rw [vnw_se (by omega), vnw_se (by omega)]
    unfold vAA
    rw [if_neg (by omega), if_neg (by omega)]
  · exact (vnw_pp k hi).trans (vnw_pp k hi).symm
  · rw [vnw_m (Or.inl hi), vnw_m (Or.inl hi)]
theorem AZ.cr (hp : Ipr V.1) (hz : z ≤ 64) : AZ z (vps (vcr (vnw (vAA V 64) V.1) 0) [(0, 64, 0, 0)]) (vps (vcr (vnw (vAA V z) V.1) 0) [(0, z, 0, 0)]) := by
  refine ⟨⟨(hp.ww nw_pe).ww (fun i hi => vcr_ne (by omega) (by omega)), fun i hi => ?_, rfl, fun i hi => absurd hi (Nat.not_lt_zero i), fun m => ?_⟩, ⟨rfl, rfl⟩, ⟨?_, ?_⟩⟩
  · show (vcr (vnw (vAA V z) V.1) 0).1 i = (vcr (vnw (vAA V 64) V.1) 0).1 i
    by_cases c : i < 3926
    · rw [vcr_ne (by omega) (Or.inl c), vcr_ne (by omega) (Or.inl c)]
      exact nw_cong (by unfold ak at hi; omega)
    · have hi2 : 3926 ≤ i ∧ i ≤ 4066 ∧ (i - 3926) % 7 = 0 := by unfold ak at hi; omega
      by_cases c2 : i = 3975 ∨ i = 3989
      · rcases c2 with rfl | rfl
        · exact (vcr_f (V := vnw (vAA V z) V.1) (t := 0)).1.trans (vcr_f (V := vnw (vAA V 64) V.1) (t := 0)).1.symm
        · exact (vcr_f (V := vnw (vAA V z) V.1) (t := 0)).2.trans (vcr_f (V := vnw (vAA V 64) V.1) (t := 0)).2.symm
      · exact (vcr_0 (V := vnw (vAA V z) V.1) (t := 0) (c := i) (by omega) hi2 (by omega)).trans (vcr_0 (V := vnw (vAA V 64) V.1) (t := 0) (c := i) (by omega) hi2 (by omega)).symm
  · show vat ([(0, z, 0, 0)] : List vP) 0 m = vat ([(0, 64, 0, 0)] : List vP) 0 m
    by_cases c : 0 = m
    · subst c
      simp [vat, vkey]
    · simp [vat, vkey, c]
  · show (vcr (vnw (vAA V 64) V.1) 0).1 2048 = nI 64
    rw [vcr_ne (by omega) (by omega)]
    exact (nw_48 (by omega)).1
  · show (vcr (vnw (vAA V z) V.1) 0).1 2048 = nI z
    rw [vcr_ne (by omega) (by omega)]
    exact (nw_48 (by omega)).1
theorem vAU_eq (hf : f < 10) (hz : z ≤ 2048) : vAU V z f a mode = vcl 2048 (vb5 (vnw (vAA V z) V.1) 0 0 z (nI f) a mode) 0 f 0 (if bt (V.1 (2238 + f)) 0 then 0 else a, none) := by
  have e38 : (vnw (vAA V z) V.1).1 (2238 + f) = V.1 (2238 + f) := vnw_pp _ (by omega)
  unfold vAU vbg
  rw [nw_gap hz, (nw_48 hz).2, e38] <;> rfl
theorem AZ.bg (hI : VI 2048 B V) (hf : f < 10) (hm : mode = 0 ∨ mode = 1) (hz : 8 ≤ z ∧ z ≤ 64) (hs : vnd V.1 f ≤ z) : AZ z (vAU V 64 f a mode) (vAU V z f a mode) := by
  have hp := hI.2.1
  rw [vAU_eq hf (by omega), vAU_eq hf (by omega)]
  have h5 : AZ z (vb5 (vnw (vAA V 64) V.1) 0 0 64 (nI f) a mode) (vb5 (vnw (vAA V z) V.1) 0 0 z (nI f) a mode) := by
    unfold vb5
    exact ((((AQ.vss (AZ.cr hp hz.2) (by unfold aw; omega) (fun _ => rfl)).vss (by unfold aw; omega) (fun _ => rfl)).vss (by unfold aw; omega) (fun _ => rfl)).vss (by unfold aw; omega) (fun _ => rfl)).vss (by unfold aw; omega) (fun _ => rfl)
  have hI0 : VI 2048 0 (vnw (vAA V 64) V.1) := vi_nw hp (ise_al (z := 64) hI (by omega) rfl)
  have hid : Iid (vnw (vAA V 64) V.1) 0 := nw_id (by omega)
  obtain ⟨hP, -⟩ := b5_pre (a := a) (x := nI f) hI0 (by omega) (by omega) hid (nw_48 (z := 64) (by omega)).1 (by omega) (gap0 (z := 64) (by omega)) hm
  refine AZ.cl h5 hf (O1.of hP (b5_one rfl)) hz.2 ?_
  rw [b5_swc hid hI0.2.1 hf, (nw_pe.mg hp hf).2]
  exact hs
/-- the reference: whether it grows as it begins -/
theorem xr_begins (h : RS s V) (hI : VI 2048 B V) (hid : Iid V 0) (hf : f < 10) (hm : mode = 0 ∨ mode = 1) (hz : V.1 2048 = nI z) (hz2 : z ≤ 2048) (hn : V.2.1 = []) (hx : s 110 10 = 0) : FZ 110 10 5 (if vnd V.1 f ≤ z then 0 else 1) 0 (gX11_begins s (nI 0) (nI f) a mode) := by
  have ht : 0 < 6 := by omega
  have hj := hI.J
  have hgf := q_gapFor (words := z) h.2.2.1 hj.2.1 (by omega)
  have e : vgap 2048 0 V.2.1 z = some 0 := by rw [hn]; exact gap0 hz2
  obtain ⟨hP, hsd⟩ := b5_pre (a := a) (x := nI f) hI (by omega) ht hid hz (by omega) e hm
  have a1 := h.cr (t := 0) ht
  have hjc : VJ 2048 (vcr V 0) := hj.ww (fun i hi => vcr_ne ht (by omega)) rfl
  have x1 : FX 110 10 5 0 0 (wt_u (wt_u (wt_uf s 111 (vck (s 111) 0 0)) 111 (3989 + 0) (-1)) 111 (3975 + 0) (-1)) := fx_u (fx_u ⟨by rw [wt_uf_ne (by omega)]; exact hx, by rw [wt_uf_ne (by omega)]; exact h.1⟩ (Or.inl (by decide))) (Or.inl (by decide))
  unfold gX11_begins
  rw [h.se (c := 2048) (by omega), hz, hgf, cl_some, e, oI_some, if_pos (nI_m1 (by omega)), q_clears ht, cl_some]
  generalize wt_u (wt_u (wt_uf s 111 (vck (s 111) 0 0)) 111 (3989 + 0) (-1)) 111 (3975 + 0) (-1) = s1 at a1 x1 ⊢
  obtain ⟨w1, t1, t2, t3⟩ := q_takes (s := s1) (t := 0) (a := 0) (words := z) (number := 0) a1.2.2.1 hj.2.1 (by show V.2.1.length < 256; rw [hn]; decide) (by omega)
  have a2 : RS (wt_uf s1 111 w1) (vps (vcr V 0) (vins (0, z, 0, 0) V.2.1)) := a1.uf (a1.2.ps t3 t2 (fun mm hm => hm.ins hjc (fun i hi => by have hi : i < V.2.2.1 0 := hi; rw [hid.1] at hi; omega)))
  have hz48 : s1 111 2048 = nI z := by rw [a1.se (c := 2048) (by omega), vcr_ne ht (by omega)]; exact hz
  have x2 : FX 110 10 5 0 0 (wt_uf s1 111 w1) := ⟨by rw [wt_uf_ne (by omega)]; exact x1.1, by rw [wt_uf_ne (by omega)]; exact x1.2⟩
  rw [hz48, show gX11_takes s1 (nI 0) (nI 0) (nI z) 0 = _ from t1, cl_some, li_add, ix_nI (by omega) (by omega), wr_eq, li_add, ix_nI (by omega) (by omega), wr_eq, li_add, ix_nI (by omega) (by omega), wr_eq, li_add, ix_nI (by omega) (by omega), wr_eq, li_add, ix_nI (by omega) (by omega), wr_eq]
  have a3 := ((((a2.u (i := 3926 + 0) (v := 1) (vtt (by omega) ht) (Or.inr (by omega))).u (i := 3933 + 0) (v := mode) (vtt (by omega) ht) (Or.inr (by omega))).u (i := 4066 + 0) (v := 1) (vtt (by omega) ht) (Or.inr (by omega))).u (i := 4052 + 0) (v := nI f) (vtt (by omega) ht) (Or.inr (by omega))).u (i := 4059 + 0) (v := a) (vtt (by omega) ht) (Or.inr (by omega))
  have a3 : RS _ (vb5 V 0 0 z (nI f) a mode) := a3
  have x3 := fx_u (a := 111) (j := 4059 + 0) (v := a) (fx_u (a := 111) (j := 4052 + 0) (v := nI f) (fx_u (a := 111) (j := 4066 + 0) (v := 1) (fx_u (a := 111) (j := 3933 + 0) (v := mode) (fx_u (a := 111) (j := 3926 + 0) (v := 1) x2 (Or.inl (by decide))) (Or.inl (by decide))) (Or.inl (by decide))) (Or.inl (by decide))) (Or.inl (by decide))
  obtain ⟨z5, y1, y2, y3⟩ := hI.1.2.2.2.1
  have hO : OT 0 V (vb5 V 0 0 z (nI f) a mode) := OT.b5 ht
  have key := xr_calls (bk := 0) (sl := -1) (nm := a) a3 hP hf ((vb5_ne ht (by omega)).trans y1) y3 x3.1
  have hS : SM (vb5 V 0 0 z (nI f) a mode) (vb5 V 0 0 z (nI f) a mode) := ⟨rfl, vpe.refl, rfl, rfl⟩
  have k1 := hS.o2 (hI.2.1.ww hO.1) (O1.of hP (b5_one hn)) (b5_one hn) hf
  rw [b5_swc hid hI.2.1 hf] at k1
  by_cases d : vnd V.1 f ≤ z
  · rw [if_pos (k1.mpr d)] at key
    rw [if_pos d]
    exact fz_cl key (fun _ _ h9 => fz_some h9)
  · rw [if_neg (fun q => d (k1.mp q))] at key
    rw [if_neg d]
    exact fz_cl key (fun _ _ h9 => fz_some h9)
end
end
