section
/-! ===== the reference makes room ===== -/
/-- a piece has another number -/
def vren (t n n' : Nat) (ps : List vP) : List vP := ps.map (fun p => if vkey t n p then (p.1, p.2.1, p.2.2.1, n') else p)
theorem vfind_ren {t n n' t' k : Nat} (h : ¬ (t' = t ∧ (k = n ∨ k = n'))) : ∀ {ps : List vP}, (vren t n n' ps).find? (vkey t' k) = ps.find? (vkey t' k) := by
  intro ps
  induction ps with
  | nil => rfl
  | cons q ps ih =>
    show ((if vkey t n q then (q.1, q.2.1, q.2.2.1, n') else q) :: vren t n n' ps).find? (vkey t' k) = _
    by_cases c : vkey t n q = true
    · have hq : q.2.2.1 = t ∧ q.2.2.2 = n := by simpa [vkey] using c
      rw [if_pos c, List.find?_cons_of_neg (by simp [vkey]; omega), List.find?_cons_of_neg (by simp [vkey]; omega), ih]
    · rw [if_neg c]
      by_cases c2 : vkey t' k q = true
      · rw [List.find?_cons_of_pos c2, List.find?_cons_of_pos c2]
      · rw [List.find?_cons_of_neg c2, List.find?_cons_of_neg c2, ih]
theorem vr_ren {w : Nat → Int32} {ps : List vP} {t n n' x : Nat} (h : vr_P w ps) (hu : ps.Pairwise (fun p q => ¬ (p.2.2.1 = q.2.2.1 ∧ p.2.2.2 = q.2.2.2))) (hx : vfi (vkey t n) ps 0 = some x) : vr_P (mj_upd w (3667 + x) (nI n')) (vren t n n' ps) := by
  obtain ⟨h1, h2, h3⟩ := h
  obtain ⟨q, -, hq, hk⟩ := vfi_spec hx
  rw [Nat.sub_zero] at hq
  have hxl := (List.getElem?_eq_some_iff.mp hq).1
  have hk : q.2.2.1 = t ∧ q.2.2.2 = n := by simpa [vkey] using hk
  refine ⟨by rw [mj_upd_ne (by omega)]; unfold vren; rw [List.length_map]; exact h1, by unfold vren; rw [List.length_map]; exact h2, fun y p hp => ?_⟩
  unfold vren at hp
  rw [List.getElem?_map] at hp
  obtain ⟨p0, p1, p2⟩ := Option.map_eq_some_iff.mp hp
  have hyl := (List.getElem?_eq_some_iff.mp p1).1
  obtain ⟨r1, r2, r3, r4⟩ := h3 y p0 p1
  by_cases e : y = x
  · subst e
    rw [hq] at p1
    cases p1
    rw [if_pos (by simp [vkey, hk])] at p2
    subst p2
    refine ⟨by rw [mj_upd_ne (by omega)]; exact r1, by rw [mj_upd_ne (by omega)]; exact r2, by rw [mj_upd_ne (by omega)]; exact r3, by rw [mj_upd_self]⟩
  · have hne : ¬ vkey t n p0 = true := fun c => by
      have c : p0.2.2.1 = t ∧ p0.2.2.2 = n := by simpa [vkey] using c
      have hpw := List.pairwise_iff_getElem.mp hu
      rw [List.getElem?_eq_getElem hyl] at p1
      rw [List.getElem?_eq_getElem hxl] at hq
      have e1 := Option.some.inj p1
      have e2 := Option.some.inj hq
      rcases Nat.lt_or_gt_of_ne e with hlt | hgt
      · exact hpw y x hyl hxl hlt ⟨by rw [e1, e2, c.1, hk.1], by rw [e1, e2, c.2, hk.2]⟩
      · exact hpw x y hxl hyl hgt ⟨by rw [e1, e2, c.1, hk.1], by rw [e1, e2, c.2, hk.2]⟩
    rw [if_neg hne] at p2
    subst p2
    refine ⟨by rw [mj_upd_ne (by omega)]; exact r1, by rw [mj_upd_ne (by omega)]; exact r2, by rw [mj_upd_ne (by omega)]; exact r3, by rw [mj_upd_ne (by omega)]; exact r4⟩
theorem VM.ren {lim : Nat} {V : vV} {mm : Nat → Int32} {t n n' : Nat} (hI : VJ lim V) (h : VM mm V) (h1 : vnof V t n) (h2 : vnof V t n') : VM mm (vps V (vren t n n' V.2.1)) :=
  h.ps hI (fun _ _ _ => rfl) (fun t' ht' => ⟨Nat.le_refl _, fun i hi => ⟨rfl, (vat_eq (vfind_ren (fun e => by
    obtain ⟨rfl, e | e⟩ := e
    · exact h1 i hi e
    · exact h2 i hi e))).1⟩⟩)
theorem VM.ins {lim : Nat} {V : vV} {mm : Nat → Int32} {q : vP} (hI : VJ lim V) (h : VM mm V) (h1 : vnof V q.2.2.1 q.2.2.2) : VM mm (vps V (vins q V.2.1)) :=
  h.ps hI (fun _ _ _ => rfl) (fun t' ht' => ⟨Nat.le_refl _, fun i hi => ⟨rfl, (vat_eq (vfind_ins_ne (by
    simp only [vkey, decide_eq_false_iff_not]
    rintro ⟨e1, e2⟩
    subst e1
    exact h1 i hi e2.symm))).1⟩⟩)
theorem vdbl_ge {e : Nat} : ∀ {m n : Nat}, e ≤ n * 2 ^ m → 1 ≤ n → e ≤ vdbl e m n ∧ vdbl e m n ≤ max n (2 * e) ∧ n ≤ vdbl e m n := by
  intro m
  induction m with
  | zero => intro n h hn; unfold vdbl; rw [Nat.pow_zero, Nat.mul_one] at h; omega
  | succ m ih =>
    intro n h hn
    unfold vdbl
    split
    · have := ih (n := n * 2) (by rw [Nat.mul_assoc, ← Nat.pow_succ']; exact h) (by omega)
      omega
    · omega
theorem vdbl_add {e : Nat} : ∀ {m n k : Nat}, e ≤ vdbl e m n → vdbl e (m + k) n = vdbl e m n := by
  intro m
  induction m with
  | zero =>
    intro n k h
    unfold vdbl at h
    cases k with
    | zero => rfl
    | succ k =>
      show vdbl e (0 + (k + 1)) n = n
      rw [Nat.zero_add]
      unfold vdbl
      rw [if_neg (by omega)]
  | succ m ih =>
    intro n k h
    rw [vdbl] at h
    rw [show m + 1 + k = (m + k) + 1 by omega, vdbl, vdbl]
    split
    · rename_i c
      rw [if_pos c] at h
      exact ih h
    · rfl
theorem q_grows_36 {s : wt_S} {t need u : Nat} (ht : t < 7) (hu : s 111 (3961 + t) = nI u) (hb : u + need < 100000) : ∀ (m n fu : Nat), u + need ≤ n * 2 ^ m → 1 ≤ n → n < 1000000 → m < fu → ∃ fu', gX11_grows_36 fu s (nI t) (nI need) (nI n) = gX11_grows_36 (fu' + 1) s (nI t) (nI need) (nI (vdbl (u + need) m n)) := by
  intro m
  induction m with
  | zero =>
    intro n fu h hn hn2 hfu
    obtain ⟨fu, rfl⟩ : ∃ k, fu = k + 1 := ⟨fu - 1, by omega⟩
    exact ⟨fu, rfl⟩
  | succ m ih =>
    intro n fu h hn hn2 hfu
    obtain ⟨fu, rfl⟩ : ∃ k, fu = k + 1 := ⟨fu - 1, by omega⟩
    unfold vdbl
    by_cases c : n < u + need
    · rw [if_pos c]
      obtain ⟨fu', e⟩ := ih (n * 2) fu (by rw [Nat.mul_assoc, ← Nat.pow_succ']; exact h) (by omega) (by omega) (by omega)
      refine ⟨fu', ?_⟩
      rw [← e, gX11_grows_36, li_add, ix_nI (by omega) (by omega), hu, nI_add, nI_int (by omega), nI_int (by omega), if_neg (by omega), li_mul2]
    · rw [if_neg c]
      exact ⟨fu, rfl⟩
section
variable {lim : Nat} {V : vV} {t np z need : Nat}
theorem vspl_none (hz : (V.1 2048).toInt.toNat = z) (e : vgap lim 0 V.2.1 (max need z) = none) : vspl lim V t need = (false, V) := by
  unfold vspl
  simp only [hz, e]
theorem vspl_some {a : Nat} (hz : (V.1 2048).toInt.toNat = z) (hn : vnp V t = np) (e : vgap lim 0 V.2.1 (max need z) = some a) : vspl lim V t need = (true, vinc (vlg1 (vcn (vinc (vps V (vins (a, max need z, t, np) V.2.1)) (4024 + t)) 6 1)) (4066 + t)) := by
  unfold vspl
  simp only [hz, hn, e]
theorem vgr_c0 (m : V.1 (3933 + t) = 0) (e : vgap lim 0 V.2.1 (vdbl (vuse V t + need) 16 (2 * vln V.2.1 t 0)) = none) : vgr lim V t need = (false, V) := by
  unfold vgr
  rw [if_pos m]
  simp only [e]
theorem vgr_c1 {g : Nat} (m : V.1 (3933 + t) = 0) (e : vgap lim 0 V.2.1 (vdbl (vuse V t + need) 16 (2 * vln V.2.1 t 0)) = some g) : vgr lim V t need = (true, vlg1 (vcn (vinc (vmv V t g (vdbl (vuse V t + need) 16 (2 * vln V.2.1 t 0))) (4010 + t)) 4 1)) := by
  unfold vgr
  rw [if_pos m]
  simp only [e]
theorem vgr_l0 (m : V.1 (3933 + t) = 1) (e : V.2.1.find? (vkey t 1000) = none) : vgr lim V t need = vspl lim V t need := by
  unfold vgr
  rw [if_neg (by rw [m]; decide), e]
theorem vgr_l1 {q : vP} (m : V.1 (3933 + t) = 1) (e : V.2.1.find? (vkey t 1000) = some q) (hn : vnp V t = np) (c : need ≤ q.2.1) : vgr lim V t need = (true, vinc (vlg1 (vcn (vinc (vps V (vren t 1000 np V.2.1)) (4038 + t)) 8 1)) (4066 + t)) := by
  unfold vgr
  rw [if_neg (by rw [m]; decide), e, hn]
  simp only [if_pos c]
  rfl
theorem vgr_l2 {q : vP} (m : V.1 (3933 + t) = 1) (e : V.2.1.find? (vkey t 1000) = some q) (c : ¬ need ≤ q.2.1) : vgr lim V t need = vspl lim (vsp V t) t need := by
  unfold vgr
  rw [if_neg (by rw [m]; decide), e]
  simp only [if_neg c]
end
section
variable {s : wt_S} {V : vV} {t np : Nat}
theorem Ico.nof (hc : Ico V t np) {n : Nat} (hn : np ≤ n) : vnof V t n := fun i hi e => by
  obtain ⟨g, -⟩ := hc.2.2.2.2.2.2.1 (by omega)
  have := (g.1 i hi).1
  omega
theorem vnp_of {V : vV} {t np : Nat} (h : V.1 (4066 + t) = nI np) (hn : np ≤ 256) : vnp V t = np := by
  unfold vnp
  rw [h, nI_int (by omega)]
  rfl
theorem vuse_of {V : vV} {t u : Nat} (h : V.1 (3961 + t) = nI u) (hn : u < 1000000) : vuse V t = u := by
  unfold vuse
  rw [h, nI_int (by omega)]
  rfl
theorem q_inc {i : Nat} (h : RS s V) (hi : vtr i) (hp : i < 2228 ∨ 2248 ≤ i) : RS (wt_u s 111 i (s 111 i + 1)) (vinc V i) := by
  rw [h.2.at hi]
  exact h.u hi hp
/-- what growing wants -/
def Gpre (V : vV) (t np k : Nat) : Prop := VJ 2048 V ∧ Ico V t np ∧ t < 6 ∧ (∃ z, V.1 2048 = nI z ∧ 8 ≤ z ∧ z ≤ 2048) ∧ (∀ q ∈ V.2.1, 8 ≤ q.2.1) ∧ V.1 2067 = nI k ∧ k < 2147483500
theorem vlen256 {ps : List vP} (ho : vo 2048 ps) (h8 : ∀ q ∈ ps, 8 ≤ q.2.1) {g words : Nat} (hw : 8 ≤ words) (hg : vgap 2048 0 ps words = some g) : ps.length < 256 := by
  obtain ⟨h1, h2⟩ := vgap0 ho hg
  have ho2 : vo 2048 (vins (g, words, 0, 0) ps) := vo_ins ho ⟨by show 1 ≤ words; omega, h1, by show 0 < 6; omega, by show 0 < 4294967296; omega⟩ h2
  have := vlen (z := 8) ho2 (fun q hq => by
    rcases vins_mem.mp hq with e | hq
    · subst e; exact hw
    · exact h8 q hq)
  rw [vins_len] at this
  omega
theorem q_split {need k : Nat} (h : RS s V) (hG : Gpre V t np k) (hn : need ≤ 100) : ∃ s', (∀ z, V.1 2048 = nI z → z ≤ 2048 → gX11_grows_242 s (nI t) (nI (max need z)) = some (rb ((vspl 2048 V t need).1 = true), s')) ∧ RS s' (vspl 2048 V t need).2 ∧ RF s s' := by
  obtain ⟨hj, hc, ht, ⟨z, z1, z2, z3⟩, h8, hk, hk2⟩ := hG
  have hz : (V.1 2048).toInt.toNat = z := by rw [z1, nI_int (by omega)]; rfl
  have hnp := vnp_of hc.2.1 hc.2.2.1.2
  have hgf := q_gapFor (words := max need z) h.2.2.1 hj.2.1 (by omega)
  cases e : vgap 2048 0 V.2.1 (max need z) with
  | none =>
    rw [vspl_none hz e]
    refine ⟨s, fun z' hz' hz3 => ?_, h, RF.refl⟩
    rw [hz'] at z1
    rw [(nI_inj (by omega) (by omega)).mp z1]
    unfold gX11_grows_242
    rw [hgf, e, cl_some, oI_none, if_neg (by simp), rb_neg (by simp)]
  | some a =>
    rw [vspl_some hz hnp e]
    obtain ⟨g1, g2⟩ := vgap0 hj.2.1 e
    have hl := vlen256 hj.2.1 h8 (by omega) e
    obtain ⟨w1, a1, a2, a3⟩ := q_takes (s := s) (t := t) (a := a) (words := max need z) (number := np) h.2.2.1 hj.2.1 hl (by omega)
    have b2 : RS (wt_uf s 111 w1) (vps V (vins (a, max need z, t, np) V.2.1)) := h.uf (h.2.ps a3 a2 (fun mm hm => hm.ins hj (hc.nof (Nat.le_refl _))))
    have c2 := q_inc (i := 4024 + t) b2 (vtt (by omega) ht) (Or.inr (by omega))
    obtain ⟨d1, d2⟩ := q_cnt (c := 6) (v := 1) c2 (by omega)
    obtain ⟨s3, e1, e2, e3⟩ := q_log (a := 2) (b := nI t) (c := nI a) (d := nI (max need z)) (k := k) d2 (by rw [vcn_ne (by omega), vinc_ne (by omega)]; exact hk) (by omega)
    have f2 := q_inc (i := 4066 + t) e2 (vtt (by omega) ht) (Or.inr (by omega))
    refine ⟨_, fun z' hz' hz3 => ?_, f2, RF.trans (RF.uf (Or.inl rfl)) (RF.trans (RF.uf (Or.inl rfl)) (RF.trans (RF.uf (Or.inl rfl)) (RF.trans e3 (RF.uf (Or.inl rfl)))))⟩
    rw [hz'] at z1
    rw [(nI_inj (by omega) (by omega)).mp z1]
    unfold gX11_grows_242
    rw [hgf, e, cl_some, oI_some, if_pos (nI_m1 (by omega)), li_add, ix_nI (by omega) (by omega), h.tk (c := 4066) (by omega) ht, hc.2.1, a1, cl_some, li_add, ix_nI (by omega) (by omega), ix_nI (by omega) (by omega), wr_eq, show gX11_counts (wt_u (wt_uf s 111 w1) 111 (4024 + t) (wt_uf s 111 w1 111 (4024 + t) + 1)) 6 1 = _ from d1, cl_some, e1, cl_some]
    unfold gX11_grows_310
    rw [li_add, ix_nI (by omega) (by omega), ix_nI (by omega) (by omega), wr_eq, rb_pos rfl]
theorem q_grows {need k : Nat} (h : RS s V) (hG : Gpre V t np k) (hk3 : k < 2147483400) (hn : 1 ≤ need ∧ need ≤ 100) : ∃ s', gX11_grows s (nI t) (nI need) = some (rb ((vgr 2048 V t need).1 = true), s') ∧ RS s' (vgr 2048 V t need).2 ∧ RF s s' := by
  have hG0 := hG
  obtain ⟨hj, hc, ht, ⟨z, z1, z2, z3⟩, h8, hk, hk2⟩ := hG
  have hN := hc.n hj (by omega)
  have h0 : RS (wt_u s 110 10 1) V := h.o (by omega)
  have hF0 : RF s (wt_u s 110 10 1) := RF.uo (by omega) (by omega)
  have hnp := vnp_of hc.2.1 hc.2.2.1.2
  generalize hU : vus V.1 (V.2.2.2 t) (V.2.2.1 t) = u at hN
  have hus : V.1 (3961 + t) = nI u := by rw [hc.2.2.2.2.2.1, hU]
  have huse := vuse_of hus (by omega)
  unfold gX11_grows
  rw [wr_eq, li_add, ix_nI (by omega) (by omega), h0.tk (c := 3933) (by omega) ht]
  rcases hc.2.2.2.2.1 with ⟨m0, m1, m2⟩ | m0
  · -- copied
    subst m1
    obtain ⟨x, q, x1, x2, x3, x4, x5, x6, x7, x8⟩ := vfi_some (hc.2.2.2.1.1 0 (by omega))
    have hl256 := h0.2.2.1.2.1
    have hq := hj.2.1.2 q x4
    have hq8 := h8 q x4
    have hpo : gX11_pieceOf (wt_u s 110 10 1) (nI t) 0 = some (oI (some x), wt_u s 110 10 1) := by
      have := q_pieceOf (t := t) (number := 0) h0.2.2.1 hj.2.1 ht (by omega)
      rw [x1] at this
      exact this
    have hge := vdbl_ge (e := u + need) (m := 8) (n := 2 * q.2.1) (by show u + need ≤ 2 * q.2.1 * 256; omega) (by omega)
    have h16 : vdbl (u + need) 16 (2 * q.2.1) = vdbl (u + need) 8 (2 * q.2.1) := vdbl_add (k := 8) hge.1
    generalize hW : vdbl (u + need) 8 (2 * q.2.1) = W at hge h16
    obtain ⟨fu', hfu⟩ := q_grows_36 (s := wt_u s 110 10 1) (t := t) (need := need) (u := u) (by omega) (by rw [h0.tk (c := 3961) (by omega) ht]; exact hus) (by omega) 8 (2 * q.2.1) wt_N (by show u + need ≤ 2 * q.2.1 * 256; omega) (by omega) (by omega) (by unfold wt_N; omega)
    rw [hW] at hfu
    obtain ⟨mv1, mv2⟩ := q_moves (words := W) h0 hj hc ht ⟨by omega, by omega⟩ (by rw [hU]; omega)
    have hstart : gX11_grows_36 wt_N (wt_u s 110 10 1) (nI t) (nI need) (2 * nI q.2.1) = gX11_grows_36 (fu' + 1) (wt_u s 110 10 1) (nI t) (nI need) (nI W) := by rw [li_mul]; exact hfu
    have hwd : vdbl (vuse V t + need) 16 (2 * vln V.2.1 t 0) = W := by rw [huse, x8, h16]
    rw [if_neg (by rw [m0]; simp), hpo, cl_some, oI_some, li_add, ix_nI (by omega) (by omega), (h0.2.2.1.2.2 x q x2).2.1, hstart, gX11_grows_36, li_add, ix_nI (by omega) (by omega), h0.tk (c := 3961) (by omega) ht, hus, nI_add, nI_int (by omega), nI_int (by omega), if_pos (by omega)]
    cases e : vgap 2048 0 V.2.1 W with
    | none =>
      rw [vgr_c0 m0 (by rw [hwd]; exact e)]
      refine ⟨_, ?_, h0, hF0⟩
      rw [mv1 e, cl_some, if_neg (by simp), rb_neg (by simp)]
    | some g =>
      rw [vgr_c1 m0 (by rw [hwd]; exact e), hwd]
      obtain ⟨s1, a1, a2, a3⟩ := mv2 g e
      have b2 := q_inc (i := 4010 + t) a2 (vtt (by omega) ht) (Or.inr (by omega))
      obtain ⟨c1, c2⟩ := q_cnt (c := 4) (v := 1) b2 (by omega)
      have hgw := vgap0 hj.2.1 e
      have hvo := vo_mv (t := t) (g := g) (words := W) hj ht (by omega) hgw
      have hmem : ∃ p ∈ (vmv V t g W).2.1, p.2.2.1 = t ∧ p.2.2.2 = 0 := ⟨(g, W, t, 0), by rw [vmv_2]; exact vins_mem.mpr (Or.inl rfl), rfl, rfl⟩
      obtain ⟨y, p, y1, y2, y3, -⟩ := vfi_some hmem
      have hpo2 : gX11_pieceOf (wt_u (wt_u s1 111 (4010 + t) (s1 111 (4010 + t) + 1)) 111 (2054 + 4) ((vinc (vmv V t g W) (4010 + t)).1 (2054 + 4) + 1)) (nI t) 0 = some (oI (some y), wt_u (wt_u s1 111 (4010 + t) (s1 111 (4010 + t) + 1)) 111 (2054 + 4) ((vinc (vmv V t g W) (4010 + t)).1 (2054 + 4) + 1)) := by
        have := q_pieceOf (t := t) (number := 0) c2.2.2.1 hvo.1 ht (by omega)
        rw [show (vcn (vinc (vmv V t g W) (4010 + t)) 4 1).2.1 = (vmv V t g W).2.1 from rfl, y1] at this
        exact this
      have hy := c2.2.2.1.2.1
      have hy : (vmv V t g W).2.1.length ≤ 256 := hy
      obtain ⟨s3, e1, e2, e3⟩ := q_log (a := 0) (b := nI t) (c := (wt_u (wt_u s1 111 (4010 + t) (s1 111 (4010 + t) + 1)) 111 (2054 + 4) ((vinc (vmv V t g W) (4010 + t)).1 (2054 + 4) + 1)) 111 (2899 + y)) (d := nI W) (k := k) c2 (by rw [vcn_ne (by omega), vinc_ne (by omega), vmv_1, mj_upd_ne (by omega), mj_upd_ne (by omega), mj_upd_ne (by omega)]; exact hk) (by omega)
      refine ⟨s3, ?_, e2, RF.trans hF0 (RF.trans a3 (RF.trans (RF.uf (Or.inl rfl)) (RF.trans (RF.uf (Or.inl rfl)) e3)))⟩
      rw [a1, cl_some, if_pos (by decide), li_add, ix_nI (by omega) (by omega), ix_nI (by omega) (by omega), wr_eq, show gX11_counts (wt_u s1 111 (4010 + t) (s1 111 (4010 + t) + 1)) 4 1 = _ from c1, cl_some, hpo2, cl_some, oI_some, li_add, ix_nI (by omega) (by omega), e1, cl_some, rb_pos rfl]
  · -- linked
    have hpo : gX11_pieceOf (wt_u s 110 10 1) (nI t) 1000 = some (oI (vfi (vkey t 1000) V.2.1 0), wt_u s 110 10 1) := q_pieceOf (t := t) (number := 1000) h0.2.2.1 hj.2.1 ht (by omega)
    have hl256 := h0.2.2.1.2.1
    have h212 : ∀ V1 : vV, Gpre V1 t np (k + 1) ∨ Gpre V1 t np k → V1 = vsp V t → ∃ s', gX11_grows_212 (wt_u s 110 10 1) (nI t) (nI need) = some (rb ((vspl 2048 V1 t need).1 = true), s') ∧ RS s' (vspl 2048 V1 t need).2 ∧ RF s s' := by
      intro V1 hG1 hV1
      obtain ⟨s1, a1, a2, a3⟩ := q_spare h0 hj rfl ht (hc.nof (by have := hc.2.2.1; omega)) hk (by omega)
      rw [← hV1] at a2
      have hz1 : V1.1 2048 = nI z := by
        rw [hV1]
        unfold vsp
        split
        · show (vlg1 V).1 2048 = _
          rw [vlg1_ne (by omega)]; exact z1
        · exact z1
      have hz2 : s1 111 2048 = nI z := by rw [a2.se (by omega)]; exact hz1
      obtain ⟨s2, b1, b2, b3⟩ : ∃ s', (∀ z, V1.1 2048 = nI z → z ≤ 2048 → gX11_grows_242 s1 (nI t) (nI (max need z)) = some (rb ((vspl 2048 V1 t need).1 = true), s')) ∧ RS s' (vspl 2048 V1 t need).2 ∧ RF s1 s' := by
        rcases hG1 with hG1 | hG1
        · exact q_split a2 hG1 hn.2
        · exact q_split a2 hG1 hn.2
      have b1 := b1 z hz1 z3
      refine ⟨s2, ?_, b2, RF.trans hF0 (RF.trans a3 b3)⟩
      unfold gX11_grows_212
      rw [a1, cl_some, hz2, nI_int (by omega), nI_int (by omega)]
      split
      · rw [Nat.max_eq_right (by omega)] at b1
        exact b1
      · rw [Nat.max_eq_left (by omega)] at b1
        exact b1
    rw [if_pos (by rw [m0]; decide), hpo, cl_some]
    cases e : vfi (vkey t 1000) V.2.1 0 with
    | none =>
      have hf := vfi_find.1.mp e
      have hv : vsp V t = V := by unfold vsp; rw [if_neg (by rw [hf]; simp)]
      rw [oI_none, if_pos rfl, vgr_l0 m0 hf]
      exact h212 V (Or.inr hG0) hv.symm
    | some x =>
      obtain ⟨-, hx2, hx3⟩ := vfi_find.2 x e
      rw [Nat.sub_zero] at hx2 hx3
      obtain ⟨q, hq⟩ : ∃ q, V.2.1[x]? = some q := ⟨_, List.getElem?_eq_getElem hx3⟩
      have hqm := hj.2.1.2 q (List.mem_of_getElem? hq)
      rw [hq] at hx2
      rw [oI_some, if_neg (nI_m1 (by omega)), li_add, ix_nI (by omega) (by omega), (h0.2.2.1.2.2 x q hq).2.1, nI_int (by omega), nI_int (by omega)]
      by_cases c : need ≤ q.2.1
      · have r2 : RS (wt_u (wt_u s 110 10 1) 111 (3667 + x) (nI np)) (vps V (vren t 1000 np V.2.1)) := by
          refine h0.uf (h0.2.ps (fun i hi => mj_upd_ne (by unfold vout at hi; omega)) (vr_ren h0.2.2.1 hj.2.2.1 e) (fun mm hm => hm.ren hj (hc.nof (by have := hc.2.2.1; omega)) (hc.nof (Nat.le_refl _))))
        have b2 := q_inc (i := 4038 + t) r2 (vtt (by omega) ht) (Or.inr (by omega))
        obtain ⟨c1, c2⟩ := q_cnt (c := 8) (v := 1) b2 (by omega)
        obtain ⟨s3, e1, e2, e3⟩ := q_log (a := 4) (b := nI t) (c := (wt_u (wt_u (wt_u (wt_u s 110 10 1) 111 (3667 + x) (nI np)) 111 (4038 + t) ((wt_u (wt_u s 110 10 1) 111 (3667 + x) (nI np)) 111 (4038 + t) + 1)) 111 (2054 + 8) ((vinc (vps V (vren t 1000 np V.2.1)) (4038 + t)).1 (2054 + 8) + 1)) 111 (2899 + x)) (d := (wt_u (wt_u (wt_u (wt_u s 110 10 1) 111 (3667 + x) (nI np)) 111 (4038 + t) ((wt_u (wt_u s 110 10 1) 111 (3667 + x) (nI np)) 111 (4038 + t) + 1)) 111 (2054 + 8) ((vinc (vps V (vren t 1000 np V.2.1)) (4038 + t)).1 (2054 + 8) + 1)) 111 (3155 + x)) (k := k) c2 (by rw [vcn_ne (by omega), vinc_ne (by omega)]; exact hk) (by omega)
        have f2 := q_inc (i := 4066 + t) e2 (vtt (by omega) ht) (Or.inr (by omega))
        rw [if_neg (by omega), vgr_l1 m0 hx2 hnp c]
        refine ⟨_, ?_, f2, RF.trans hF0 (RF.trans (RF.uf (Or.inl rfl)) (RF.trans (RF.uf (Or.inl rfl)) (RF.trans (RF.uf (Or.inl rfl)) (RF.trans e3 (RF.uf (Or.inl rfl))))))⟩
        rw [li_add, ix_nI (by omega) (by omega), h0.tk (c := 4066) (by omega) ht, hc.2.1, li_add, ix_nI (by omega) (by omega), wr_eq, li_add, ix_nI (by omega) (by omega), ix_nI (by omega) (by omega), wr_eq, show gX11_counts (wt_u (wt_u (wt_u s 110 10 1) 111 (3667 + x) (nI np)) 111 (4038 + t) ((wt_u (wt_u s 110 10 1) 111 (3667 + x) (nI np)) 111 (4038 + t) + 1)) 8 1 = _ from c1, cl_some, li_add, ix_nI (by omega) (by omega), ix_nI (by omega) (by omega), e1, cl_some]
        unfold gX11_grows_310
        rw [li_add, ix_nI (by omega) (by omega), ix_nI (by omega) (by omega), wr_eq, rb_pos rfl]
      · rw [if_pos (by omega), vgr_l2 m0 hx2 c]
        refine h212 (vsp V t) (Or.inl ?_) rfl
        obtain ⟨j1, j2⟩ := vsp_J hj hc ht
        have hv : vsp V t = vps (vlg1 V) (V.2.1.filter (fun q => !vkey t 1000 q)) := by unfold vsp; rw [if_pos (by rw [hx2]; rfl)]
        refine ⟨j1, j2, ht, ⟨z, ?_, z2, z3⟩, fun p hp => ?_, ?_, by omega⟩
        · rw [hv]; exact (vlg1_ne (by omega)).trans z1
        · rw [hv] at hp
          exact h8 p (List.mem_filter.mp hp).1
        · rw [hv]
          show (vlg1 V).1 2067 = _
          rw [vlg1_at, hk, nI_1]
end
end
section
/-! ===== what one task does leaves the others as they are ===== -/
def OT (t : Nat) (V V' : vV) : Prop := vpe V.1 V'.1 ∧ (∀ i, 2048 ≤ i → i ≤ 2053 → V'.1 i = V.1 i) ∧ (∀ t', t' < 6 → t' ≠ t → (∀ j, j < 21 → V'.1 (3926 + 7 * j + t') = V.1 (3926 + 7 * j + t')) ∧ V'.2.2.1 t' = V.2.2.1 t' ∧ V'.2.2.2 t' = V.2.2.2 t') ∧ (∀ q : vP, q.2.2.1 ≠ t → (q ∈ V'.2.1 ↔ q ∈ V.2.1)) ∧ (∀ t' n, t' ≠ t → V'.2.1.find? (vkey t' n) = V.2.1.find? (vkey t' n)) ∧ (∀ k, k < 3 → ∀ t', t' < 6 → t' ≠ t → (V'.1 (3923 + k) = nI t' ↔ V.1 (3923 + k) = nI t'))
theorem OT.refl {t : Nat} {V : vV} : OT t V V := ⟨vpe.refl, fun _ _ _ => rfl, fun _ _ _ => ⟨fun _ _ => rfl, rfl, rfl⟩, fun _ _ => Iff.rfl, fun _ _ _ => rfl, fun _ _ _ _ _ => Iff.rfl⟩
theorem OT.trans {t : Nat} {V1 V2 V3 : vV} (h : OT t V1 V2) (h' : OT t V2 V3) : OT t V1 V3 := by
  obtain ⟨a1, a2, a3, a4, a5, a6⟩ := h
  obtain ⟨b1, b2, b3, b4, b5, b6⟩ := h'
  refine ⟨a1.trans b1, fun i h1 h2 => (b2 i h1 h2).trans (a2 i h1 h2), fun t' ht hne => ⟨fun j hj => ((b3 t' ht hne).1 j hj).trans ((a3 t' ht hne).1 j hj), (b3 t' ht hne).2.1.trans (a3 t' ht hne).2.1, (b3 t' ht hne).2.2.trans (a3 t' ht hne).2.2⟩, fun q hq => (b4 q hq).trans (a4 q hq), fun t' n hne => (b5 t' n hne).trans (a5 t' n hne), fun k hk t' ht hne => (b6 k hk t' ht hne).trans (a6 k hk t' ht hne)⟩
/-- a scalar that is nobody else's -/
def vown (t i : Nat) : Prop := (2054 ≤ i ∧ i < 2228) ∨ (∃ j, j < 21 ∧ i = 3926 + 7 * j + t)
theorem OT.vs {t i : Nat} {V : vV} {v : Int32} (ht : t < 6) (h : vown t i) : OT t V (vs V i v) := by
  have hi : (i < 2228 ∨ 3926 ≤ i) ∧ 2054 ≤ i := by rcases h with h | ⟨j, h1, h2⟩ <;> omega
  refine ⟨vpe.upd (by omega), fun j h1 h2 => vs_ne (by omega), fun t' ht' hne => ⟨fun j hj => vs_ne ?_, rfl, rfl⟩, fun _ _ => Iff.rfl, fun _ _ _ => rfl, fun k hk t' ht' hne => by rw [vs_ne (by omega)]⟩
  rcases h with h | ⟨j', h1, h2⟩ <;> omega
theorem vown_t {t c : Nat} (h : 3926 ≤ c ∧ c ≤ 4066 ∧ (c - 3926) % 7 = 0) : vown t (c + t) := Or.inr ⟨(c - 3926) / 7, by omega, by omega⟩
theorem OT.cn {t k : Nat} {V : vV} {v : Int32} (ht : t < 6) (hk : k < 12) : OT t V (vcn V k v) := OT.vs ht (Or.inl (by omega))
theorem OT.lg {t : Nat} {V : vV} (ht : t < 6) : OT t V (vlg1 V) := OT.vs ht (Or.inl (by omega))
theorem OT.inc {t i : Nat} {V : vV} (ht : t < 6) (h : vown t i) : OT t V (vinc V i) := OT.vs ht h
theorem OT.ps {t : Nat} {V : vV} {ps : List vP} (h1 : ∀ q : vP, q.2.2.1 ≠ t → (q ∈ ps ↔ q ∈ V.2.1)) (h2 : ∀ t' n, t' ≠ t → ps.find? (vkey t' n) = V.2.1.find? (vkey t' n)) : OT t V (vps V ps) := ⟨vpe.refl, fun _ _ _ => rfl, fun _ _ _ => ⟨fun _ _ => rfl, rfl, rfl⟩, h1, h2, fun _ _ _ _ _ => Iff.rfl⟩
theorem OT.flt {t n : Nat} {V : vV} : OT t V (vps V (V.2.1.filter (fun q => !vkey t n q))) := by
  refine OT.ps (fun q hq => ?_) (fun t' k hne => vfind_filter (fun q _ hk => ?_))
  · rw [List.mem_filter]
    refine ⟨fun h => h.1, fun h => ⟨h, by simp [vkey]; omega⟩⟩
  · have hk : q.2.2.1 = t' ∧ q.2.2.2 = k := by simpa [vkey] using hk
    simp [vkey]
    omega
theorem OT.ren {t n n' : Nat} {V : vV} : OT t V (vps V (vren t n n' V.2.1)) := by
  refine OT.ps (fun q hq => ?_) (fun t' k hne => vfind_ren (fun e => hne e.1))
  unfold vren
  rw [List.mem_map]
  constructor
  · rintro ⟨p, p1, p2⟩
    by_cases c : vkey t n p = true
    · rw [if_pos c] at p2
      have c : p.2.2.1 = t ∧ p.2.2.2 = n := by simpa [vkey] using c
      exact absurd (p2 ▸ c.1) hq
    · rw [if_neg c] at p2
      exact p2 ▸ p1
  · intro h
    refine ⟨q, h, if_neg ?_⟩
    simp [vkey]
    omega
theorem OT.ins {t : Nat} {V : vV} {q : vP} (hq : q.2.2.1 = t) : OT t V (vps V (vins q V.2.1)) := by
  refine OT.ps (fun p hp => ?_) (fun t' k hne => vfind_ins_ne (by simp [vkey]; omega))
  rw [vins_mem]
  exact ⟨fun h => h.resolve_left (fun e => hp (e ▸ hq)), Or.inr⟩
theorem OT.nf {t n : Nat} {V : vV} : OT t V (vnf V t n) := ⟨vpe.refl, fun _ _ _ => rfl, fun t' _ hne => ⟨fun _ _ => rfl, mj_upd_ne hne, rfl⟩, fun _ _ => Iff.rfl, fun _ _ _ => rfl, fun _ _ _ _ _ => Iff.rfl⟩
theorem OT.fr {t i : Nat} {F : vF} {V : vV} : OT t V (vfr V t i F) := ⟨vpe.refl, fun _ _ _ => rfl, fun t' _ hne => ⟨fun _ _ => rfl, rfl, if_neg hne⟩, fun _ _ => Iff.rfl, fun _ _ _ => rfl, fun _ _ _ _ _ => Iff.rfl⟩
theorem OT.sp {t : Nat} {V : vV} (ht : t < 6) : OT t V (vsp V t) := by
  unfold vsp
  split
  · exact (OT.lg ht).trans (OT.flt (V := vlg1 V))
  · exact OT.refl
theorem ot_mvX {t g words : Nat} {V : vV} {X : Int32} (ht : t < 6) : OT t V (vps (vs V (3982 + t) X) (vins (g, words, t, 0) (V.2.1.filter (fun q => !vkey t 0 q)))) :=
  OT.trans (V2 := vs V (3982 + t) X) (OT.vs ht (vown_t (c := 3982) (by omega))) (OT.trans (V2 := vps (vs V (3982 + t) X) (V.2.1.filter (fun q => !vkey t 0 q))) (OT.flt (V := vs V (3982 + t) X)) (OT.ins (V := vps (vs V (3982 + t) X) (V.2.1.filter (fun q => !vkey t 0 q))) rfl))
theorem OT.mv {t g words : Nat} {V : vV} (ht : t < 6) : OT t V (vmv V t g words) := by
  unfold vmv
  exact OT.trans (OT.trans (ot_mvX ht) (OT.vs ht (vown_t (c := 4017) (by omega)))) (OT.cn ht (by omega))
theorem OT.spl {lim t need : Nat} {V : vV} (ht : t < 6) : OT t V (vspl lim V t need).2 := by
  unfold vspl
  dsimp only
  split
  · exact OT.refl
  · exact OT.trans (OT.trans (OT.trans (OT.trans (OT.ins rfl) (OT.inc ht (vown_t (c := 4024) (by omega)))) (OT.cn ht (by omega))) (OT.lg ht)) (OT.inc ht (vown_t (c := 4066) (by omega)))
theorem OT.gr {lim t need : Nat} {V : vV} (ht : t < 6) : OT t V (vgr lim V t need).2 := by
  unfold vgr
  split
  · dsimp only
    split
    · exact OT.refl
    · exact OT.trans (OT.trans (OT.trans (OT.mv ht) (OT.inc ht (vown_t (c := 4010) (by omega)))) (OT.cn ht (by omega))) (OT.lg ht)
  · split
    · split
      · exact OT.trans (OT.trans (OT.trans (OT.trans OT.ren (OT.inc ht (vown_t (c := 4038) (by omega)))) (OT.cn ht (by omega))) (OT.lg ht)) (OT.inc ht (vown_t (c := 4066) (by omega)))
      · exact OT.trans (OT.sp ht) (OT.spl ht)
    · exact OT.spl ht
/-- the others keep what held -/
theorem Ibz.ot {lim t t' : Nat} {V V' : vV} (h : OT t V V') (ht : t' < 6) (hne : t' ≠ t) (hp : Ipr V.1) (hb : Ibz lim V t') : Ibz lim V' t' := by
  obtain ⟨a1, a2, a3, a4, a5, a6⟩ := h
  obtain ⟨b1, b2, b3⟩ := a3 t' ht hne
  obtain ⟨n, np, c1, c2, c3, c4, c5, c6, c7, c8, c9, c10, c11, c12, c13, c14, c15, c16, c17⟩ := hb
  have hf : ∀ i, i < n + 1 → (V.2.2.2 t' i).1 < 10 := fun i hi => (c9.1 i hi).1
  have q : ∀ c, 3926 ≤ c → c ≤ 4066 → (c - 3926) % 7 = 0 → V'.1 (c + t') = V.1 (c + t') := fun c h1 h2 h3 => by
    have := b1 ((c - 3926) / 7) (by omega)
    rw [show 3926 + 7 * ((c - 3926) / 7) = c by omega] at this
    exact this
  have hat : ∀ k, vat V'.2.1 t' k = vat V.2.1 t' k ∧ vln V'.2.1 t' k = vln V.2.1 t' k := fun k => vat_eq (a5 t' k hne)
  have hmem : ∀ p : vP, p.2.2.1 = t' → (p ∈ V'.2.1 ↔ p ∈ V.2.1) := fun p hp => a4 p (by omega)
  have hvos : ∀ m, m ≤ n + 1 → vos V'.1 (V.2.2.2 t') m = vos V.1 (V.2.2.2 t') m := by
    intro m
    induction m with
    | zero => intro _; rfl
    | succ m ih =>
      intro hm
      unfold vos
      rw [ih (by omega)]
      congr 1
      unfold vfo
      split
      · rename_i c
        cases m with
        | zero => rcases c9.2.1 with e | e <;> omega
        | succ m =>
          obtain ⟨d1, d2, d3, d4, -⟩ := c9.2.2.1 m (by omega)
          have hl := (hp.li (hf m (by omega))).2
          rw [a1.co (by rw [d2]; exact hf m (by omega)) (by omega) (by omega)]
      · rfl
  refine ⟨n, np, b2.trans c1, (q 3954 (by omega) (by omega) (by omega)).trans c2, (q 4066 (by omega) (by omega) (by omega)).trans c3, c4, ⟨fun k hk => ?_, fun p hp e => c5.2 p ((hmem p e).mp hp) e⟩, ?_, ?_, ?_, ?_, ?_, ?_, ?_, ?_, ?_, ?_, ?_, ?_⟩
  · obtain ⟨p, p1, p2, p3⟩ := c5.1 k hk
    exact ⟨p, (hmem p p2).mpr p1, p2, p3⟩
  · rw [q 3933 (by omega) (by omega) (by omega)]
    rcases c6 with ⟨e1, e2, e3⟩ | e
    · exact Or.inl ⟨e1, e2, fun p hp e => e3 p ((hmem p e.1).mp hp) e⟩
    · exact Or.inr e
  · rw [b3]; exact (c7.ps (fun i hi => ⟨(c7.1 i hi).1, (hat _).2⟩)).ww a1 hf
  · rw [b3]; exact c8
  · rw [b3]; exact (c9.ps (fun i hi => (hat _).2)).ww a1 hp
  · rw [q 3961 (by omega) (by omega) (by omega), b3, (a1.us (k := 0) hf).1]; exact c10
  · rw [q 3982 (by omega) (by omega) (by omega), c11]
    unfold vpl
    rw [b3, (hat _).1]
  · rw [q 3975 (by omega) (by omega) (by omega), b3]; exact c12
  · rw [q 3968 (by omega) (by omega) (by omega)]; exact c13
  · rw [q 3996 (by omega) (by omega) (by omega), b3, hvos _ (Nat.le_refl _)]; exact c14
  · rw [b3, hvos _ (Nat.le_refl _)]; exact c15
  · rw [b3, q 3989 (by omega) (by omega) (by omega), hvos _ (Nat.le_refl _)]
    rcases c16 with c16 | ⟨k, k1, k2, k3, k4⟩
    · exact Or.inl c16
    · exact Or.inr ⟨k, k1, k2, (a6 k k1 t' ht hne).mpr k3, k4⟩
  · rw [q 4052 (by omega) (by omega) (by omega)]
    exact a1.tl.mpr c17
theorem Iid.ot {t t' : Nat} {V V' : vV} (h : OT t V V') (ht : t' < 6) (hne : t' ≠ t) (hi : Iid V t') : Iid V' t' := by
  obtain ⟨a1, a2, a3, a4, a5, a6⟩ := h
  obtain ⟨b1, b2, b3⟩ := a3 t' ht hne
  have q : ∀ c, 3926 ≤ c → c ≤ 4066 → (c - 3926) % 7 = 0 → V'.1 (c + t') = V.1 (c + t') := fun c h1 h2 h3 => by
    have := b1 ((c - 3926) / 7) (by omega)
    rw [show 3926 + 7 * ((c - 3926) / 7) = c by omega] at this
    exact this
  obtain ⟨c1, c2, c3, c4, c5, c6, c7, c8, c9⟩ := hi
  refine ⟨b2.trans c1, (q 3954 (by omega) (by omega) (by omega)).trans c2, (q 4066 (by omega) (by omega) (by omega)).trans c3, (q 3961 (by omega) (by omega) (by omega)).trans c4, (q 3975 (by omega) (by omega) (by omega)).trans c5, (q 3989 (by omega) (by omega) (by omega)).trans c6, (q 3996 (by omega) (by omega) (by omega)).trans c7, ?_, fun p hp e => ?_⟩
  · rw [show 3926 + t' = 3926 + t' from rfl, q 3926 (by omega) (by omega) (by omega)]; exact c8
  · exact c9 p ((a4 p (by omega)).mp hp) e
theorem VI.ot {lim B B' t : Nat} {V V' : vV} (hI : VI lim B V) (h : OT t V V') (ht : t < 6) (h1 : vo lim V'.2.1 ∧ V'.2.1.Pairwise (fun p q => ¬ (p.2.2.1 = q.2.2.1 ∧ p.2.2.2 = q.2.2.2)) ∧ ∀ q ∈ V'.2.1, (V.1 2048).toInt.toNat ≤ q.2.1) (h2 : Isd V'.1) (h3 : ∃ k, k ≤ B' ∧ V'.1 2067 = nI k) (h4 : (vbz V'.1 t ∧ Ibz lim V' t) ∨ Iid V' t) : VI lim B' V' := by
  have he := h.2.1
  refine ⟨?_, hI.2.1.ww h.1, ⟨h1.1, h1.2.1, ?_⟩, h2, h3, fun t' ht' => ?_⟩
  · unfold Ise
    rw [he 2048 (by omega) (by omega), he 2049 (by omega) (by omega), he 2050 (by omega) (by omega), he 2051 (by omega) (by omega), he 2052 (by omega) (by omega), he 2053 (by omega) (by omega)]
    exact hI.1
  · rw [he 2048 (by omega) (by omega)]; exact h1.2.2
  · by_cases e : t' = t
    · subst e; exact h4
    · rcases hI.2.2.2.2.2 t' ht' with ⟨b1, b2⟩ | b
      · refine Or.inl ⟨?_, b2.ot h ht' e hI.2.1⟩
        unfold vbz at b1 ⊢
        have := (h.2.2.1 t' ht' e).1 0 (by omega)
        rw [show 3926 + 7 * 0 + t' = 3926 + t' by omega] at this
        rw [this]
        exact b1
      · exact Or.inr (b.ot h ht' e)
end
section
/-! ===== growing keeps what holds ===== -/
theorem vud_zero {w : Nat → Int32} {fr : Nat → vF} {k : Nat} : ∀ {n : Nat}, (∀ j, j < n → (fr j).2.1 ≠ k) → vud w fr k n = 0 := by
  intro n
  induction n with
  | zero => intro _; rfl
  | succ n ih => intro h; unfold vud; rw [ih (fun j hj => h j (by omega)), if_neg (h n (by omega))]
theorem Geo.mono {w : Nat → Int32} {ps : List vP} {t np n : Nat} {fr : Nat → vF} (h : Geo w ps t np n fr) {i j : Nat} (hij : i ≤ j) (hj : j < n) : (fr i).2.1 ≤ (fr j).2.1 := by
  by_cases e : i = j
  · subst e; exact Nat.le_refl _
  · rcases h.lt (i := i) (j := j) (by omega) hj with h1 | h1 <;> omega
theorem Geo.ud {w : Nat → Int32} {ps : List vP} {t np n : Nat} {fr : Nat → vF} (h : Geo w ps t np n fr) : ∀ i, i < n → vud w fr (fr i).2.1 (i + 1) = (fr i).2.2.1 + vwd w (fr i).1 := by
  intro i
  induction i with
  | zero => intro hi; unfold vud vud; rw [if_pos rfl, h.2.1.1]
  | succ i ih =>
    intro hi
    have := ih (by omega)
    rw [vud, if_pos rfl]
    rcases h.2.2 i hi with ⟨e1, e2⟩ | ⟨e1, e2⟩
    · rw [e1, this, e2]
    · rw [vud_zero (fun j hj => by have := h.mono (i := j) (j := i) (by omega) (by omega); omega), e2]
theorem Ico.top {V : vV} {t np : Nat} (h : Ico V t np) : vtop V t = vat V.2.1 t (np - 1) + vud V.1 (V.2.2.2 t) (np - 1) (V.2.2.1 t) := by
  unfold vtop
  by_cases c : V.2.2.1 t = 0
  · rw [if_pos c, c, (h.2.2.2.2.2.2.2 c).1]
    rfl
  · obtain ⟨n, hn⟩ : ∃ n, V.2.2.1 t = n + 1 := ⟨V.2.2.1 t - 1, by omega⟩
    obtain ⟨g, p, -⟩ := h.2.2.2.2.2.2.1 (by omega)
    rw [if_neg c, hn] at *
    rw [Nat.add_sub_cancel] at *
    have := g.ud n (by omega)
    rw [p] at this
    rw [this]
    unfold vpl
    rw [p]
    omega
theorem Itp.len {t : Nat} : ∀ {np : Nat} {ps : List vP}, Itp ps t np → np ≤ ps.length := by
  intro np
  induction np with
  | zero => intro ps _; exact Nat.zero_le _
  | succ np ih =>
    intro ps h
    obtain ⟨q, q1, q2, q3⟩ := h.1 np (by omega)
    have h1 : Itp (ps.filter (fun q => !vkey t np q) ) t np ∨ True := Or.inr trivial
    have hlt : (ps.filter (fun q => !vkey t np q)).length < ps.length := by
      have : (ps.filter (fun q => !vkey t np q)).length ≤ ps.length := List.length_filter_le _ _
      rcases Nat.lt_or_eq_of_le this with h | h
      · exact h
      · have := List.length_filter_eq_length_iff.mp h q q1
        simp [vkey, q2, q3] at this
    have h2 : ∀ k, k < np → ∃ q ∈ ps.filter (fun q => !vkey t np q), q.2.2.1 = t ∧ q.2.2.2 = k := fun k hk => by
      obtain ⟨p, p1, p2, p3⟩ := h.1 k (by omega)
      exact ⟨p, List.mem_filter.mpr ⟨p1, by simp [vkey]; omega⟩, p2, p3⟩
    have key : ∀ {np : Nat} {ps : List vP}, (∀ k, k < np → ∃ q ∈ ps, q.2.2.1 = t ∧ q.2.2.2 = k) → np ≤ ps.length := by
      intro np
      induction np with
      | zero => intro ps _; exact Nat.zero_le _
      | succ np ih =>
        intro ps h
        obtain ⟨q, q1, q2, q3⟩ := h np (by omega)
        have hlt : (ps.filter (fun q => !vkey t np q)).length < ps.length := by
          have : (ps.filter (fun q => !vkey t np q)).length ≤ ps.length := List.length_filter_le _ _
          rcases Nat.lt_or_eq_of_le this with h | h
          · exact h
          · have := List.length_filter_eq_length_iff.mp h q q1
            simp [vkey, q2, q3] at this
        have := ih (ps := ps.filter (fun q => !vkey t np q)) (fun k hk => by
          obtain ⟨p, p1, p2, p3⟩ := h k (by omega)
          exact ⟨p, List.mem_filter.mpr ⟨p1, by simp [vkey]; omega⟩, p2, p3⟩)
        omega
    have := key h2
    omega
/-- what a task wants for a call: z is FIRST -/
def Vpre (lim : Nat) (V : vV) (t np z : Nat) : Prop := VJ lim V ∧ Ico V t np ∧ t < 6 ∧ V.1 2048 = nI z ∧ 8 ≤ z ∧ z ≤ lim ∧ lim ≤ 10000 ∧ lim ≤ 256 * z ∧ ∀ q ∈ V.2.1, z ≤ q.2.1
theorem Itp.n256 {lim z t np : Nat} {ps : List vP} (h : Itp ps t np) (ho : vo lim ps) (hz : ∀ q ∈ ps, z ≤ q.2.1) (h8 : 8 ≤ z) (hl : lim ≤ 256 * z) : np ≤ 256 := by
  have h1 := h.len
  have h2 := vlen ho hz
  have : ps.length ≤ 256 := Nat.le_of_mul_le_mul_right (Nat.le_trans h2 hl) (by omega)
  omega
def vgs (t i : Nat) : Prop := i = 2067 ∨ (2054 ≤ i ∧ i ≤ 2065) ∨ i = 3982 + t ∨ i = 4010 + t ∨ i = 4017 + t ∨ i = 4024 + t ∨ i = 4038 + t ∨ i = 4066 + t
section
variable {lim z t np : Nat} {V : vV}
theorem vmv_inv {g words : Nat} (hP : Vpre lim V t 1 z) (hg : g + words ≤ lim ∧ ∀ q ∈ V.2.1, g + words ≤ q.1 ∨ q.1 + q.2.1 ≤ g) (hw : z ≤ words) (hu : vus V.1 (V.2.2.2 t) (V.2.2.1 t) ≤ words) (hcov : ∀ i, i < V.2.2.1 t → vcv (V.2.2.2 t i) → ∀ d, vdp V.1 10 (V.2.2.2 t i).1 = some d → (V.2.2.2 t i).2.2.1 + d ≤ words) (hm : V.1 (3933 + t) = 0) :
    VJ lim (vmv V t g words) ∧ Ico (vmv V t g words) t 1 ∧ (∀ q ∈ (vmv V t g words).2.1, z ≤ q.2.1) ∧ vud V.1 (V.2.2.2 t) 0 (V.2.2.1 t) = vus V.1 (V.2.2.2 t) (V.2.2.1 t) := by
  obtain ⟨hj, hc, ht, hz, h8, hzl, hl, hl2, hq⟩ := hP
  obtain ⟨o1, o2⟩ := vo_mv (t := t) (g := g) (words := words) hj ht (by omega) hg
  obtain ⟨v1, v2, v3⟩ := vmv_at (t := t) (g := g) (words := words) hj
  obtain ⟨c1, c2, c3, c4, c5, c6, c7, c8⟩ := hc
  have hnsp : ∀ q ∈ V.2.1, ¬ (q.2.2.1 = t ∧ q.2.2.2 = 1000) := by
    rcases c5 with ⟨_, _, e⟩ | e
    · exact e
    · rw [hm] at e; exact absurd e (by decide)
  have hmem : ∀ q ∈ (vmv V t g words).2.1, q = (g, words, t, 0) ∨ (q ∈ V.2.1 ∧ ¬ (q.2.2.1 = t ∧ q.2.2.2 = 0)) := fun q hq => by
    rw [vmv_2] at hq
    rcases vins_mem.mp hq with e | hq
    · exact Or.inl e
    · obtain ⟨a, b⟩ := List.mem_filter.mp hq
      exact Or.inr ⟨a, fun e => by simp [vkey] at b; omega⟩
  have hmem' : ∀ q ∈ V.2.1, ¬ (q.2.2.1 = t ∧ q.2.2.2 = 0) → q ∈ (vmv V t g words).2.1 := fun q hq hn => by
    rw [vmv_2]
    exact vins_mem.mpr (Or.inr (List.mem_filter.mpr ⟨hq, by simp [vkey]; omega⟩))
  have hitp : Itp (vmv V t g words).2.1 t 1 := by
    refine ⟨fun k hk => ⟨(g, words, t, 0), by rw [vmv_2]; exact vins_mem.mpr (Or.inl rfl), rfl, by show 0 = k; omega⟩, fun q hq e => ?_⟩
    rcases hmem q hq with rfl | ⟨a, b⟩
    · exact Or.inl (by show 0 < 1; omega)
    · rcases c4.2 q a e with h | h
      · exact absurd ⟨e, by omega⟩ b
      · exact Or.inr h
  have hzw : ∀ q ∈ (vmv V t g words).2.1, z ≤ q.2.1 := fun q hq' => by
    rcases hmem q hq' with rfl | ⟨a, -⟩
    · exact hw
    · exact hq q a
  have hw' := vmv_w (V := V) (t := t) (g := g) (words := words)
  have hpn : ∀ i, i < V.2.2.1 t → (V.2.2.2 t i).2.1 = 0 := fun i hi => by have := ((c7 (by omega)).1.1 i hi).1; omega
  have hof : ∀ i, i < V.2.2.1 t → (V.2.2.2 t i).2.2.1 + vwd V.1 (V.2.2.2 t i).1 ≤ vus V.1 (V.2.2.2 t) (V.2.2.1 t) := fun i hi => by
    rw [(c7 (by omega)).1.one i hi]
    have := vus_mono (w := V.1) (fr := V.2.2.2 t) (show i + 1 ≤ V.2.2.1 t by omega)
    rw [vus] at this
    exact this
  have hgeo : 0 < V.2.2.1 t → Geo (vmv V t g words).1 (vmv V t g words).2.1 t 1 (V.2.2.1 t) (V.2.2.2 t) ∧ Ifr (vmv V t g words).1 (vmv V t g words).2.1 t (V.2.2.1 t) (V.2.2.2 t) := fun h0 => by
    obtain ⟨d1, d2, d3, d4, d5⟩ := c7 h0
    constructor
    · refine Geo.ww (w := V.1) ⟨fun i hi => ⟨by rw [hpn i hi]; omega, ?_⟩, d1.2.1, d1.2.2⟩ hw' (fun i hi => (d3.1 i hi).1)
      rw [hpn i hi, v2]
      have := hof i hi
      omega
    · refine Ifr.ww (w := V.1) ⟨d3.1, d3.2.1, d3.2.2.1, d3.2.2.2.1, fun i hi hcv => ?_, d3.2.2.2.2.2⟩ hw' hj.1
      obtain ⟨d, e1, e2, -⟩ := d3.2.2.2.2.1 i hi hcv
      exact ⟨d, e1, e2, by rw [hpn i hi, v2]; exact hcov i hi hcv d e1⟩
  have hoth : ∀ t', t' ≠ t → ∀ n, vat (vmv V t g words).2.1 t' n = vat V.2.1 t' n ∧ vln (vmv V t g words).2.1 t' n = vln V.2.1 t' n := fun t' hne n => v3 t' n (fun e => hne e.1)
  refine ⟨⟨hj.1.ww hw', o1, o2, fun t' ht' h0 => ?_⟩, ⟨?_, ?_, c3, hitp, Or.inl ⟨?_, rfl, fun q hq' e => ?_⟩, ?_, fun h0 => ⟨(hgeo h0).1, ?_, (hgeo h0).2, ?_, ?_⟩, fun h0 => ⟨rfl, ?_⟩⟩, hzw, ?_⟩
  · by_cases et : t' = t
    · subst et; exact ⟨1, hitp, hgeo h0⟩
    · obtain ⟨np', a1, a2, a3⟩ := hj.geo ht' h0
      refine ⟨np', ⟨fun k hk => ?_, fun q hq' e => ?_⟩, (a2.ps (fun i hi => ⟨(a2.1 i hi).1, (hoth t' et _).2⟩)).ww hw' (fun i hi => (a3.1 i hi).1), (a3.ps (fun i hi => (hoth t' et _).2)).ww hw' hj.1⟩
      · obtain ⟨q, q1, q2, q3⟩ := a1.1 k hk
        exact ⟨q, hmem' q q1 (fun e => et (q2.symm.trans e.1)), q2, q3⟩
      · rcases hmem q hq' with rfl | ⟨a, -⟩
        · exact absurd e.symm et
        · exact a1.2 q a e
  · show (vmv V t g words).1 (3954 + t) = _
    rw [vmv_1, mj_upd_ne (by omega), mj_upd_ne (by omega), mj_upd_ne (by omega)]; exact c1
  · rw [vmv_1, mj_upd_ne (by omega), mj_upd_ne (by omega), mj_upd_ne (by omega)]; exact c2
  · rw [vmv_1, mj_upd_ne (by omega), mj_upd_ne (by omega), mj_upd_ne (by omega)]; exact hm
  · rcases hmem q hq' with rfl | ⟨a, -⟩
    · have : (0 : Nat) = 1000 := e.2
      omega
    · exact hnsp q a e
  · show (vmv V t g words).1 (3961 + t) = nI (vus (vmv V t g words).1 (V.2.2.2 t) (V.2.2.1 t))
    rw [(hw'.us (k := 0) (fun i hi => ((c7 (by omega)).2.2.1.1 i hi).1)).1, vmv_1, mj_upd_ne (by omega), mj_upd_ne (by omega), mj_upd_ne (by omega)]; exact c6
  · exact (c7 h0).2.1
  · have h0 : 0 < V.2.2.1 t := h0
    show (vmv V t g words).1 (3982 + t) = nI (vat (vmv V t g words).2.1 t (V.2.2.2 t (V.2.2.1 t - 1)).2.1 + (V.2.2.2 t (V.2.2.1 t - 1)).2.2.1)
    rw [hpn _ (by omega), v1, vmv_1, mj_upd_ne (by omega), mj_upd_ne (by omega), mj_upd_self, if_neg (by omega)]
  · show (vmv V t g words).1 (3975 + t) = _
    rw [vmv_1, mj_upd_ne (by omega), mj_upd_ne (by omega), mj_upd_ne (by omega)]; exact (c7 h0).2.2.2.2
  · have h0 : V.2.2.1 t = 0 := h0
    rw [vmv_1, mj_upd_ne (by omega), mj_upd_ne (by omega), mj_upd_self, if_pos h0]; exact (c8 h0).2
  · have : ∀ n, n ≤ V.2.2.1 t → vud V.1 (V.2.2.2 t) 0 n = vus V.1 (V.2.2.2 t) n := by
      intro n
      induction n with
      | zero => intro _; rfl
      | succ n ih => intro hn; unfold vud vus; rw [ih (by omega), if_pos (hpn n (by omega))]
    exact this _ (Nat.le_refl _)
end
end
section
/-! ===== growing keeps what holds: linked, and all ===== -/
/-- before a frame comes: the last piece may have none yet -/
def Icn (V : vV) (t np : Nat) : Prop := V.1 (3954 + t) = nI (V.2.2.1 t) ∧ V.1 (4066 + t) = nI np ∧ (1 ≤ np ∧ np ≤ 256) ∧ Itp V.2.1 t np ∧ ((V.1 (3933 + t) = 0 ∧ np = 1 ∧ ∀ q ∈ V.2.1, ¬ (q.2.2.1 = t ∧ q.2.2.2 = 1000)) ∨ V.1 (3933 + t) = 1) ∧ V.1 (3961 + t) = nI (vus V.1 (V.2.2.2 t) (V.2.2.1 t)) ∧
  (0 < V.2.2.1 t → Geo V.1 V.2.1 t np (V.2.2.1 t) (V.2.2.2 t) ∧ ((V.2.2.2 t (V.2.2.1 t - 1)).2.1 + 1 = np ∨ (V.2.2.2 t (V.2.2.1 t - 1)).2.1 + 2 = np) ∧ Ifr V.1 V.2.1 t (V.2.2.1 t) (V.2.2.2 t) ∧ V.1 (3982 + t) = nI (vpl V t (V.2.2.1 t - 1)) ∧ V.1 (3975 + t) = nI (V.2.2.2 t (V.2.2.1 t - 1)).1) ∧ (V.2.2.1 t = 0 → np ≤ 2 ∧ V.1 (3982 + t) = 0)
section
variable {lim z t np : Nat} {V V' : vV}
theorem Ico.n' (h : Ico V t np) : Icn V t np := by
  obtain ⟨c1, c2, c3, c4, c5, c6, c7, c8⟩ := h
  exact ⟨c1, c2, c3, c4, c5, c6, fun h0 => by
    obtain ⟨d1, d2, d3⟩ := c7 h0
    exact ⟨d1, Or.inl (by omega), d3⟩, fun h0 => ⟨by rw [(c8 h0).1]; omega, (c8 h0).2⟩⟩
theorem Icn.ps {np' : Nat} (hc : Icn V t np) (hw : vpe V.1 V'.1) (hp : Ipr V.1) (h2 : V'.2.2 = V.2.2) (hs : vsame V V'.2.1 t np np') (h1 : V'.1 (3954 + t) = V.1 (3954 + t)) (h3 : V'.1 (4066 + t) = nI np') (h4 : 1 ≤ np' ∧ np' ≤ 256) (h5 : (V'.1 (3933 + t) = 0 ∧ np' = 1 ∧ ∀ q ∈ V'.2.1, ¬ (q.2.2.1 = t ∧ q.2.2.2 = 1000)) ∨ V'.1 (3933 + t) = 1) (h6 : V'.1 (3961 + t) = V.1 (3961 + t)) (h7 : V'.1 (3982 + t) = V.1 (3982 + t)) (h8 : V'.1 (3975 + t) = V.1 (3975 + t)) (h9 : V.2.2.1 t = 0 → np' ≤ 2) (h10 : 0 < V.2.2.1 t → (V.2.2.2 t (V.2.2.1 t - 1)).2.1 + 1 = np' ∨ (V.2.2.2 t (V.2.2.1 t - 1)).2.1 + 2 = np') : Icn V' t np' := by
  obtain ⟨c1, c2, c3, c4, c5, c6, c7, c8⟩ := hc
  unfold Icn
  have e1 : V'.2.2.1 = V.2.2.1 := by rw [h2]
  have e2 : V'.2.2.2 = V.2.2.2 := by rw [h2]
  rw [e1, e2]
  have hf : ∀ i, i < V.2.2.1 t → (V.2.2.2 t i).1 < 10 := fun i hi => ((c7 (by omega)).2.2.1.1 i hi).1
  refine ⟨h1.trans c1, h3, h4, hs.1, h5, ?_, fun hn => ?_, fun hn => ⟨h9 hn, h7.trans (c8 hn).2⟩⟩
  · rw [h6, c6, (hw.us (k := 0) hf).1]
  · obtain ⟨d1, d2, d3, d4, d5⟩ := c7 hn
    refine ⟨(d1.ps (fun i hi => ⟨(hs.2 i hi).1, (hs.2 i hi).2.2⟩)).ww hw hf, h10 hn, (d3.ps (fun i hi => (hs.2 i hi).2.2)).ww hw hp, ?_, h8.trans d5⟩
    rw [h7, d4]
    unfold vpl
    rw [e2, (hs.2 _ (by omega)).2.1]
theorem icn_vs {i : Nat} {v : Int32} (hc : Icn V t np) (hp : Ipr V.1) (hi : (i < 2228 ∨ 2898 ≤ i) ∧ i ≠ 2050 ∧ i ≠ 2051) (h : i ≠ 3954 + t ∧ i ≠ 4066 + t ∧ i ≠ 3933 + t ∧ i ≠ 3961 + t ∧ i ≠ 3982 + t ∧ i ≠ 3975 + t) : Icn (vs V i v) t np := by
  have hs : vsame V (vs V i v).2.1 t np np := ⟨hc.2.2.2.1, fun j hj => ⟨((hc.2.2.2.2.2.2.1 (by omega)).1.1 j hj).1, rfl, rfl⟩⟩
  refine hc.ps (V' := vs V i v) (vpe.upd hi) hp rfl hs (vs_ne (by omega)) ((vs_ne (by omega)).trans hc.2.1) hc.2.2.1 ?_ (vs_ne (by omega)) (vs_ne (by omega)) (vs_ne (by omega)) (fun h0 => (hc.2.2.2.2.2.2.2 h0).1) (fun h0 => (hc.2.2.2.2.2.2.1 h0).2.1)
  rw [vs_ne (by omega)]
  exact hc.2.2.2.2.1
theorem ico_vs {i : Nat} {v : Int32} (hc : Ico V t np) (hp : Ipr V.1) (hi : (i < 2228 ∨ 2898 ≤ i) ∧ i ≠ 2050 ∧ i ≠ 2051) (h : i ≠ 3954 + t ∧ i ≠ 4066 + t ∧ i ≠ 3933 + t ∧ i ≠ 3961 + t ∧ i ≠ 3982 + t ∧ i ≠ 3975 + t) : Ico (vs V i v) t np := by
  have hs : vsame V (vs V i v).2.1 t np np := ⟨hc.2.2.2.1, fun j hj => ⟨((hc.2.2.2.2.2.2.1 (by omega)).1.1 j hj).1, rfl, rfl⟩⟩
  refine hc.ps (V' := vs V i v) (vpe.upd hi) hp rfl hs (vs_ne (by omega)) ((vs_ne (by omega)).trans hc.2.1) hc.2.2.1 ?_ (vs_ne (by omega)) (vs_ne (by omega)) (vs_ne (by omega)) (fun h0 => (hc.2.2.2.2.2.2.2 h0).1) (fun h0 => (hc.2.2.2.2.2.2.1 h0).2.1)
  rw [vs_ne (by omega)]
  exact hc.2.2.2.2.1
/-- another piece of a number that no piece had -/
theorem vsame_ins {q : vP} (hc : Ico V t np) (ht : q.2.2.1 = t) (hn : q.2.2.2 = np) (ho : np ≠ 1000) : vsame V (vins q V.2.1) t np (np + 1) := by
  refine ⟨⟨fun k hk => ?_, fun p hp e => ?_⟩, fun i hi => ?_⟩
  · by_cases ek : k = np
    · exact ⟨q, vins_mem.mpr (Or.inl rfl), ht, by omega⟩
    · obtain ⟨p, p1, p2, p3⟩ := hc.2.2.2.1.1 k (by omega)
      exact ⟨p, vins_mem.mpr (Or.inr p1), p2, p3⟩
  · rcases vins_mem.mp hp with rfl | hp
    · exact Or.inl (by omega)
    · rcases hc.2.2.2.1.2 p hp e with h | h
      · exact Or.inl (by omega)
      · exact Or.inr h
  · have := ((hc.2.2.2.2.2.2.1 (by omega)).1.1 i hi).1
    exact ⟨by omega, vat_eq (vfind_ins_ne (by simp [vkey]; omega))⟩
theorem vsame_ren (hc : Ico V t np) (hs : ∃ q ∈ V.2.1, q.2.2.1 = t ∧ q.2.2.2 = 1000) : vsame V (vren t 1000 np V.2.1) t np (np + 1) := by
  have hnp := hc.2.2.1
  refine ⟨⟨fun k hk => ?_, fun p hp e => ?_⟩, fun i hi => ?_⟩
  · by_cases ek : k = np
    · obtain ⟨q, q1, q2, q3⟩ := hs
      exact ⟨(q.1, q.2.1, q.2.2.1, np), List.mem_map.mpr ⟨q, q1, if_pos (by simp [vkey, q2, q3])⟩, q2, by show np = k; omega⟩
    · obtain ⟨p, p1, p2, p3⟩ := hc.2.2.2.1.1 k (by omega)
      exact ⟨p, List.mem_map.mpr ⟨p, p1, if_neg (by simp [vkey]; omega)⟩, p2, p3⟩
  · obtain ⟨p0, a1, a2⟩ := List.mem_map.mp hp
    by_cases c : vkey t 1000 p0 = true
    · rw [if_pos c] at a2
      subst a2
      exact Or.inl (by show np < np + 1; omega)
    · rw [if_neg c] at a2
      subst a2
      rcases hc.2.2.2.1.2 p0 a1 e with h | h
      · exact Or.inl (by omega)
      · exact Or.inr h
  · have := ((hc.2.2.2.2.2.2.1 (by omega)).1.1 i hi).1
    exact ⟨by omega, vat_eq (vfind_ren (fun e => by omega))⟩
theorem VJ.ins {q : vP} (hj : VJ lim V) (hc : Ico V t np) (ht : q.2.2.1 = t) (h6 : t < 6) (hn : q.2.2.2 = np) (h1 : 1 ≤ q.2.1 ∧ q.1 + q.2.1 ≤ lim) (h2 : ∀ p ∈ V.2.1, q.1 + q.2.1 ≤ p.1 ∨ p.1 + p.2.1 ≤ q.1) : VJ lim (vps V (vins q V.2.1)) := by
  have hnp := hc.2.2.1
  refine hj.ps (vo_ins hj.2.1 ⟨h1.1, h1.2, by omega, by omega⟩ h2) (vkeys_pw (fun p q h e => h ⟨e.1.symm, e.2.symm⟩) hj.2.2.1 (fun p hp e => ?_)) (fun t' ht' h0 np' a1 a2 => ?_)
  · rcases hc.2.2.2.1.2 p hp (by omega) with h | h <;> omega
  · by_cases et : t' = t
    · subst et; exact ⟨np + 1, vsame_ins hc ht hn (by omega)⟩
    · refine ⟨np', ⟨fun k hk => ?_, fun p hp e => ?_⟩, fun i hi => ⟨(a2.1 i hi).1, vat_eq (vfind_ins_ne (by simp [vkey]; omega))⟩⟩
      · obtain ⟨p, p1, p2, p3⟩ := a1.1 k hk
        exact ⟨p, vins_mem.mpr (Or.inr p1), p2, p3⟩
      · rcases vins_mem.mp hp with rfl | hp
        · omega
        · exact a1.2 p hp e
theorem VJ.ren (hj : VJ lim V) (hc : Ico V t np) (hs : ∃ q ∈ V.2.1, q.2.2.1 = t ∧ q.2.2.2 = 1000) : VJ lim (vps V (vren t 1000 np V.2.1)) := by
  have hnp := hc.2.2.1
  have hmap : ∀ p, (if vkey t 1000 p then (p.1, p.2.1, p.2.2.1, np) else p).1 = p.1 ∧ (if vkey t 1000 p then (p.1, p.2.1, p.2.2.1, np) else p).2.1 = p.2.1 ∧ (if vkey t 1000 p then (p.1, p.2.1, p.2.2.1, np) else p).2.2.1 = p.2.2.1 := fun p => by split <;> exact ⟨rfl, rfl, rfl⟩
  refine hj.ps ⟨?_, fun q hq => ?_⟩ ?_ (fun t' ht' h0 np' a1 a2 => ?_)
  · unfold vren
    rw [List.pairwise_map]
    refine hj.2.1.1.imp (fun {a b} h => ?_)
    rw [(hmap a).1, (hmap a).2.1, (hmap b).1]
    exact h
  · obtain ⟨p, p1, rfl⟩ := List.mem_map.mp hq
    have := hj.2.1.2 p p1
    rw [(hmap p).1, (hmap p).2.1, (hmap p).2.2]
    refine ⟨this.1, this.2.1, this.2.2.1, ?_⟩
    split
    · show np < 4294967296; omega
    · exact this.2.2.2
  · unfold vren
    rw [List.pairwise_map]
    refine List.Pairwise.imp_of_mem (fun {a b} ha hb h e => ?_) hj.2.2.1
    rw [(hmap a).2.2, (hmap b).2.2] at e
    by_cases ca : vkey t 1000 a = true
    · by_cases cb : vkey t 1000 b = true
      · have ca : a.2.2.1 = t ∧ a.2.2.2 = 1000 := by simpa [vkey] using ca
        have cb : b.2.2.1 = t ∧ b.2.2.2 = 1000 := by simpa [vkey] using cb
        exact h ⟨e.1, by omega⟩
      · rw [if_pos ca, if_neg cb] at e
        have ca : a.2.2.1 = t ∧ a.2.2.2 = 1000 := by simpa [vkey] using ca
        have e2 : np = b.2.2.2 := e.2
        rcases hc.2.2.2.1.2 b hb (by omega) with h3 | h3 <;> omega
    · by_cases cb : vkey t 1000 b = true
      · rw [if_neg ca, if_pos cb] at e
        have cb : b.2.2.1 = t ∧ b.2.2.2 = 1000 := by simpa [vkey] using cb
        have e2 : a.2.2.2 = np := e.2
        rcases hc.2.2.2.1.2 a ha (by omega) with h3 | h3 <;> omega
      · rw [if_neg ca, if_neg cb] at e
        exact h e
  · by_cases et : t' = t
    · subst et; exact ⟨np + 1, vsame_ren hc hs⟩
    · refine ⟨np', ⟨fun k hk => ?_, fun p hp e => ?_⟩, fun i hi => ⟨(a2.1 i hi).1, vat_eq (vfind_ren (fun e => et e.1))⟩⟩
      · obtain ⟨p, p1, p2, p3⟩ := a1.1 k hk
        exact ⟨p, List.mem_map.mpr ⟨p, p1, if_neg (by simp [vkey]; omega)⟩, p2, p3⟩
      · obtain ⟨p0, b1, b2⟩ := List.mem_map.mp hp
        by_cases c : vkey t 1000 p0 = true
        · rw [if_pos c] at b2
          have c : p0.2.2.1 = t ∧ p0.2.2.2 = 1000 := by simpa [vkey] using c
          subst b2
          exact absurd (e.symm.trans c.1) et
        · rw [if_neg c] at b2
          subst b2
          exact a1.2 p0 b1 e
end
end
section
section
variable {lim z t np k : Nat} {V : vV}
theorem vgs_ne {i j : Nat} (h : ¬ vgs t i) (hj : vgs t j) : i ≠ j := fun e => h (e ▸ hj)
/-- what growing leaves: its pieces and frames, its log, its scalars, room in the last piece -/
def Gout (lim : Nat) (V V2 : vV) (t np z k need : Nat) (b : Bool) : Prop := VJ lim V2 ∧ V2.2.2 = V.2.2 ∧ (∀ q ∈ V2.2.1, z ≤ q.2.1) ∧ (∃ k', k' ≤ k + 2 ∧ V2.1 2067 = nI k') ∧ (∀ i, ¬ vgs t i → V2.1 i = V.1 i) ∧ ∃ np2, Icn V2 t np2 ∧ (b = true → vud V.1 (V.2.2.2 t) (np2 - 1) (V.2.2.1 t) + need ≤ vln V2.2.1 t (np2 - 1) ∧ (V.1 (3933 + t) = 1 → vud V.1 (V.2.2.2 t) (np2 - 1) (V.2.2.1 t) = 0))
theorem vspl_inv {need : Nat} (hP : Vpre lim V t np z) (hn : 1 ≤ need) (hk : V.1 2067 = nI k) (hm : V.1 (3933 + t) = 1) : Gout lim V (vspl lim V t need).2 t np z k need (vspl lim V t need).1 ∧ ∀ k', V.1 2067 = nI k' → ∃ k2, k2 ≤ k' + 1 ∧ (vspl lim V t need).2.1 2067 = nI k2 := by
  obtain ⟨hj, hc, ht, hz, h8, hzl, hl, hl2, hq⟩ := hP
  have hz' : (V.1 2048).toInt.toNat = z := by rw [hz, nI_int (by omega)]; rfl
  have hnp := vnp_of hc.2.1 hc.2.2.1.2
  cases e : vgap lim 0 V.2.1 (max need z) with
  | none =>
    rw [vspl_none hz' e]
    exact ⟨⟨hj, rfl, hq, ⟨k, by omega, hk⟩, fun _ _ => rfl, np, hc.n', fun h => by cases h⟩, fun k' hk' => ⟨k', by omega, hk'⟩⟩
  | some a =>
    rw [vspl_some hz' hnp e]
    obtain ⟨g1, g2⟩ := vgap0 hj.2.1 e
    have j1 := VJ.ins (q := (a, max need z, t, np)) hj hc rfl ht rfl ⟨by show 1 ≤ max need z; omega, g1⟩ g2
    have s1 := vsame_ins (V := V) (q := (a, max need z, t, np)) hc rfl rfl (by have := hc.2.2.1; omega)
    have hz2 : ∀ p ∈ vins (a, max need z, t, np) V.2.1, z ≤ p.2.1 := fun p hp => by
      rcases vins_mem.mp hp with rfl | hp
      · show z ≤ max need z; omega
      · exact hq p hp
    have hn256 := Itp.n256 s1.1 j1.2.1 hz2 h8 hl2
    have hV : ∀ i, ¬ vgs t i → (vinc (vlg1 (vcn (vinc (vps V (vins (a, max need z, t, np) V.2.1)) (4024 + t)) 6 1)) (4066 + t)).1 i = V.1 i := fun i hi => by
      rw [vinc_ne (vgs_ne hi (by unfold vgs; omega)), vlg1_ne (vgs_ne hi (by unfold vgs; omega)), vcn_ne (vgs_ne hi (by unfold vgs; omega)), vinc_ne (vgs_ne hi (by unfold vgs; omega))]
      rfl
    have hlog : (vinc (vlg1 (vcn (vinc (vps V (vins (a, max need z, t, np) V.2.1)) (4024 + t)) 6 1)) (4066 + t)).1 2067 = V.1 2067 + 1 := by
      rw [vinc_ne (by omega), vlg1_at, vcn_ne (by omega), vinc_ne (by omega)]
      rfl
    have ng : ∀ c, 3926 ≤ c → c ≤ 4066 → c ≠ 3982 → c ≠ 4010 → c ≠ 4017 → c ≠ 4024 → c ≠ 4038 → c ≠ 4066 → (c - 3926) % 7 = 0 → ¬ vgs t (c + t) := fun c _ _ _ _ _ _ _ _ _ h => by unfold vgs at h; omega
    refine ⟨⟨?_, rfl, hz2, ⟨k + 1, by omega, by rw [hlog, hk, nI_1]⟩, hV, np + 1, ?_, fun _ => ?_⟩, fun k' hk' => ⟨k' + 1, by omega, by rw [hlog, hk', nI_1]⟩⟩
    · exact VJ.vs (VJ.vs (VJ.vs (VJ.vs j1 (by omega)) (by omega)) (by omega)) (by omega)
    · refine hc.n'.ps (V' := vinc (vlg1 (vcn (vinc (vps V (vins (a, max need z, t, np) V.2.1)) (4024 + t)) 6 1)) (4066 + t)) ?_ hj.1 rfl s1 (hV _ (ng 3954 (by omega) (by omega) (by omega) (by omega) (by omega) (by omega) (by omega) (by omega) (by omega))) ?_ ⟨by omega, hn256⟩ (Or.inr ((hV _ (ng 3933 (by omega) (by omega) (by omega) (by omega) (by omega) (by omega) (by omega) (by omega) (by omega))).trans hm)) (hV _ (ng 3961 (by omega) (by omega) (by omega) (by omega) (by omega) (by omega) (by omega) (by omega) (by omega))) ?_ (hV _ (ng 3975 (by omega) (by omega) (by omega) (by omega) (by omega) (by omega) (by omega) (by omega) (by omega))) (fun h0 => by have := (hc.2.2.2.2.2.2.2 h0).1; omega) (fun h0 => by have := (hc.2.2.2.2.2.2.1 h0).2.1; have := hc.2.2.1; omega)
      · intro i hi
        exact hV i (fun h => by unfold vgs at h; omega)
      · rw [vinc_at, vlg1_ne (by omega), vcn_ne (by omega), vinc_ne (by omega)]
        show V.1 (4066 + t) + 1 = _
        rw [hc.2.1, nI_1]
      · rw [vinc_ne (by omega), vlg1_ne (by omega), vcn_ne (by omega), vinc_ne (by omega)]
        rfl
    · show vud V.1 (V.2.2.2 t) (np + 1 - 1) (V.2.2.1 t) + need ≤ vln (vins (a, max need z, t, np) V.2.1) t (np + 1 - 1) ∧ _
      refine ⟨?_, fun _ => by rw [Nat.add_sub_cancel]; exact vud_zero (fun j hj2 => by have := ((hc.2.2.2.2.2.2.1 (by omega)).1.1 j hj2).1; omega)⟩
      rw [Nat.add_sub_cancel, vud_zero (fun j hj2 => by have := ((hc.2.2.2.2.2.2.1 (by omega)).1.1 j hj2).1; omega)]
      unfold vln
      rw [vfind_ins_eq (by simp [vkey]) (fun p hp => by
        simp only [vkey, decide_eq_false_iff_not]
        rintro ⟨e1, e2⟩
        rcases hc.2.2.2.1.2 p hp e1 with h | h <;> (have := hc.2.2.1; omega))]
      show 0 + need ≤ max need z
      omega
theorem vgr_inv {need : Nat} (hP : Vpre lim V t np z) (hn : 1 ≤ need ∧ need ≤ 100) (hk : V.1 2067 = nI k) (hnc : ∀ i, i < V.2.2.1 t → ¬ vcv (V.2.2.2 t i)) : Gout lim V (vgr lim V t need).2 t np z k need (vgr lim V t need).1 := by
  have hP0 := hP
  obtain ⟨hj, hc, ht, hz, h8, hzl, hl, hl2, hq⟩ := hP
  have hN := hc.n hj hl
  have hus := hc.2.2.2.2.2.1
  have huse := vuse_of hus (by omega)
  rcases hc.2.2.2.2.1 with ⟨m0, m1, m2⟩ | m0
  · subst m1
    obtain ⟨q, q1, q2, q3, q4, q5, -⟩ := vget (hc.2.2.2.1.1 0 (by omega))
    have hq8 := hq q q1
    have hqo := hj.2.1.2 q q1
    have hge := vdbl_ge (e := vus V.1 (V.2.2.2 t) (V.2.2.1 t) + need) (m := 16) (n := 2 * q.2.1) (by show _ ≤ 2 * q.2.1 * 65536; omega) (by omega)
    have hwd : vdbl (vuse V t + need) 16 (2 * vln V.2.1 t 0) = vdbl (vus V.1 (V.2.2.2 t) (V.2.2.1 t) + need) 16 (2 * q.2.1) := by rw [huse, q5]
    generalize hW : vdbl (vus V.1 (V.2.2.2 t) (V.2.2.1 t) + need) 16 (2 * q.2.1) = W at hge hwd
    cases e : vgap lim 0 V.2.1 W with
    | none =>
      rw [vgr_c0 m0 (by rw [hwd]; exact e)]
      exact ⟨hj, rfl, hq, ⟨k, by omega, hk⟩, fun _ _ => rfl, 1, hc.n', fun h => by cases h⟩
    | some g =>
      rw [vgr_c1 m0 (by rw [hwd]; exact e), hwd]
      obtain ⟨v1, v2, v3, v4⟩ := vmv_inv (g := g) (words := W) hP0 (vgap0 hj.2.1 e) (by omega) (by omega) (fun i hi hcv => absurd hcv (hnc i hi)) m0
      refine ⟨?_, rfl, v3, ⟨k + 1, by omega, ?_⟩, fun i hi => ?_, 1, ?_, fun _ => ?_⟩
      · exact VJ.vs (VJ.vs (VJ.vs v1 (by omega)) (by omega)) (by omega)
      · rw [vlg1_at, vcn_ne (by omega), vinc_ne (by omega), vmv_1, mj_upd_ne (by omega), mj_upd_ne (by omega), mj_upd_ne (by omega), hk, nI_1]
      · rw [vlg1_ne (vgs_ne hi (by unfold vgs; omega)), vcn_ne (vgs_ne hi (by unfold vgs; omega)), vinc_ne (vgs_ne hi (by unfold vgs; omega)), vmv_1, mj_upd_ne (vgs_ne hi (by unfold vgs; omega)), mj_upd_ne (vgs_ne hi (by unfold vgs; omega)), mj_upd_ne (vgs_ne hi (by unfold vgs; omega))]
      · exact icn_vs (icn_vs (icn_vs v2.n' v1.1 (by omega) (by omega)) (VJ.vs v1 (by omega)).1 (by omega) (by omega)) (VJ.vs (VJ.vs v1 (by omega)) (by omega)).1 (by omega) (by omega)
      · show vud V.1 (V.2.2.2 t) (1 - 1) (V.2.2.1 t) + need ≤ vln (vmv V t g W).2.1 t (1 - 1) ∧ _
        refine ⟨?_, fun h => by rw [m0] at h; exact absurd h (by decide)⟩
        rw [(vmv_at hj).2.1]
        show vud V.1 (V.2.2.2 t) 0 (V.2.2.1 t) + need ≤ W
        rw [v4]
        omega
  · cases e : V.2.1.find? (vkey t 1000) with
    | none =>
      rw [vgr_l0 m0 e]
      exact (vspl_inv hP0 hn.1 hk m0).1
    | some q =>
      have hqm := List.mem_of_find?_eq_some e
      have hqk : q.2.2.1 = t ∧ q.2.2.2 = 1000 := by simpa [vkey] using List.find?_some e
      have hnp := vnp_of hc.2.1 hc.2.2.1.2
      by_cases c : need ≤ q.2.1
      · rw [vgr_l1 m0 e hnp c]
        have hsx : ∃ q ∈ V.2.1, q.2.2.1 = t ∧ q.2.2.2 = 1000 := ⟨q, hqm, hqk⟩
        have j1 := VJ.ren hj hc hsx
        have s1 := vsame_ren hc hsx
        have hz2 : ∀ p ∈ vren t 1000 np V.2.1, z ≤ p.2.1 := fun p hp => by
          obtain ⟨p0, b1, rfl⟩ := List.mem_map.mp hp
          split <;> exact hq p0 b1
        have hn256 := Itp.n256 s1.1 j1.2.1 hz2 h8 hl2
        have hV : ∀ i, ¬ vgs t i → (vinc (vlg1 (vcn (vinc (vps V (vren t 1000 np V.2.1)) (4038 + t)) 8 1)) (4066 + t)).1 i = V.1 i := fun i hi => by
          rw [vinc_ne (vgs_ne hi (by unfold vgs; omega)), vlg1_ne (vgs_ne hi (by unfold vgs; omega)), vcn_ne (vgs_ne hi (by unfold vgs; omega)), vinc_ne (vgs_ne hi (by unfold vgs; omega))]
          rfl
        have ng : ∀ c, 3926 ≤ c → c ≤ 4066 → c ≠ 3982 → c ≠ 4010 → c ≠ 4017 → c ≠ 4024 → c ≠ 4038 → c ≠ 4066 → (c - 3926) % 7 = 0 → ¬ vgs t (c + t) := fun c _ _ _ _ _ _ _ _ _ h => by unfold vgs at h; omega
        refine ⟨?_, rfl, hz2, ⟨k + 1, by omega, ?_⟩, hV, np + 1, ?_, fun _ => ?_⟩
        · exact VJ.vs (VJ.vs (VJ.vs (VJ.vs j1 (by omega)) (by omega)) (by omega)) (by omega)
        · rw [vinc_ne (by omega), vlg1_at, vcn_ne (by omega), vinc_ne (by omega)]
          show V.1 2067 + 1 = _
          rw [hk, nI_1]
        · refine hc.n'.ps (V' := vinc (vlg1 (vcn (vinc (vps V (vren t 1000 np V.2.1)) (4038 + t)) 8 1)) (4066 + t)) ?_ hj.1 rfl s1 (hV _ (ng 3954 (by omega) (by omega) (by omega) (by omega) (by omega) (by omega) (by omega) (by omega) (by omega))) ?_ ⟨by omega, hn256⟩ (Or.inr ((hV _ (ng 3933 (by omega) (by omega) (by omega) (by omega) (by omega) (by omega) (by omega) (by omega) (by omega))).trans m0)) (hV _ (ng 3961 (by omega) (by omega) (by omega) (by omega) (by omega) (by omega) (by omega) (by omega) (by omega))) ?_ (hV _ (ng 3975 (by omega) (by omega) (by omega) (by omega) (by omega) (by omega) (by omega) (by omega) (by omega))) (fun h0 => by have := (hc.2.2.2.2.2.2.2 h0).1; omega) (fun h0 => by have := (hc.2.2.2.2.2.2.1 h0).2.1; have := hc.2.2.1; omega)
          · intro i hi
            exact hV i (fun h => by unfold vgs at h; omega)
          · rw [vinc_at, vlg1_ne (by omega), vcn_ne (by omega), vinc_ne (by omega)]
            show V.1 (4066 + t) + 1 = _
            rw [hc.2.1, nI_1]
          · rw [vinc_ne (by omega), vlg1_ne (by omega), vcn_ne (by omega), vinc_ne (by omega)]
            rfl
        · show vud V.1 (V.2.2.2 t) (np + 1 - 1) (V.2.2.1 t) + need ≤ vln (vren t 1000 np V.2.1) t (np + 1 - 1) ∧ _
          refine ⟨?_, fun _ => by rw [Nat.add_sub_cancel]; exact vud_zero (fun j hj2 => by have := ((hc.2.2.2.2.2.2.1 (by omega)).1.1 j hj2).1; omega)⟩
          rw [Nat.add_sub_cancel, vud_zero (fun j hj2 => by have := ((hc.2.2.2.2.2.2.1 (by omega)).1.1 j hj2).1; omega)]
          obtain ⟨p, p1, p2, p3, p4, p5, p6⟩ := vget (s1.1.1 np (by omega))
          rw [p5]
          obtain ⟨p0, b1, b2⟩ := List.mem_map.mp p1
          by_cases cc : vkey t 1000 p0 = true
          · rw [if_pos cc] at b2
            have cc : p0.2.2.1 = t ∧ p0.2.2.2 = 1000 := by simpa [vkey] using cc
            have hpq : p0 = q := vuniq hj.2.2.1 p0 b1 q hqm (by omega) (by omega)
            subst b2
            subst hpq
            show 0 + need ≤ p0.2.1
            omega
          · rw [if_neg cc] at b2
            subst b2
            rcases hc.2.2.2.1.2 p0 b1 p2 with h | h <;> (have := hc.2.2.1; omega)
      · rw [vgr_l2 m0 e c]
        obtain ⟨j1, j2⟩ := vsp_J hj hc ht
        have hv : vsp V t = vps (vlg1 V) (V.2.1.filter (fun q => !vkey t 1000 q)) := by unfold vsp; rw [if_pos (by rw [e]; rfl)]
        have hP1 : Vpre lim (vsp V t) t np z := ⟨j1, j2, ht, by rw [hv]; exact (vlg1_ne (by omega)).trans hz, h8, hzl, hl, hl2, fun p hp => by rw [hv] at hp; exact hq p (List.mem_filter.mp hp).1⟩
        have hk1 : (vsp V t).1 2067 = nI (k + 1) := by
          rw [hv]
          show (vlg1 V).1 2067 = _
          rw [vlg1_at, hk, nI_1]
        obtain ⟨⟨a1, a2, a3, -, a5, np2, a6, a7⟩, b⟩ := vspl_inv (need := need) hP1 hn.1 hk1 (by rw [hv]; exact (vlg1_ne (by omega)).trans m0)
        obtain ⟨k2, k3, k4⟩ := b (k + 1) hk1
        have e22 : (vsp V t).2.2 = V.2.2 := by rw [hv]; rfl
        have ew : vpe V.1 (vsp V t).1 := by rw [hv]; exact vpe.upd (by omega)
        refine ⟨a1, a2.trans e22, a3, ⟨k2, by omega, k4⟩, fun i hi => ?_, np2, a6, fun hb => ?_⟩
        · rw [a5 i hi, hv]
          exact vlg1_ne (vgs_ne hi (by unfold vgs; omega))
        · have := a7 hb
          rw [show (vsp V t).2.2.1 = V.2.2.1 by rw [e22], show (vsp V t).2.2.2 = V.2.2.2 by rw [e22], (ew.us (fun i hi => (hj.fit ht hi).1)).2, show (vsp V t).1 (3933 + t) = V.1 (3933 + t) by rw [hv]; exact vlg1_ne (by omega)] at this
          exact this
end
end
section
/-! ===== the reference: room for a call ===== -/
theorem Icn.one {V : vV} {t : Nat} (h : Icn V t 1) : Ico V t 1 := by
  obtain ⟨c1, c2, c3, c4, c5, c6, c7, c8⟩ := h
  exact ⟨c1, c2, c3, c4, c5, c6, fun h0 => by
    obtain ⟨d1, d2, d3⟩ := c7 h0
    exact ⟨d1, by omega, d3⟩, fun h0 => ⟨rfl, (c8 h0).2⟩⟩
section
variable {s : wt_S} {V : vV} {t np z k : Nat}
theorem q_lastPiece' (h : RS s V) (hj : VJ 2048 V) (hc : Icn V t np) (ht : t < 6) : ∃ x q, gX11_lastPiece s (nI t) = some (nI x, s) ∧ V.2.1[x]? = some q ∧ x < 256 ∧ vat V.2.1 t (np - 1) = q.1 ∧ vln V.2.1 t (np - 1) = q.2.1 ∧ q ∈ V.2.1 := by
  obtain ⟨x, q, e1, e2, e3, e4, e5, e6, e7, e8⟩ := vfi_some (hc.2.2.2.1.1 (np - 1) (by have := hc.2.2.1; omega))
  refine ⟨x, q, ?_, e2, by have := h.2.2.1.2.1; omega, e7, e8, e4⟩
  unfold gX11_lastPiece
  have hnp := hc.2.2.1
  rw [li_add, ix_nI (by omega) (by omega), h.tk (c := 4066) (by omega) ht, hc.2.1, li_sub (by omega), q_pieceOf h.2.2.1 hj.2.1 ht (by omega), cl_some, e1]
  rfl
/-- where the next frame comes -/
def vnx (V : vV) (t : Nat) : Nat := vat V.2.1 t (vnp V t - 1) + vud V.1 (V.2.2.2 t) (vnp V t - 1) (V.2.2.1 t)
theorem Vpre.vs {lim : Nat} {i : Nat} {v : Int32} (hP : Vpre lim V t np z) (h1 : (i < 2228 ∨ 2898 ≤ i) ∧ i ≠ 2050 ∧ i ≠ 2051 ∧ i ≠ 2048) (h : i ≠ 3954 + t ∧ i ≠ 4066 + t ∧ i ≠ 3933 + t ∧ i ≠ 3961 + t ∧ i ≠ 3982 + t ∧ i ≠ 3975 + t) : Vpre lim (mj_upd V.1 i v, V.2) t np z :=
  ⟨VJ.vs (i := i) (v := v) hP.1 (by omega), ico_vs (i := i) (v := v) hP.2.1 hP.1.1 (by omega) h, hP.2.2.1, (mj_upd_ne (by omega)).trans hP.2.2.2.1, hP.2.2.2.2.1, hP.2.2.2.2.2.1, hP.2.2.2.2.2.2.1, hP.2.2.2.2.2.2.2.1, hP.2.2.2.2.2.2.2.2⟩
theorem q_roomFor {f z2 : Nat} (h : RS s V) (hP : Vpre 2048 V t np z) (hf : f < 10) (hr : V.1 2051 = nI z2) (hz2 : z2 ≤ 80) (hk : V.1 2067 = nI k) (hk2 : k < 2147483300) (hs : V.1 (3989 + t) = -1 ∨ ∃ k, k < 3 ∧ V.1 (3989 + t) = nI k) (hnc : ∀ i, i < V.2.2.1 t → ¬ vcv (V.2.2.2 t i)) :
    ∃ s', gX11_roomFor s (nI t) (nI f) = some (if (vrm 2048 V t f).1 then nI (vnx (vrm 2048 V t f).2 t) else -1, s') ∧ RS s' (vrm 2048 V t f).2 ∧ RF s s' := by
  obtain ⟨hj, hc, ht, hz, h8, hzl, hl, hl2, hq⟩ := hP
  have hnd := q_need h hj.1 hf hr hz2
  have hsz := hj.1.sz hf
  have a1 := q_inc (i := 4003 + t) h (vtt (by omega) ht) (Or.inr (by omega))
  obtain ⟨b1, b2⟩ := q_cnt (c := 3) (v := 1) a1 (by omega)
  have hP1 : Vpre 2048 (vcn (vinc V (4003 + t)) 3 1) t np z := Vpre.vs (V := vinc V (4003 + t)) (Vpre.vs ⟨hj, hc, ht, hz, h8, hzl, hl, hl2, hq⟩ (by omega) (by omega)) (by omega) (by omega)
  have hw1 : vpe V.1 (vcn (vinc V (4003 + t)) 3 1).1 := (vpe.upd (by omega)).trans (vpe.upd (by omega))
  obtain ⟨x, q, l1, l2, l3, l4, l5, l6⟩ := q_lastPiece' b2 hP1.1 hP1.2.1.n' ht
  have hqo := hj.2.1.2 q l6
  have hnp := vnp_of hc.2.1 hc.2.2.1.2
  obtain ⟨r1, r2, -, -⟩ := b2.2.2.1.2.2 x q l2
  have htop := hc.top
  have hud : vud V.1 (V.2.2.2 t) (np - 1) (V.2.2.1 t) ≤ q.2.1 := by
    by_cases c : V.2.2.1 t = 0
    · rw [c, vud]; omega
    · obtain ⟨g, p, -⟩ := hc.2.2.2.2.2.2.1 (by omega)
      have h1 := g.ud (V.2.2.1 t - 1) (by omega)
      have h2 := (g.1 (V.2.2.1 t - 1) (by omega)).2
      rw [p, show V.2.2.1 t - 1 + 1 = V.2.2.1 t by omega] at h1
      rw [p, show vln V.2.1 t (np - 1) = q.2.1 from l5] at h2
      omega
  have htv : vtop V t = q.1 + vud V.1 (V.2.2.2 t) (np - 1) (V.2.2.1 t) := by rw [htop, show vat V.2.1 t (np - 1) = q.1 from l4]
  have hnd1 := q_need b2 hP1.1.1 hf (z := z2) (by rw [vcn_ne (by omega), vinc_ne (by omega)]; exact hr) hz2
  rw [(hw1.mg hj.1 hf).2] at hnd1
  have hvend : vend V t = q.1 + q.2.1 := by unfold vend; rw [hnp, show vat V.2.1 t (np - 1) = q.1 from l4, show vln V.2.1 t (np - 1) = q.2.1 from l5]
  have hF1 : RF s (wt_u (wt_u s 111 (4003 + t) (s 111 (4003 + t) + 1)) 111 (2054 + 3) ((vinc V (4003 + t)).1 (2054 + 3) + 1)) := RF.trans (RF.uf (Or.inl rfl)) (RF.uf (Or.inl rfl))
  unfold gX11_roomFor
  rw [q_topOf h hj rfl hc ht, cl_some, li_add, ix_nI (by omega) (by omega), ix_nI (by omega) (by omega), wr_eq, show gX11_counts (wt_u s 111 (4003 + t) (s 111 (4003 + t) + 1)) 3 1 = _ from b1, cl_some, if_pos b2.1, l1, cl_some, li_add, ix_nI (by omega) (by omega), li_add, ix_nI (by omega) (by omega), hnd1.1, cl_some, r1, r2, nI_add, htv, nI_sub (by omega), nI_int (by omega), nI_int (by omega)]
  unfold vrm
  rw [htv, hvend]
  by_cases c : q.1 + vud V.1 (V.2.2.2 t) (np - 1) (V.2.2.1 t) + vnd V.1 f ≤ q.1 + q.2.1
  · rw [if_neg (by omega)]
    simp only [if_pos c]
    refine ⟨_, ?_, b2, hF1⟩
    unfold vnx
    have : vnp (vcn (vinc V (4003 + t)) 3 1) t = np := vnp_of hP1.2.1.2.1 hc.2.2.1.2
    rw [this, if_pos trivial]
    show _ = some (nI (vat V.2.1 t (np - 1) + vud (vcn (vinc V (4003 + t)) 3 1).1 (V.2.2.2 t) (np - 1) (V.2.2.1 t)), _)
    rw [(hw1.us (fun i hi => (hj.fit ht hi).1)).2, show vat V.2.1 t (np - 1) = q.1 from l4]
  · rw [if_pos (by omega)]
    simp only [if_neg c]
    have hkk : (vcn (vinc V (4003 + t)) 3 1).1 2067 = nI k := by rw [vcn_ne (by omega), vinc_ne (by omega)]; exact hk
    have hG : Gpre (vcn (vinc V (4003 + t)) 3 1) t np k := ⟨hP1.1, hP1.2.1, ht, ⟨z, hP1.2.2.2.1, h8, hzl⟩, fun p hp => by have := hq p hp; omega, hkk, by omega⟩
    obtain ⟨s2, g1, g2, g3⟩ := q_grows (need := vnd V.1 f) b2 hG (by omega) ⟨by have := hnd.2.1; unfold vwd at this; omega, hnd.2.2⟩
    obtain ⟨v1, v2, v3, ⟨k', k1', k2'⟩, v5, np2, v6, v7⟩ := vgr_inv (need := vnd V.1 f) hP1 ⟨by have := hnd.2.1; unfold vwd at this; omega, hnd.2.2⟩ hkk hnc
    rw [hnd1.1, cl_some, g1, cl_some, if_rbn]
    generalize hres : vgr 2048 (vcn (vinc V (4003 + t)) 3 1) t (vnd V.1 f) = res at *
    obtain ⟨bb, V2⟩ := res
    have e22 : V2.2.2 = V.2.2 := v2
    have hmode : V2.1 (3933 + t) = V.1 (3933 + t) := by
      have : V2.1 (3933 + t) = (vcn (vinc V (4003 + t)) 3 1).1 (3933 + t) := v5 _ (fun h => by unfold vgs at h; omega)
      rw [this, vcn_ne (by omega), vinc_ne (by omega)]
    have hF2 := RF.trans hF1 g3
    cases bb with
    | true =>
      have hroom := v7 rfl
      have hnp2 := vnp_of v6.2.1 v6.2.2.1.2
      have hw2 : vpe V.1 V2.1 := hw1.trans (fun i hi => v5 i (fun h => by unfold vgs at h; omega))
      have hvud : vud V2.1 (V2.2.2.2 t) (np2 - 1) (V2.2.2.1 t) = vud V.1 (V.2.2.2 t) (np2 - 1) (V.2.2.1 t) := by
        rw [show V2.2.2.2 = V.2.2.2 by rw [e22], show V2.2.2.1 = V.2.2.1 by rw [e22]]
        exact (hw2.us (fun i hi => (hj.fit ht hi).1)).2
      have hvud1 : vud (vcn (vinc V (4003 + t)) 3 1).1 (V.2.2.2 t) (np2 - 1) (V.2.2.1 t) = vud V.1 (V.2.2.2 t) (np2 - 1) (V.2.2.1 t) := (hw1.us (fun i hi => (hj.fit ht hi).1)).2
      refine ⟨s2, ?_, g2, hF2⟩
      show (if true = true then _ else _) = some (nI (vnx V2 t), s2)
      rw [if_pos rfl, li_add, ix_nI (by omega) (by omega), g2.tk (c := 3933) (by omega) ht]
      unfold vnx
      rw [hnp2, hvud]
      rcases v6.2.2.2.2.1 with ⟨m0, m1, -⟩ | m0
      · subst m1
        rw [if_neg (by rw [m0]; simp), q_topOf g2 v1 rfl v6.one ht, cl_some, v6.one.top, hvud]
      · obtain ⟨y, p, y1, y2, y3, y4, y5, y6⟩ := q_lastPiece' g2 v1 v6 ht
        have hv0 := hroom.2 (by rw [vcn_ne (by omega), vinc_ne (by omega), ← hmode]; exact m0)
        have hv0 : vud (vcn (vinc V (4003 + t)) 3 1).1 (V.2.2.2 t) (np2 - 1) (V.2.2.1 t) = 0 := hv0
        rw [if_pos (by rw [m0]; decide), y1, cl_some, li_add, ix_nI (by omega) (by omega), (g2.2.2.1.2.2 y p y2).1, ← hvud1, hv0, y4, Nat.add_zero]
    | false =>
      have hs2 : V2.1 (3989 + t) = -1 ∨ ∃ k, k < 3 ∧ V2.1 (3989 + t) = nI k := by
        have : V2.1 (3989 + t) = (vcn (vinc V (4003 + t)) 3 1).1 (3989 + t) := v5 _ (fun h => by unfold vgs at h; omega)
        rw [this, vcn_ne (by omega), vinc_ne (by omega)]
        exact hs
      obtain ⟨s3, o1, o2, o3⟩ := q_out g2 v1 rfl ht hs2 k2' (by omega)
      refine ⟨s3, ?_, o2, RF.trans hF2 o3⟩
      show (if false = true then _ else _) = some (-1, s3)
      rw [if_neg (by simp), o1, cl_some]
end
end
