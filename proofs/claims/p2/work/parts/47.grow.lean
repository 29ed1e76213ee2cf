/-! ===== the reference makes room ===== -/
/-- a piece has another number -/
def vren (t n n' : Nat) (ps : List vP) : List vP := ps.map (fun p => if vkey t n p then (p.1, p.2.1, p.2.2.1, n') else p)
theorem vfind_ren {t n n' t' k : Nat} (h : ¬ (t' = t ∧ (k = n ∨ k = n'))) : ∀ {ps : List vP}, (vren t n n' ps).find? (vkey t' k) = ps.find? (vkey t' k) := by
  intro ps
  induction ps with
  | nil => rfl
  | cons q ps ih =>
    show ((if vkey t n q then (q.1, q.2.1, q.2.2.1, n') else q) :: vren t n n' ps).find? (vkey t' k) = _
    by_cases c : vkey t n q = true
    · have hq : q.2.2.1 = t ∧ q.2.2.2 = n := by simpa [vkey] using c
      rw [if_pos c, List.find?_cons_of_neg (by simp [vkey]; omega), List.find?_cons_of_neg (by simp [vkey]; omega), ih]
    · rw [if_neg c]
      by_cases c2 : vkey t' k q = true
      · rw [List.find?_cons_of_pos c2, List.find?_cons_of_pos c2]
      · rw [List.find?_cons_of_neg c2, List.find?_cons_of_neg c2, ih]
theorem vr_ren {w : Nat → Int32} {ps : List vP} {t n n' x : Nat} (h : vr_P w ps) (hu : ps.Pairwise (fun p q => ¬ (p.2.2.1 = q.2.2.1 ∧ p.2.2.2 = q.2.2.2))) (hx : vfi (vkey t n) ps 0 = some x) : vr_P (mj_upd w (3667 + x) (nI n')) (vren t n n' ps) := by
  obtain ⟨h1, h2, h3⟩ := h
  obtain ⟨q, -, hq, hk⟩ := vfi_spec hx
  rw [Nat.sub_zero] at hq
  have hxl := (List.getElem?_eq_some_iff.mp hq).1
  have hk : q.2.2.1 = t ∧ q.2.2.2 = n := by simpa [vkey] using hk
  refine ⟨by rw [mj_upd_ne (by omega)]; unfold vren; rw [List.length_map]; exact h1, by unfold vren; rw [List.length_map]; exact h2, fun y p hp => ?_⟩
  unfold vren at hp
  rw [List.getElem?_map] at hp
  obtain ⟨p0, p1, p2⟩ := Option.map_eq_some_iff.mp hp
  have hyl := (List.getElem?_eq_some_iff.mp p1).1
  obtain ⟨r1, r2, r3, r4⟩ := h3 y p0 p1
  by_cases e : y = x
  · subst e
    rw [hq] at p1
    cases p1
    rw [if_pos (by simp [vkey, hk])] at p2
    subst p2
    refine ⟨by rw [mj_upd_ne (by omega)]; exact r1, by rw [mj_upd_ne (by omega)]; exact r2, by rw [mj_upd_ne (by omega)]; exact r3, by rw [mj_upd_self]⟩
  · have hne : ¬ vkey t n p0 = true := fun c => by
      have c : p0.2.2.1 = t ∧ p0.2.2.2 = n := by simpa [vkey] using c
      have hpw := List.pairwise_iff_getElem.mp hu
      rw [List.getElem?_eq_getElem hyl] at p1
      rw [List.getElem?_eq_getElem hxl] at hq
      have e1 := Option.some.inj p1
      have e2 := Option.some.inj hq
      rcases Nat.lt_or_gt_of_ne e with hlt | hgt
      · exact hpw y x hyl hxl hlt ⟨by rw [e1, e2, c.1, hk.1], by rw [e1, e2, c.2, hk.2]⟩
      · exact hpw x y hxl hyl hgt ⟨by rw [e1, e2, c.1, hk.1], by rw [e1, e2, c.2, hk.2]⟩
    rw [if_neg hne] at p2
    subst p2
    refine ⟨by rw [mj_upd_ne (by omega)]; exact r1, by rw [mj_upd_ne (by omega)]; exact r2, by rw [mj_upd_ne (by omega)]; exact r3, by rw [mj_upd_ne (by omega)]; exact r4⟩
theorem VM.ren {lim : Nat} {V : vV} {mm : Nat → Int32} {t n n' : Nat} (hI : VJ lim V) (h : VM mm V) (h1 : vnof V t n) (h2 : vnof V t n') : VM mm (vps V (vren t n n' V.2.1)) :=
  h.ps hI (fun _ _ _ => rfl) (fun t' ht' => ⟨Nat.le_refl _, fun i hi => ⟨rfl, (vat_eq (vfind_ren (fun e => by
    obtain ⟨rfl, e | e⟩ := e
    · exact h1 i hi e
    · exact h2 i hi e))).1⟩⟩)
theorem VM.ins {lim : Nat} {V : vV} {mm : Nat → Int32} {q : vP} (hI : VJ lim V) (h : VM mm V) (h1 : vnof V q.2.2.1 q.2.2.2) : VM mm (vps V (vins q V.2.1)) :=
  h.ps hI (fun _ _ _ => rfl) (fun t' ht' => ⟨Nat.le_refl _, fun i hi => ⟨rfl, (vat_eq (vfind_ins_ne (by
    simp only [vkey, decide_eq_false_iff_not]
    rintro ⟨e1, e2⟩
    subst e1
    exact h1 i hi e2.symm))).1⟩⟩)
theorem vdbl_ge {e : Nat} : ∀ {m n : Nat}, e ≤ n * 2 ^ m → 1 ≤ n → e ≤ vdbl e m n ∧ vdbl e m n ≤ max n (2 * e) ∧ n ≤ vdbl e m n := by
  intro m
  induction m with
  | zero => intro n h hn; unfold vdbl; rw [Nat.pow_zero, Nat.mul_one] at h; omega
  | succ m ih =>
    intro n h hn
    unfold vdbl
    split
    · have := ih (n := n * 2) (by rw [Nat.mul_assoc, ← Nat.pow_succ']; exact h) (by omega)
      omega
    · omega
theorem vdbl_add {e : Nat} : ∀ {m n k : Nat}, e ≤ vdbl e m n → vdbl e (m + k) n = vdbl e m n := by
  intro m
  induction m with
  | zero =>
    intro n k h
    unfold vdbl at h
    cases k with
    | zero => rfl
    | succ k =>
      show vdbl e (0 + (k + 1)) n = n
      rw [Nat.zero_add]
      unfold vdbl
      rw [if_neg (by omega)]
  | succ m ih =>
    intro n k h
    rw [vdbl] at h
    rw [show m + 1 + k = (m + k) + 1 by omega, vdbl, vdbl]
    split
    · rename_i c
      rw [if_pos c] at h
      exact ih h
    · rfl
theorem q_grows_36 {s : wt_S} {t need u : Nat} (ht : t < 7) (hu : s 111 (3961 + t) = nI u) (hb : u + need < 100000) : ∀ (m n fu : Nat), u + need ≤ n * 2 ^ m → 1 ≤ n → n < 1000000 → m < fu → ∃ fu', gX11_grows_36 fu s (nI t) (nI need) (nI n) = gX11_grows_36 (fu' + 1) s (nI t) (nI need) (nI (vdbl (u + need) m n)) := by
  intro m
  induction m with
  | zero =>
    intro n fu h hn hn2 hfu
    obtain ⟨fu, rfl⟩ : ∃ k, fu = k + 1 := ⟨fu - 1, by omega⟩
    exact ⟨fu, rfl⟩
  | succ m ih =>
    intro n fu h hn hn2 hfu
    obtain ⟨fu, rfl⟩ : ∃ k, fu = k + 1 := ⟨fu - 1, by omega⟩
    unfold vdbl
    by_cases c : n < u + need
    · rw [if_pos c]
      obtain ⟨fu', e⟩ := ih (n * 2) fu (by rw [Nat.mul_assoc, ← Nat.pow_succ']; exact h) (by omega) (by omega) (by omega)
      refine ⟨fu', ?_⟩
      rw [← e, gX11_grows_36, li_add, ix_nI (by omega) (by omega), hu, nI_add, nI_int (by omega), nI_int (by omega), if_neg (by omega), li_mul2]
    · rw [if_neg c]
      exact ⟨fu, rfl⟩
section
variable {lim : Nat} {V : vV} {t np z need : Nat}
theorem vspl_none (hz : (V.1 2048).toInt.toNat = z) (e : vgap lim 0 V.2.1 (max need z) = none) : vspl lim V t need = (false, V) := by
  unfold vspl
  simp only [hz, e]
theorem vspl_some {a : Nat} (hz : (V.1 2048).toInt.toNat = z) (hn : vnp V t = np) (e : vgap lim 0 V.2.1 (max need z) = some a) : vspl lim V t need = (true, vinc (vlg1 (vcn (vinc (vps V (vins (a, max need z, t, np) V.2.1)) (4024 + t)) 6 1)) (4066 + t)) := by
  unfold vspl
  simp only [hz, hn, e]
theorem vgr_c0 (m : V.1 (3933 + t) = 0) (e : vgap lim 0 V.2.1 (vdbl (vuse V t + need) 16 (2 * vln V.2.1 t 0)) = none) : vgr lim V t need = (false, V) := by
  unfold vgr
  rw [if_pos m]
  simp only [e]
theorem vgr_c1 {g : Nat} (m : V.1 (3933 + t) = 0) (e : vgap lim 0 V.2.1 (vdbl (vuse V t + need) 16 (2 * vln V.2.1 t 0)) = some g) : vgr lim V t need = (true, vlg1 (vcn (vinc (vmv V t g (vdbl (vuse V t + need) 16 (2 * vln V.2.1 t 0))) (4010 + t)) 4 1)) := by
  unfold vgr
  rw [if_pos m]
  simp only [e]
theorem vgr_l0 (m : V.1 (3933 + t) = 1) (e : V.2.1.find? (vkey t 1000) = none) : vgr lim V t need = vspl lim V t need := by
  unfold vgr
  rw [if_neg (by rw [m]; decide), e]
theorem vgr_l1 {q : vP} (m : V.1 (3933 + t) = 1) (e : V.2.1.find? (vkey t 1000) = some q) (hn : vnp V t = np) (c : need ≤ q.2.1) : vgr lim V t need = (true, vinc (vlg1 (vcn (vinc (vps V (vren t 1000 np V.2.1)) (4038 + t)) 8 1)) (4066 + t)) := by
  unfold vgr
  rw [if_neg (by rw [m]; decide), e, hn]
  simp only [if_pos c]
  rfl
theorem vgr_l2 {q : vP} (m : V.1 (3933 + t) = 1) (e : V.2.1.find? (vkey t 1000) = some q) (c : ¬ need ≤ q.2.1) : vgr lim V t need = vspl lim (vsp V t) t need := by
  unfold vgr
  rw [if_neg (by rw [m]; decide), e]
  simp only [if_neg c]
end
section
variable {s : wt_S} {V : vV} {t np : Nat}
theorem Ico.nof (hc : Ico V t np) {n : Nat} (hn : np ≤ n) : vnof V t n := fun i hi e => by
  obtain ⟨g, -⟩ := hc.2.2.2.2.2.2.1 (by omega)
  have := (g.1 i hi).1
  omega
theorem vnp_of {V : vV} {t np : Nat} (h : V.1 (4066 + t) = nI np) (hn : np ≤ 256) : vnp V t = np := by
  unfold vnp
  rw [h, nI_int (by omega)]
  rfl
theorem vuse_of {V : vV} {t u : Nat} (h : V.1 (3961 + t) = nI u) (hn : u < 1000000) : vuse V t = u := by
  unfold vuse
  rw [h, nI_int (by omega)]
  rfl
theorem q_inc {i : Nat} (h : RS s V) (hi : vtr i) (hp : i < 2228 ∨ 2248 ≤ i) : RS (wt_u s 111 i (s 111 i + 1)) (vinc V i) := by
  rw [h.2.at hi]
  exact h.u hi hp
/-- what growing wants -/
def Gpre (V : vV) (t np k : Nat) : Prop := VJ 2048 V ∧ Ico V t np ∧ t < 6 ∧ (∃ z, V.1 2048 = nI z ∧ 8 ≤ z ∧ z ≤ 2048) ∧ (∀ q ∈ V.2.1, 8 ≤ q.2.1) ∧ V.1 2067 = nI k ∧ k < 2147483500
theorem vlen256 {ps : List vP} (ho : vo 2048 ps) (h8 : ∀ q ∈ ps, 8 ≤ q.2.1) {g words : Nat} (hw : 8 ≤ words) (hg : vgap 2048 0 ps words = some g) : ps.length < 256 := by
  obtain ⟨h1, h2⟩ := vgap0 ho hg
  have ho2 : vo 2048 (vins (g, words, 0, 0) ps) := vo_ins ho ⟨by show 1 ≤ words; omega, h1, by show 0 < 6; omega, by show 0 < 4294967296; omega⟩ h2
  have := vlen (z := 8) ho2 (fun q hq => by
    rcases vins_mem.mp hq with e | hq
    · subst e; exact hw
    · exact h8 q hq)
  rw [vins_len] at this
  omega
theorem q_split {need k : Nat} (h : RS s V) (hG : Gpre V t np k) (hn : need ≤ 100) : ∃ s', (∀ z, V.1 2048 = nI z → z ≤ 2048 → gX11_grows_242 s (nI t) (nI (max need z)) = some (rb ((vspl 2048 V t need).1 = true), s')) ∧ RS s' (vspl 2048 V t need).2 ∧ RF s s' := by
  obtain ⟨hj, hc, ht, ⟨z, z1, z2, z3⟩, h8, hk, hk2⟩ := hG
  have hz : (V.1 2048).toInt.toNat = z := by rw [z1, nI_int (by omega)]; rfl
  have hnp := vnp_of hc.2.1 hc.2.2.1.2
  have hgf := q_gapFor (words := max need z) h.2.2.1 hj.2.1 (by omega)
  cases e : vgap 2048 0 V.2.1 (max need z) with
  | none =>
    rw [vspl_none hz e]
    refine ⟨s, fun z' hz' hz3 => ?_, h, RF.refl⟩
    rw [hz'] at z1
    rw [(nI_inj (by omega) (by omega)).mp z1]
    unfold gX11_grows_242
    rw [hgf, e, cl_some, oI_none, if_neg (by simp), rb_neg (by simp)]
  | some a =>
    rw [vspl_some hz hnp e]
    obtain ⟨g1, g2⟩ := vgap0 hj.2.1 e
    have hl := vlen256 hj.2.1 h8 (by omega) e
    obtain ⟨w1, a1, a2, a3⟩ := q_takes (s := s) (t := t) (a := a) (words := max need z) (number := np) h.2.2.1 hj.2.1 hl (by omega)
    have b2 : RS (wt_uf s 111 w1) (vps V (vins (a, max need z, t, np) V.2.1)) := h.uf (h.2.ps a3 a2 (fun mm hm => hm.ins hj (hc.nof (Nat.le_refl _))))
    have c2 := q_inc (i := 4024 + t) b2 (vtt (by omega) ht) (Or.inr (by omega))
    obtain ⟨d1, d2⟩ := q_cnt (c := 6) (v := 1) c2 (by omega)
    obtain ⟨s3, e1, e2, e3⟩ := q_log (a := 2) (b := nI t) (c := nI a) (d := nI (max need z)) (k := k) d2 (by rw [vcn_ne (by omega), vinc_ne (by omega)]; exact hk) (by omega)
    have f2 := q_inc (i := 4066 + t) e2 (vtt (by omega) ht) (Or.inr (by omega))
    refine ⟨_, fun z' hz' hz3 => ?_, f2, RF.trans (RF.uf (Or.inl rfl)) (RF.trans (RF.uf (Or.inl rfl)) (RF.trans (RF.uf (Or.inl rfl)) (RF.trans e3 (RF.uf (Or.inl rfl)))))⟩
    rw [hz'] at z1
    rw [(nI_inj (by omega) (by omega)).mp z1]
    unfold gX11_grows_242
    rw [hgf, e, cl_some, oI_some, if_pos (nI_m1 (by omega)), li_add, ix_nI (by omega) (by omega), h.tk (c := 4066) (by omega) ht, hc.2.1, a1, cl_some, li_add, ix_nI (by omega) (by omega), ix_nI (by omega) (by omega), wr_eq, show gX11_counts (wt_u (wt_uf s 111 w1) 111 (4024 + t) (wt_uf s 111 w1 111 (4024 + t) + 1)) 6 1 = _ from d1, cl_some, e1, cl_some]
    unfold gX11_grows_310
    rw [li_add, ix_nI (by omega) (by omega), ix_nI (by omega) (by omega), wr_eq, rb_pos rfl]
theorem q_grows {need k : Nat} (h : RS s V) (hG : Gpre V t np k) (hk3 : k < 2147483400) (hn : 1 ≤ need ∧ need ≤ 100) : ∃ s', gX11_grows s (nI t) (nI need) = some (rb ((vgr 2048 V t need).1 = true), s') ∧ RS s' (vgr 2048 V t need).2 ∧ RF s s' := by
  have hG0 := hG
  obtain ⟨hj, hc, ht, ⟨z, z1, z2, z3⟩, h8, hk, hk2⟩ := hG
  have hN := hc.n hj (by omega)
  have h0 : RS (wt_u s 110 10 1) V := h.o (by omega)
  have hF0 : RF s (wt_u s 110 10 1) := RF.uo (by omega) (by omega)
  have hnp := vnp_of hc.2.1 hc.2.2.1.2
  generalize hU : vus V.1 (V.2.2.2 t) (V.2.2.1 t) = u at hN
  have hus : V.1 (3961 + t) = nI u := by rw [hc.2.2.2.2.2.1, hU]
  have huse := vuse_of hus (by omega)
  unfold gX11_grows
  rw [wr_eq, li_add, ix_nI (by omega) (by omega), h0.tk (c := 3933) (by omega) ht]
  rcases hc.2.2.2.2.1 with ⟨m0, m1, m2⟩ | m0
  · -- copied
    subst m1
    obtain ⟨x, q, x1, x2, x3, x4, x5, x6, x7, x8⟩ := vfi_some (hc.2.2.2.1.1 0 (by omega))
    have hl256 := h0.2.2.1.2.1
    have hq := hj.2.1.2 q x4
    have hq8 := h8 q x4
    have hpo : gX11_pieceOf (wt_u s 110 10 1) (nI t) 0 = some (oI (some x), wt_u s 110 10 1) := by
      have := q_pieceOf (t := t) (number := 0) h0.2.2.1 hj.2.1 ht (by omega)
      rw [x1] at this
      exact this
    have hge := vdbl_ge (e := u + need) (m := 8) (n := 2 * q.2.1) (by show u + need ≤ 2 * q.2.1 * 256; omega) (by omega)
    have h16 : vdbl (u + need) 16 (2 * q.2.1) = vdbl (u + need) 8 (2 * q.2.1) := vdbl_add (k := 8) hge.1
    generalize hW : vdbl (u + need) 8 (2 * q.2.1) = W at hge h16
    obtain ⟨fu', hfu⟩ := q_grows_36 (s := wt_u s 110 10 1) (t := t) (need := need) (u := u) (by omega) (by rw [h0.tk (c := 3961) (by omega) ht]; exact hus) (by omega) 8 (2 * q.2.1) wt_N (by show u + need ≤ 2 * q.2.1 * 256; omega) (by omega) (by omega) (by unfold wt_N; omega)
    rw [hW] at hfu
    obtain ⟨mv1, mv2⟩ := q_moves (words := W) h0 hj hc ht ⟨by omega, by omega⟩ (by rw [hU]; omega)
    have hstart : gX11_grows_36 wt_N (wt_u s 110 10 1) (nI t) (nI need) (2 * nI q.2.1) = gX11_grows_36 (fu' + 1) (wt_u s 110 10 1) (nI t) (nI need) (nI W) := by rw [li_mul]; exact hfu
    have hwd : vdbl (vuse V t + need) 16 (2 * vln V.2.1 t 0) = W := by rw [huse, x8, h16]
    rw [if_neg (by rw [m0]; simp), hpo, cl_some, oI_some, li_add, ix_nI (by omega) (by omega), (h0.2.2.1.2.2 x q x2).2.1, hstart, gX11_grows_36, li_add, ix_nI (by omega) (by omega), h0.tk (c := 3961) (by omega) ht, hus, nI_add, nI_int (by omega), nI_int (by omega), if_pos (by omega)]
    cases e : vgap 2048 0 V.2.1 W with
    | none =>
      rw [vgr_c0 m0 (by rw [hwd]; exact e)]
      refine ⟨_, ?_, h0, hF0⟩
      rw [mv1 e, cl_some, if_neg (by simp), rb_neg (by simp)]
    | some g =>
      rw [vgr_c1 m0 (by rw [hwd]; exact e), hwd]
      obtain ⟨s1, a1, a2, a3⟩ := mv2 g e
      have b2 := q_inc (i := 4010 + t) a2 (vtt (by omega) ht) (Or.inr (by omega))
      obtain ⟨c1, c2⟩ := q_cnt (c := 4) (v := 1) b2 (by omega)
      have hgw := vgap0 hj.2.1 e
      have hvo := vo_mv (t := t) (g := g) (words := W) hj ht (by omega) hgw
      have hmem : ∃ p ∈ (vmv V t g W).2.1, p.2.2.1 = t ∧ p.2.2.2 = 0 := ⟨(g, W, t, 0), by rw [vmv_2]; exact vins_mem.mpr (Or.inl rfl), rfl, rfl⟩
      obtain ⟨y, p, y1, y2, y3, -⟩ := vfi_some hmem
      have hpo2 : gX11_pieceOf (wt_u (wt_u s1 111 (4010 + t) (s1 111 (4010 + t) + 1)) 111 (2054 + 4) ((vinc (vmv V t g W) (4010 + t)).1 (2054 + 4) + 1)) (nI t) 0 = some (oI (some y), wt_u (wt_u s1 111 (4010 + t) (s1 111 (4010 + t) + 1)) 111 (2054 + 4) ((vinc (vmv V t g W) (4010 + t)).1 (2054 + 4) + 1)) := by
        have := q_pieceOf (t := t) (number := 0) c2.2.2.1 hvo.1 ht (by omega)
        rw [show (vcn (vinc (vmv V t g W) (4010 + t)) 4 1).2.1 = (vmv V t g W).2.1 from rfl, y1] at this
        exact this
      have hy := c2.2.2.1.2.1
      have hy : (vmv V t g W).2.1.length ≤ 256 := hy
      obtain ⟨s3, e1, e2, e3⟩ := q_log (a := 0) (b := nI t) (c := (wt_u (wt_u s1 111 (4010 + t) (s1 111 (4010 + t) + 1)) 111 (2054 + 4) ((vinc (vmv V t g W) (4010 + t)).1 (2054 + 4) + 1)) 111 (2899 + y)) (d := nI W) (k := k) c2 (by rw [vcn_ne (by omega), vinc_ne (by omega), vmv_1, mj_upd_ne (by omega), mj_upd_ne (by omega), mj_upd_ne (by omega)]; exact hk) (by omega)
      refine ⟨s3, ?_, e2, RF.trans hF0 (RF.trans a3 (RF.trans (RF.uf (Or.inl rfl)) (RF.trans (RF.uf (Or.inl rfl)) e3)))⟩
      rw [a1, cl_some, if_pos (by decide), li_add, ix_nI (by omega) (by omega), ix_nI (by omega) (by omega), wr_eq, show gX11_counts (wt_u s1 111 (4010 + t) (s1 111 (4010 + t) + 1)) 4 1 = _ from c1, cl_some, hpo2, cl_some, oI_some, li_add, ix_nI (by omega) (by omega), e1, cl_some, rb_pos rfl]
  · -- linked
    have hpo : gX11_pieceOf (wt_u s 110 10 1) (nI t) 1000 = some (oI (vfi (vkey t 1000) V.2.1 0), wt_u s 110 10 1) := q_pieceOf (t := t) (number := 1000) h0.2.2.1 hj.2.1 ht (by omega)
    have hl256 := h0.2.2.1.2.1
    have h212 : ∀ V1 : vV, Gpre V1 t np (k + 1) ∨ Gpre V1 t np k → V1 = vsp V t → ∃ s', gX11_grows_212 (wt_u s 110 10 1) (nI t) (nI need) = some (rb ((vspl 2048 V1 t need).1 = true), s') ∧ RS s' (vspl 2048 V1 t need).2 ∧ RF s s' := by
      intro V1 hG1 hV1
      obtain ⟨s1, a1, a2, a3⟩ := q_spare h0 hj rfl ht (hc.nof (by have := hc.2.2.1; omega)) hk (by omega)
      rw [← hV1] at a2
      have hz1 : V1.1 2048 = nI z := by
        rw [hV1]
        unfold vsp
        split
        · show (vlg1 V).1 2048 = _
          rw [vlg1_ne (by omega)]; exact z1
        · exact z1
      have hz2 : s1 111 2048 = nI z := by rw [a2.se (by omega)]; exact hz1
      obtain ⟨s2, b1, b2, b3⟩ : ∃ s', (∀ z, V1.1 2048 = nI z → z ≤ 2048 → gX11_grows_242 s1 (nI t) (nI (max need z)) = some (rb ((vspl 2048 V1 t need).1 = true), s')) ∧ RS s' (vspl 2048 V1 t need).2 ∧ RF s1 s' := by
        rcases hG1 with hG1 | hG1
        · exact q_split a2 hG1 hn.2
        · exact q_split a2 hG1 hn.2
      have b1 := b1 z hz1 z3
      refine ⟨s2, ?_, b2, RF.trans hF0 (RF.trans a3 b3)⟩
      unfold gX11_grows_212
      rw [a1, cl_some, hz2, nI_int (by omega), nI_int (by omega)]
      split
      · rw [Nat.max_eq_right (by omega)] at b1
        exact b1
      · rw [Nat.max_eq_left (by omega)] at b1
        exact b1
    rw [if_pos (by rw [m0]; decide), hpo, cl_some]
    cases e : vfi (vkey t 1000) V.2.1 0 with
    | none =>
      have hf := vfi_find.1.mp e
      have hv : vsp V t = V := by unfold vsp; rw [if_neg (by rw [hf]; simp)]
      rw [oI_none, if_pos rfl, vgr_l0 m0 hf]
      exact h212 V (Or.inr hG0) hv.symm
    | some x =>
      obtain ⟨-, hx2, hx3⟩ := vfi_find.2 x e
      rw [Nat.sub_zero] at hx2 hx3
      obtain ⟨q, hq⟩ : ∃ q, V.2.1[x]? = some q := ⟨_, List.getElem?_eq_getElem hx3⟩
      have hqm := hj.2.1.2 q (List.mem_of_getElem? hq)
      rw [hq] at hx2
      rw [oI_some, if_neg (nI_m1 (by omega)), li_add, ix_nI (by omega) (by omega), (h0.2.2.1.2.2 x q hq).2.1, nI_int (by omega), nI_int (by omega)]
      by_cases c : need ≤ q.2.1
      · have r2 : RS (wt_u (wt_u s 110 10 1) 111 (3667 + x) (nI np)) (vps V (vren t 1000 np V.2.1)) := by
          refine h0.uf (h0.2.ps (fun i hi => mj_upd_ne (by unfold vout at hi; omega)) (vr_ren h0.2.2.1 hj.2.2.1 e) (fun mm hm => hm.ren hj (hc.nof (by have := hc.2.2.1; omega)) (hc.nof (Nat.le_refl _))))
        have b2 := q_inc (i := 4038 + t) r2 (vtt (by omega) ht) (Or.inr (by omega))
        obtain ⟨c1, c2⟩ := q_cnt (c := 8) (v := 1) b2 (by omega)
        obtain ⟨s3, e1, e2, e3⟩ := q_log (a := 4) (b := nI t) (c := (wt_u (wt_u (wt_u (wt_u s 110 10 1) 111 (3667 + x) (nI np)) 111 (4038 + t) ((wt_u (wt_u s 110 10 1) 111 (3667 + x) (nI np)) 111 (4038 + t) + 1)) 111 (2054 + 8) ((vinc (vps V (vren t 1000 np V.2.1)) (4038 + t)).1 (2054 + 8) + 1)) 111 (2899 + x)) (d := (wt_u (wt_u (wt_u (wt_u s 110 10 1) 111 (3667 + x) (nI np)) 111 (4038 + t) ((wt_u (wt_u s 110 10 1) 111 (3667 + x) (nI np)) 111 (4038 + t) + 1)) 111 (2054 + 8) ((vinc (vps V (vren t 1000 np V.2.1)) (4038 + t)).1 (2054 + 8) + 1)) 111 (3155 + x)) (k := k) c2 (by rw [vcn_ne (by omega), vinc_ne (by omega)]; exact hk) (by omega)
        have f2 := q_inc (i := 4066 + t) e2 (vtt (by omega) ht) (Or.inr (by omega))
        rw [if_neg (by omega), vgr_l1 m0 hx2 hnp c]
        refine ⟨_, ?_, f2, RF.trans hF0 (RF.trans (RF.uf (Or.inl rfl)) (RF.trans (RF.uf (Or.inl rfl)) (RF.trans (RF.uf (Or.inl rfl)) (RF.trans e3 (RF.uf (Or.inl rfl))))))⟩
        rw [li_add, ix_nI (by omega) (by omega), h0.tk (c := 4066) (by omega) ht, hc.2.1, li_add, ix_nI (by omega) (by omega), wr_eq, li_add, ix_nI (by omega) (by omega), ix_nI (by omega) (by omega), wr_eq, show gX11_counts (wt_u (wt_u (wt_u s 110 10 1) 111 (3667 + x) (nI np)) 111 (4038 + t) ((wt_u (wt_u s 110 10 1) 111 (3667 + x) (nI np)) 111 (4038 + t) + 1)) 8 1 = _ from c1, cl_some, li_add, ix_nI (by omega) (by omega), ix_nI (by omega) (by omega), e1, cl_some]
        unfold gX11_grows_310
        rw [li_add, ix_nI (by omega) (by omega), ix_nI (by omega) (by omega), wr_eq, rb_pos rfl]
      · rw [if_pos (by omega), vgr_l2 m0 hx2 c]
        refine h212 (vsp V t) (Or.inl ?_) rfl
        obtain ⟨j1, j2⟩ := vsp_J hj hc ht
        have hv : vsp V t = vps (vlg1 V) (V.2.1.filter (fun q => !vkey t 1000 q)) := by unfold vsp; rw [if_pos (by rw [hx2]; rfl)]
        refine ⟨j1, j2, ht, ⟨z, ?_, z2, z3⟩, fun p hp => ?_, ?_, by omega⟩
        · rw [hv]; exact (vlg1_ne (by omega)).trans z1
        · rw [hv] at hp
          exact h8 p (List.mem_filter.mp hp).1
        · rw [hv]
          show (vlg1 V).1 2067 = _
          rw [vlg1_at, hk, nI_1]
end
