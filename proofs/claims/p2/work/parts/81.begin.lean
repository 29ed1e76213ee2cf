/-! ===== a task begins ===== -/
def vb5 (V : vV) (t g z : Nat) (f a mode : Int32) : vV := vs (vs (vs (vs (vs (vps (vcr V t) (vins (g, z, t, 0) V.2.1)) (3926 + t) 1) (3933 + t) mode) (4066 + t) 1) (4052 + t) f) (4059 + t) a
def vbg (lim : Nat) (V : vV) (t f : Nat) (a mode : Int32) : Bool × vV := match vgap lim 0 V.2.1 (V.1 2048).toInt.toNat with
  | none => (false, V)
  | some g => (true, vcl lim (vb5 V t g (V.1 2048).toInt.toNat (nI f) a mode) t f 0 (if bt (V.1 (2238 + f)) 0 then 0 else a, none))
section
variable {lim B t f g z : Nat} {V : vV} {a mode : Int32}
theorem vb5_ne {x : Int32} {i : Nat} (ht : t < 6) (h : i < 3926 ∨ 4073 ≤ i ∨ (i - 3926) % 7 ≠ t) : (vb5 V t g z x a mode).1 i = V.1 i := by
  unfold vb5
  rw [vs_ne (by omega), vs_ne (by omega), vs_ne (by omega), vs_ne (by omega), vs_ne (by omega)]
  exact vcr_ne ht h
theorem vb5_2 {x : Int32} : (vb5 V t g z x a mode).2 = (vins (g, z, t, 0) V.2.1, V.2.2) := rfl
theorem vb5_at {x : Int32} : (vb5 V t g z x a mode).1 (3926 + t) = 1 ∧ (vb5 V t g z x a mode).1 (3933 + t) = mode ∧ (vb5 V t g z x a mode).1 (4066 + t) = 1 ∧ (vb5 V t g z x a mode).1 (4052 + t) = x ∧ (vb5 V t g z x a mode).1 (4059 + t) = a := by
  unfold vb5
  refine ⟨?_, ?_, ?_, ?_, vs_at⟩
  · rw [vs_ne (by omega), vs_ne (by omega), vs_ne (by omega), vs_ne (by omega), vs_at]
  · rw [vs_ne (by omega), vs_ne (by omega), vs_ne (by omega), vs_at]
  · rw [vs_ne (by omega), vs_ne (by omega), vs_at]
  · rw [vs_ne (by omega), vs_at]
theorem vb5_0 {x : Int32} {c : Nat} (h : c ≠ 3926 ∧ c ≠ 3933 ∧ c ≠ 4066 ∧ c ≠ 4052 ∧ c ≠ 4059) : (vb5 V t g z x a mode).1 (c + t) = (vcr V t).1 (c + t) := by
  unfold vb5
  rw [vs_ne (by omega), vs_ne (by omega), vs_ne (by omega), vs_ne (by omega), vs_ne (by omega)]
  rfl
theorem OT.b5 {x : Int32} (ht : t < 6) : OT t V (vb5 V t g z x a mode) := by
  refine ⟨fun i hi => vb5_ne ht (by omega), fun i h1 h2 => vb5_ne ht (by omega), fun t' ht' hne => ⟨fun j hj => vb5_ne ht (by omega), rfl, rfl⟩, fun q hq => ?_, fun t' n hne => ?_, fun k hk t' ht' hne => by rw [vb5_ne ht (by omega)]⟩
  · rw [vb5_2, vins_mem]
    exact ⟨fun h => h.resolve_left (fun e => hq (by rw [e])), Or.inr⟩
  · rw [vb5_2]
    exact vfind_ins_ne (by simp [vkey]; omega)
/-- with one piece and no frame yet -/
theorem b5_pre (hI : VI lim B V) (hlm : lim ≤ 10000) (ht : t < 6) (hid : Iid V t) (hz : V.1 2048 = nI z) (hz0 : z < 2147483648) (hg : vgap lim 0 V.2.1 z = some g) (hm : mode = 0 ∨ mode = 1) {x : Int32} : Vpre lim (vb5 V t g z x a mode) t 1 z ∧ Isd (vb5 V t g z x a mode).1 := by
  have hj := hI.J
  obtain ⟨z', z1, z2, z3, z4⟩ := hI.1.1
  have hzz : z = z' := by
    rw [hz] at z1
    exact (nI_inj hz0 (by omega)).mp z1
  subst hzz
  have hzn : (V.1 2048).toInt.toNat = z := by rw [hz, nI_int (by omega)]; rfl
  obtain ⟨g1, g2⟩ := vgap0 hj.2.1 hg
  have hmem := hid.2.2.2.2.2.2.2.2
  have hO : OT t V (vb5 V t g z x a mode) := OT.b5 ht
  have hpw : (vins (g, z, t, 0) V.2.1).Pairwise (fun p q => ¬ (p.2.2.1 = q.2.2.1 ∧ p.2.2.2 = q.2.2.2)) := vkeys_pw (fun p q h e => h ⟨e.1.symm, e.2.symm⟩) hj.2.2.1 (fun p hp e => hmem p hp e.1.symm)
  have hvo : vo lim (vins (g, z, t, 0) V.2.1) := vo_ins hj.2.1 ⟨by show 1 ≤ z; omega, g1, ht, by show 0 < 4294967296; omega⟩ g2
  have hj1 : VJ lim (vps V (vins (g, z, t, 0) V.2.1)) := by
    refine hj.ps hvo hpw (fun t' ht' h0 np' a1 a2 => ?_)
    by_cases e : t' = t
    · subst e
      rw [hid.1] at h0
      omega
    · exact ⟨np', vsame_ot (t := t) e hO.2.2.2.1 hO.2.2.2.2.1 a1 a2⟩
  have hj2 : VJ lim (vb5 V t g z x a mode) := hj1.ww (V' := vb5 V t g z x a mode) hO.1 rfl
  obtain ⟨b1, b2, b3, b4, b5⟩ := vb5_at (V := V) (t := t) (g := g) (z := z) (x := x) (a := a) (mode := mode)
  have hn0 : (vb5 V t g z x a mode).2.2.1 t = 0 := hid.1
  refine ⟨⟨hj2, ⟨?_, b3, by omega, ⟨fun k hk => ?_, fun q hq e => ?_⟩, ?_, ?_, fun h0 => by rw [hn0] at h0; omega, fun _ => ⟨rfl, ?_⟩⟩, ht, (vb5_ne ht (by omega)).trans hz, z2, z3, hlm, z4, fun q hq => ?_⟩, ?_⟩
  · rw [hn0, vb5_0 (c := 3954) (by omega), vcr_0 ht (by omega) (by omega)]
    rfl
  · exact ⟨(g, z, t, 0), vins_mem.mpr (Or.inl rfl), rfl, by show 0 = k; omega⟩
  · rcases vins_mem.mp hq with rfl | hq
    · exact Or.inl (by show 0 < 1; omega)
    · exact absurd e (hmem q hq)
  · rw [b2]
    rcases hm with e | e
    · refine Or.inl ⟨e, rfl, fun q hq e2 => ?_⟩
      rcases vins_mem.mp hq with rfl | hq
      · exact absurd e2.2 (by show ¬ 0 = 1000; omega)
      · exact hmem q hq e2.1
    · exact Or.inr e
  · rw [hn0, vb5_0 (c := 3961) (by omega), vcr_0 ht (by omega) (by omega)]
    rfl
  · rw [vb5_0 (c := 3982) (by omega), vcr_0 ht (by omega) (by omega)]
  · rcases vins_mem.mp hq with rfl | hq
    · exact Nat.le_refl _
    · have := hI.2.2.1.2.2 q hq
      omega
  · refine isd_ot hI.2.2.2.1 hO (fun i hi => ?_)
    rcases hi with hi | rfl
    · exact vb5_ne ht (by omega)
    · rw [vb5_0 (c := 3989) (by omega), vcr_f.2, hid.2.2.2.2.2.1]
theorem vi_bg (hI : VI lim B V) (hlm : lim ≤ 10000) (ht : t < 6) (hid : Iid V t) (hf : f < 10) (hs1 : 1 ≤ vsz V.1 f) (hm : mode = 0 ∨ mode = 1) : VI lim (B + 3) (vbg lim V t f a mode).2 := by
  obtain ⟨z, hz, z2, z3, z4⟩ := hI.1.1
  have hzn : (V.1 2048).toInt.toNat = z := by rw [hz, nI_int (by omega)]; rfl
  unfold vbg
  rw [hzn]
  cases e : vgap lim 0 V.2.1 z with
  | none => exact hI.mono (by omega)
  | some g =>
    obtain ⟨hP, hsd⟩ := b5_pre (a := a) (x := nI f) hI hlm ht hid hz (by omega) e hm
    have hO : OT t V (vb5 V t g z (nI f) a mode) := OT.b5 ht
    obtain ⟨b1, b2, b3, b4, b5⟩ := vb5_at (V := V) (t := t) (g := g) (z := z) (x := nI f) (a := a) (mode := mode)
    obtain ⟨k, k1, k2⟩ := hI.2.2.2.2.1
    have hn0 : (vb5 V t g z (nI f) a mode).2.2.1 t = 0 := hid.1
    have hfo : vfo (vb5 V t g z (nI f) a mode).1 (f, 0, 0, 0, (fun _ => 0), (fun _ => none)) = 0 := by
      unfold vfo
      rw [if_neg (by show ¬ 2048 ≤ 0; omega)]
    have hs2 : 1 ≤ vsz (vb5 V t g z (nI f) a mode).1 f := by rw [(hO.1.sz hf).1]; exact hs1
    have ht1 : tld (vb5 V t g z (nI f) a mode).1 (nI f) := by
      refine ⟨by rw [nI_int (by omega)]; omega, ?_⟩
      rw [nI_int (by omega)]
      unfold vsz at hs2
      show 0 < ((vb5 V t g z (nI f) a mode).1 (2228 + f)).toInt
      omega
    refine vi_cl (k := k) (G := (f, 0, 0, 0, (fun _ => 0), (fun _ => none))) hI hO hP hsd (Or.inl b1) (by rw [b4]; exact ht1) hf hs2 (Or.inl (by omega)) ⟨rfl, rfl⟩ ?_ ?_ ?_ (fun _ => rfl) (fun h0 => by rw [hn0] at h0; omega) (fun _ p hp => by cases hp) (fun h0 => by rw [hn0] at h0; omega) ((vb5_ne ht (by omega)).trans k2) (by omega)
    · rw [hfo, hn0, vb5_0 (c := 3996) (by omega), vcr_0 ht (by omega) (by omega)]
      rfl
    · rw [hfo, hn0]
      show 0 + 0 ≤ 1000000
      omega
    · rw [hfo, hn0]
      exact Or.inl ⟨by rw [vb5_0 (c := 3989) (by omega)]; exact vcr_f.2, rfl⟩
end
section
variable {s : wt_S} {V : vV} {t B f : Nat} {a mode : Int32}
theorem q_begins (h : RS s V) (hI : VI 2048 B V) (hB : B < 2147483200) (ht : t < 6) (hid : Iid V t) (hf : f < 10) (hs1 : 1 ≤ vsz V.1 f) (hm : mode = 0 ∨ mode = 1) : ∃ s', gX11_begins s (nI t) (nI f) a mode = some (rb ((vbg 2048 V t f a mode).1 = true), s') ∧ RS s' (vbg 2048 V t f a mode).2 ∧ RF s s' := by
  obtain ⟨z, hz, z2, z3, z4⟩ := hI.1.1
  have hj := hI.J
  have hzn : (V.1 2048).toInt.toNat = z := by rw [hz, nI_int (by omega)]; rfl
  have hgf := q_gapFor (words := z) h.2.2.1 hj.2.1 (by omega)
  unfold gX11_begins vbg
  rw [hzn, h.se (c := 2048) (by omega), hz, hgf, cl_some]
  cases e : vgap 2048 0 V.2.1 z with
  | none =>
    rw [oI_none, if_neg (by simp), rb_neg (by simp)]
    exact ⟨s, rfl, h, RF.refl⟩
  | some g =>
    obtain ⟨g1, g2⟩ := vgap0 hj.2.1 e
    obtain ⟨hP, hsd⟩ := b5_pre (a := a) (x := nI f) hI (by omega) ht hid hz (by omega) e hm
    rw [oI_some, if_pos (nI_m1 (by omega)), q_clears ht, cl_some]
    have a1 := h.cr (t := t) ht
    have hF1 : RF s (wt_u (wt_u (wt_uf s 111 (vck (s 111) t 0)) 111 (3989 + t) (-1)) 111 (3975 + t) (-1)) := RF.cr
    generalize hs1' : wt_u (wt_u (wt_uf s 111 (vck (s 111) t 0)) 111 (3989 + t) (-1)) 111 (3975 + t) (-1) = s1 at a1 hF1 ⊢
    have hjc : VJ 2048 (vcr V t) := hj.ww (fun i hi => vcr_ne ht (by omega)) rfl
    have hl := vlen256 hj.2.1 (fun q hq => by have := hI.2.2.1.2.2 q hq; omega) (by omega) e
    obtain ⟨w1, t1, t2, t3⟩ := q_takes (s := s1) (t := t) (a := g) (words := z) (number := 0) a1.2.2.1 hj.2.1 hl (by omega)
    have a2 : RS (wt_uf s1 111 w1) (vps (vcr V t) (vins (g, z, t, 0) V.2.1)) := a1.uf (a1.2.ps t3 t2 (fun mm hm => hm.ins hjc (fun i hi => by have hi : i < V.2.2.1 t := hi; rw [hid.1] at hi; omega)))
    have hz48 : s1 111 2048 = nI z := by rw [a1.se (c := 2048) (by omega), vcr_ne ht (by omega)]; exact hz
    rw [hz48, show gX11_takes s1 (nI t) (nI g) (nI z) 0 = _ from t1, cl_some, li_add, ix_nI (by omega) (by omega), wr_eq, li_add, ix_nI (by omega) (by omega), wr_eq, li_add, ix_nI (by omega) (by omega), wr_eq, li_add, ix_nI (by omega) (by omega), wr_eq, li_add, ix_nI (by omega) (by omega), wr_eq]
    have a3 := ((((a2.u (i := 3926 + t) (v := 1) (vtt (by omega) ht) (Or.inr (by omega))).u (i := 3933 + t) (v := mode) (vtt (by omega) ht) (Or.inr (by omega))).u (i := 4066 + t) (v := 1) (vtt (by omega) ht) (Or.inr (by omega))).u (i := 4052 + t) (v := nI f) (vtt (by omega) ht) (Or.inr (by omega))).u (i := 4059 + t) (v := a) (vtt (by omega) ht) (Or.inr (by omega))
    have a3 : RS _ (vb5 V t g z (nI f) a mode) := a3
    have hF2 : RF s (wt_u (wt_u (wt_u (wt_u (wt_u (wt_uf s1 111 w1) 111 (3926 + t) 1) 111 (3933 + t) mode) 111 (4066 + t) 1) 111 (4052 + t) (nI f)) 111 (4059 + t) a) := RF.trans hF1 (RF.trans (RF.uf (Or.inl rfl)) (RF.trans (RF.uf (Or.inl rfl)) (RF.trans (RF.uf (Or.inl rfl)) (RF.trans (RF.uf (Or.inl rfl)) (RF.trans (RF.uf (Or.inl rfl)) (RF.uf (Or.inl rfl)))))))
    obtain ⟨k, k1, k2⟩ := hI.2.2.2.2.1
    obtain ⟨z5, y1, y2, y3⟩ := hI.1.2.2.2.1
    have hO : OT t V (vb5 V t g z (nI f) a mode) := OT.b5 ht
    obtain ⟨s', f1, f2, f3⟩ := q_calls0 (a := a) (k := k) (z2 := z5) a3 hP hf (by rw [(hO.1.sz hf).1]; exact hs1) ((vb5_ne ht (by omega)).trans y1) (by omega) ((vb5_ne ht (by omega)).trans k2) (by omega) (Or.inl (by rw [vb5_0 (c := 3989) (by omega)]; exact vcr_f.2)) hid.1
    rw [(hO.1.sz hf).2.2.2] at f2
    rw [f1, cl_some, rb_pos rfl]
    exact ⟨s', rfl, f2, RF.trans hF2 f3⟩
end
