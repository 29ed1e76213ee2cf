section
/-! ===== alone: what it answers ===== -/
/-- the least FIRST that suffices -/
def vls (r : Nat) : Int32 := if r ≤ 8 then nI 8 else if r ≤ 16 then nI 16 else if r ≤ 32 then nI 32 else if r ≤ 64 then nI 64 else -1
/-- how far checked calls reach -/
def vrc (V : vV) (f : Nat) (a mode : Int32) : Nat := vmq 2000 (vAU V 64 f a mode) (vnd V.1 f)
def valo5 (V : vV) (z f : Nat) (a mode what : Int32) : Int32 :=
  if what = 0 then (vrl 2048 vZ 0 2000 (vAU V z f a mode)).1 (3926 + 0) else if what = 1 then (vrl 2048 vZ 0 2000 (vAU V z f a mode)).1 (3947 + 0) else if what = 2 then (vrl 2048 vZ 0 2000 (vAU V z f a mode)).1 (4003 + 0) else if what = 3 then (vrl 2048 vZ 0 2000 (vAU V z f a mode)).1 (4017 + 0) else if what = 4 then (vrl 2048 vZ 0 2000 (vAU V z f a mode)).1 (4024 + 0) else nI (vrx 2048 vZ 0 2000 (vAU V z f a mode) (vall (vAU V z f a mode).2.1))
def valo (V : vV) (f a mode what : Int32) : Int32 := if tld V.1 f then (if 0 ≤ mode.toInt ∧ mode.toInt ≤ 1 then (if 0 ≤ what.toInt ∧ what.toInt ≤ 6 then (if what = 6 then vls (vrc V f.toInt.toNat a mode) else valo5 V (V.1 2048).toInt.toNat f.toInt.toNat a mode what) else -1) else -1) else -1
section
variable {s s' : wt_S} {V V' : vV} {B f z r k : Nat} {a mode what : Int32}
theorem i_mode (h : 0 ≤ mode.toInt ∧ mode.toInt ≤ 1) : mode = 0 ∨ mode = 1 := by
  obtain ⟨m, m1, m2, m3, m4⟩ := i_nat (x := mode) h.1
  have : m = 0 ∨ m = 1 := by omega
  rw [m2]
  rcases this with rfl | rfl
  · exact Or.inl rfl
  · exact Or.inr rfl
/-- the class: the least FIRST -/
theorem c_least (hK : KC s) (hr : r ≤ 5000) : gX10_leastFirstFor s (nI r) = some (vls r, s) := by
  have e1 : s 1 0 = nI 8 := Int32.toInt_inj.mp ((hK 0 (by omega)).1.trans (by decide))
  have e2 : (s 2 0).toInt = 64 := (hK 0 (by omega)).2.1
  have st : ∀ n z, z ≤ 64 → gX10_leastFirstFor_6 (n + 1) s (nI r) (nI z) = if z < r then gX10_leastFirstFor_6 n s (nI r) (nI (2 * z)) else some (nI z, s) := fun n z hz => by
    rw [gX10_leastFirstFor_6, e2, nI_int (by omega), nI_int (by omega), if_neg (by omega)]
    have e3 : nI z * 2 = nI (2 * z) := by
      apply Int32.toInt_inj.mp
      rw [show (2 : Int32) = nI 2 from rfl, Int32.toInt_mul, nI_int (by omega), nI_int (by omega), nI_int (by omega), Int.bmod_eq_of_le]
      · omega
      · simp; omega
      · simp; omega
    rw [e3]
    by_cases c : z < r
    · rw [if_pos c, if_pos (by omega)]
    · rw [if_neg c, if_neg (by omega)]
  have hN : wt_N = 2099999995 + 1 + 1 + 1 + 1 + 1 := rfl
  unfold gX10_leastFirstFor vls
  rw [hN, e1, st _ _ (by omega)]
  by_cases c1 : r ≤ 8
  · rw [if_pos c1, if_neg (by omega)]
  rw [if_neg c1, if_pos (by omega), st _ _ (by omega)]
  by_cases c2 : r ≤ 16
  · rw [if_pos c2, if_neg (by omega)] <;> rfl
  rw [if_neg c2, if_pos (by omega), st _ _ (by omega)]
  by_cases c3 : r ≤ 32
  · rw [if_pos c3, if_neg (by omega)] <;> rfl
  rw [if_neg c3, if_pos (by omega), st _ _ (by omega)]
  by_cases c4 : r ≤ 64
  · rw [if_pos c4, if_neg (by omega)] <;> rfl
  rw [if_neg c4, if_pos (by omega), gX10_leastFirstFor_6, e2, nI_int (by omega), if_pos (by omega)]
theorem vmq_lt : ∀ (n B : Nat) (V : vV) (r : Nat), VI 2048 B V → r ≤ 2148 → vmq n V r ≤ 2148 := by
  intro n
  induction n with
  | zero => intro B V r _ h; exact h
  | succ n ih =>
    intro B V r hI h
    have ev : vmq (n + 1) V r = if vby V 0 = true then vmq n (vst 2048 vZ V 0) (max r (sw V)) else r := rfl
    rw [ev]
    by_cases c : vby V 0 = true
    · rw [if_pos c]
      have hb := vby_iff.mp c
      have := sw_lt hI hb
      exact ih (B + 4) _ _ (vi_st hI (by omega) hb (by omega)) (by omega)
    · rw [if_neg c]
      exact h
theorem vi_au (hI : VI 2048 B V) (hf : f < 10) (hs1 : 1 ≤ vsz V.1 f) (hm : mode = 0 ∨ mode = 1) (hz : 8 ≤ z ∧ z ≤ 2048) : VI 2048 3 (vAU V z f a mode) := by
  have hI0 : VI 2048 0 (vnw (vAA V z) V.1) := vi_nw hI.2.1 (ise_al hI hz rfl)
  exact vi_bg (a := a) hI0 (by omega) (by omega) (nw_id (t := 0) (by omega)) hf (by rw [(vnw_pp.sz hf).1]; exact hs1) hm
theorem vrc_lt (hI : VI 2048 B V) (hf : f < 10) (hs1 : 1 ≤ vsz V.1 f) (hm : mode = 0 ∨ mode = 1) : vrc V f a mode ≤ 2148 :=
  vmq_lt _ _ _ _ (vi_au hI hf hs1 hm (by omega)) (by have := vnd_le hI.2.1 hf; omega)
/-- the class -/
theorem c_aloneE {f : Int32} (h : NW B s V) : ∃ s', gX10_alone s f a mode what = some (valo V f a mode what, s') := by
  obtain ⟨⟨zs, fr, hR⟩, hI, hW, hK, hT⟩ := id h
  have q0 : (0 : Int32).toInt = 0 := by decide
  have q1 : (1 : Int32).toInt = 1 := by decide
  have q6 : (6 : Int32).toInt = 6 := by decide
  unfold gX10_alone valo
  rw [c_told hR.2.2.2.2.2, cl_some, if_rb, q0, q1, q6]
  by_cases c1 : tld V.1 f
  rotate_left
  · rw [if_neg c1, if_neg c1]
    exact ⟨s, rfl⟩
  rw [if_pos c1, if_pos c1]
  by_cases c2 : mode.toInt < 0
  · rw [if_pos c2, if_neg (by omega)]
    exact ⟨s, rfl⟩
  rw [if_neg c2]
  by_cases c3 : 1 < mode.toInt
  · rw [if_pos c3, if_neg (by omega)]
    exact ⟨s, rfl⟩
  rw [if_neg c3, if_pos (show 0 ≤ mode.toInt ∧ mode.toInt ≤ 1 by omega)]
  by_cases c4 : what.toInt < 0
  · rw [if_pos c4, if_neg (by omega)]
    exact ⟨s, rfl⟩
  rw [if_neg c4]
  by_cases c5 : what.toInt ≤ 6
  rotate_left
  · rw [if_neg c5, if_neg (by omega)]
    exact ⟨s, rfl⟩
  rw [if_pos c5, if_pos (show 0 ≤ what.toInt ∧ what.toInt ≤ 6 by omega)]
  have hm := i_mode (mode := mode) (by omega)
  obtain ⟨f', f1, rfl, f3, f4⟩ := tld_nat c1
  rw [f3]
  by_cases c6 : what = 6
  · rw [if_neg (fun q => q c6), if_pos c6]
    have e2 : s 2 0 = nI 64 := Int32.toInt_inj.mp ((hK 0 (by omega)).2.1.trans (by decide))
    obtain ⟨s1, zs1, fr1, a1, a2, a3, a4, a5⟩ := c_alone1 (a := a) (Z := vZ) (z := 64) h f1 f4 hm (by omega)
    have h14 : s1 57 14 = nI (vrc V f' a mode) := (xc_alone (a := a) h f1 f4 hm (z := 64) (by omega) _ _ a1).1
    have hlt := vrc_lt (a := a) hI f1 f4 hm
    unfold gX10_alone_65
    rw [e2, a1, cl_some, ix_0 (by omega) (by omega), if_pos (by rw [c6]; decide), show s1 (40 + 17 + 2 * 0) 14 = nI (vrc V f' a mode) from h14, c_least a4.2.2.2.1 (by omega), cl_some]
    exact ⟨s1, rfl⟩
  · rw [if_pos c6, if_neg c6]
    obtain ⟨z, z1, z2, z3, z4⟩ := hI.1.1
    have e2 : s 12 0 = nI z := (hR.2.2.1.1 0 (by omega)).trans z1
    have hz : (V.1 2048).toInt.toNat = z := by rw [z1, nI_int (by omega)]; rfl
    obtain ⟨s1, zs1, fr1, a1, a2, a3, a4, a5⟩ := c_alone1 (a := a) (Z := vZ) (z := z) h f1 f4 hm ⟨z2, z3⟩
    have n6 : what.toInt ≠ 6 := fun e => c6 (Int32.toInt_inj.mp (e.trans q6.symm))
    unfold gX10_alone_65 valo5
    rw [e2, hz, a1, cl_some, ix_0 (by omega) (by omega), if_neg (by omega)]
    by_cases d0 : what = 0
    · rw [if_pos d0, if_pos (by rw [d0]; decide)]
      exact ⟨s1, congrArg (fun x => some (x, s1)) (a2.at (t := 0) (by omega) (e := (1, 3926)) (by decide))⟩
    have n0 : ¬ what.toInt = 0 := fun e => d0 (Int32.toInt_inj.mp (e.trans q0.symm))
    rw [if_neg d0, if_neg n0]
    by_cases d1 : what = 1
    · rw [if_pos d1, if_pos (by rw [d1]; decide)]
      exact ⟨s1, congrArg (fun x => some (x, s1)) (a2.as (t := 0) (by omega) (e := (2, 3947)) (by decide))⟩
    have n1 : ¬ what.toInt = 1 := fun e => d1 (Int32.toInt_inj.mp (e.trans q1.symm))
    rw [if_neg d1, if_neg n1]
    by_cases d2 : what = 2
    · rw [if_pos d2, if_pos (by rw [d2]; decide)]
      exact ⟨s1, congrArg (fun x => some (x, s1)) (a2.as (t := 0) (by omega) (e := (3, 4003)) (by decide))⟩
    have n2 : ¬ what.toInt = 2 := fun e => d2 (Int32.toInt_inj.mp (e.trans (by decide)))
    rw [if_neg d2, if_neg n2]
    by_cases d3 : what = 3
    · rw [if_pos d3, if_pos (by rw [d3]; decide)]
      exact ⟨s1, congrArg (fun x => some (x, s1)) (a2.as (t := 0) (by omega) (e := (5, 4017)) (by decide))⟩
    have n3 : ¬ what.toInt = 3 := fun e => d3 (Int32.toInt_inj.mp (e.trans (by decide)))
    rw [if_neg d3, if_neg n3]
    by_cases d4 : what = 4
    · rw [if_pos d4, if_pos (by rw [d4]; decide)]
      exact ⟨s1, congrArg (fun x => some (x, s1)) (a2.as (t := 0) (by omega) (e := (6, 4024)) (by decide))⟩
    have n4 : ¬ what.toInt = 4 := fun e => d4 (Int32.toInt_inj.mp (e.trans (by decide)))
    rw [if_neg d4, if_neg n4]
    rw [if_pos (by omega)]
    exact ⟨s1, rfl⟩
end
end
section
/-! ===== alone: the reference answers the same ===== -/
section
variable {s s' : wt_S} {V V' : vV} {B f z r k : Nat} {a mode what : Int32}
/-- what it begins with depends on what is told and set alone -/
theorem nw_eq (hp : ∀ i, 2228 ≤ i → i < 2898 → V'.1 i = V.1 i) (hs : ∀ j, 2049 ≤ j → j ≤ 2053 → V'.1 j = V.1 j) : vnw (vAA V' z) V'.1 = vnw (vAA V z) V.1 := by
  refine Prod.ext (funext fun i => ?_) rfl
  by_cases c1 : 2048 ≤ i ∧ i ≤ 2053
  · obtain ⟨j, rfl⟩ : ∃ j, i = 2048 + j := ⟨i - 2048, by omega⟩
    rw [vnw_se (by omega), vnw_se (by omega)]
    unfold vAA
    by_cases c : j = 0
    · rw [if_pos c, if_pos c]
    · rw [if_neg c, if_neg c]
      exact hs _ (by omega) (by omega)
  · by_cases c2 : 2228 ≤ i ∧ i < 2898
    · exact (vnw_pp i c2).trans ((hp i c2.1 c2.2).trans (vnw_pp i c2).symm)
    · by_cases c3 : (3923 ≤ i ∧ i < 3926) ∨ (3975 ≤ i ∧ i < 3982) ∨ (3989 ≤ i ∧ i < 3996)
      · rw [vnw_m c3, vnw_m c3]
      · show (if 2048 ≤ i ∧ i ≤ 2053 then _ else if 2228 ≤ i ∧ i < 2898 then _ else if (3923 ≤ i ∧ i < 3926) ∨ (3975 ≤ i ∧ i < 3982) ∨ (3989 ≤ i ∧ i < 3996) then (-1 : Int32) else 0) = (if 2048 ≤ i ∧ i ≤ 2053 then _ else if 2228 ≤ i ∧ i < 2898 then _ else if (3923 ≤ i ∧ i < 3926) ∨ (3975 ≤ i ∧ i < 3982) ∨ (3989 ≤ i ∧ i < 3996) then (-1 : Int32) else 0)
        rw [if_neg c1, if_neg c1, if_neg c2, if_neg c2]
/-- a run of the reference: how it begins, and whether it has grown by then -/
theorem q_alone0 (hf : f < 10) (hm : mode = 0 ∨ mode = 1) (hz : 8 ≤ z ∧ z ≤ 2048) (h : RS s (vs V 2048 (nI z))) (hI : VI 2048 B V) (hB : B < 2147400000) (hs1 : 1 ≤ vsz V.1 f) (hp : PO V) : ∃ (s2 : wt_S) (U : vV) (a0 : Int32), gX11_runsAlone s (nI f) a mode = gX11_runsAlone_52 wt_N s2 a0 (nI 0) ∧ RS s2 U ∧ VI 2048 (B + 3) U ∧ AE U (vAU V z f a mode) ∧ FX 110 10 5 (if vnd V.1 f ≤ z then 0 else 1) 0 s2 := by
  obtain ⟨s1, V1, fu', e1, e2, e3, e4, e5, e6, e7, e8⟩ := q_all (B := B) (f := nI f) (a := a) (mode := mode) (x := nI z) 6 0 wt_N s V (by omega) (by unfold wt_N; omega) h hI (fun j hj => by omega) hp
  have hno : vab V1 6 0 = false := vab_all (fun j h1 h2 => e4 j (by omega))
  obtain ⟨n1, n2, n3⟩ := none_there e3 e4 e7
  have hpe2 : vpe V1.1 (vs V1 2048 (nI z)).1 := vpe.upd (by omega)
  have hI2 : VI 2048 B (vs V1 2048 (nI z)) := by
    refine e3.re2 hno rfl ?_ (e3.2.1.ww hpe2) (fun i h1 h2 => vs_ne (by omega))
    obtain ⟨i1, i2, i3, i4, i5, i6⟩ := e3.1
    unfold Ise
    rw [vs_at, vs_ne (by omega), vs_ne (by omega), vs_ne (by omega), vs_ne (by omega), vs_ne (by omega)]
    exact ⟨⟨z, rfl, by omega, by omega, by omega⟩, i2, i3, i4, i5, i6⟩
  have hid : Iid (vs V1 2048 (nI z)) 0 := hI2.idle (by omega) (by
    have := e4 0 (by omega)
    unfold vby at this ⊢
    rw [vs_ne (by omega)]
    exact this)
  have hpe1 := e5.trans hpe2
  have hs2 : 1 ≤ vsz (vs V1 2048 (nI z)).1 f := by rw [(hpe1.sz hf).1]; exact hs1
  have hAS : AS (vs V1 2048 (nI z)) (vnw (vAA V z) V.1) := by
    refine ⟨hI2.2.1, fun i hi => ?_, n2, rfl, ?_⟩
    · by_cases c : i < 2228
      · obtain ⟨j, rfl⟩ : ∃ j, i = 2048 + j := ⟨i - 2048, by omega⟩
        rw [vnw_se (by omega)]
        unfold vAA
        by_cases c0 : j = 0
        · subst c0
          rw [if_pos rfl]
          exact vs_at.symm
        · rw [if_neg c0, vs_ne (by omega), e8 _ (by omega) (by omega)]
      · by_cases c2 : i < 2898
        · rw [vnw_pp i ⟨by omega, c2⟩, vs_ne (by omega)]
          exact (e5 i (Or.inl ⟨by omega, c2⟩)).symm
        · obtain ⟨j, rfl⟩ : ∃ j, i = 3923 + j := ⟨i - 3923, by omega⟩
          rw [vnw_m (by omega), vs_ne (by omega), n3 j (by omega)]
    · show [] = V1.2.1
      exact n1.symm
  have hgap : (vgap 2048 0 (vs V1 2048 (nI z)).2.1 ((vs V1 2048 (nI z)).1 2048).toInt.toNat).isSome := by
    rw [vs_at, nI_int (by omega)]
    show (vgap 2048 0 V1.2.1 z).isSome
    rw [n1]
    show (if 0 + z ≤ 2048 then some 0 else none).isSome
    rw [if_pos (by omega)]
    rfl
  obtain ⟨b1, b2⟩ := AS.bg (a := a) (mode := mode) hAS hf hgap
  have e2' : RS (wt_u s1 110 10 0) (vs V1 2048 (nI z)) := e2.o (by omega)
  obtain ⟨s2, f1, f2, f3⟩ := q_begins (a := a) e2' hI2 (by omega) (by omega) hid hf hs2 hm
  have hI3 := vi_bg (a := a) hI2 (by omega) (by omega) hid hf hs2 hm
  have hF := xr_begins (a := a) e2' hI2 hid hf hm vs_at hz.2 n1 wt_u_self _ _ f1
  rw [(hpe1.mg hI.2.1 hf).2] at hF
  have f1 : gX11_begins (wt_u s1 110 10 0) 0 (nI f) a mode = _ := f1
  have hw : gX11_wordsOf s2 0 = _ := q_wordsOf (t := 0) f2.2.2.1 hI3.J.2.1 (by omega)
  have e1 : gX11_runsAlone s (nI f) a mode = _ := e1
  refine ⟨s2, _, nI (vcw 0 (vbg 2048 (vs V1 2048 (nI z)) 0 f a mode).2.2.1), ?_, f2, hI3, b2, hF⟩
  rw [show nI 0 = 0 from rfl, e1, gX11_runsAlone_3, nI_int (by omega), if_pos (by decide), wr_eq, f1, cl_some, hw, cl_some]
theorem xr_alone (hf : f < 10) (hm : mode = 0 ∨ mode = 1) (hz : 8 ≤ z ∧ z ≤ 64) (h : RS s (vs V 2048 (nI z))) (hI : VI 2048 B V) (hB : B < 2147400000) (hs1 : 1 ≤ vsz V.1 f) (hp : PO V) : FZ 110 10 5 (if vrc V f a mode ≤ z then 0 else 1) 0 (gX11_runsAlone s (nI f) a mode) := by
  obtain ⟨s2, U, a0, e, h2, hI2, hA, hX⟩ := q_alone0 (a := a) hf hm (by omega) h hI hB hs1 hp
  rw [e]
  by_cases c : vnd V.1 f ≤ z
  · rw [if_pos c] at hX
    have hZ : AZ z (vAU V 64 f a mode) U := (AZ.bg hI hf hm hz c).jn hA
    exact xr_52 ⟨by omega, hz.2⟩ 2000 0 wt_N (B + 3) 3 (vnd V.1 f) a0 s2 U (vAU V 64 f a mode) (by omega) (by unfold wt_N; omega) h2 hI2 (vi_au hI hf hs1 hm (by omega)) (by omega) (Or.inl hZ) hX.1 c
  · rw [if_neg c] at hX
    have hge : vnd V.1 f ≤ vrc V f a mode := vmq_ge _ _ _
    rw [if_neg (show ¬ vrc V f a mode ≤ z by omega)]
    exact xr_52M _ hX
/-- the reference -/
theorem k_aloneE {f : Int32} (h : RS s V) (hI : VI 2048 B V) (hB : B < 2147300000) (hp : PO V) : ∃ s', gX11_alone s f a mode what = some (valo V f a mode what, s') ∧ RS s' V ∧ RH s s' := by
  have r0 : RS s V ∧ RH s s := ⟨h, ⟨fun _ _ => rfl, rfl, rfl⟩⟩
  have q0 : (0 : Int32).toInt = 0 := by decide
  have q1 : (1 : Int32).toInt = 1 := by decide
  have q6 : (6 : Int32).toInt = 6 := by decide
  unfold gX11_alone valo
  rw [q_isTold, cl_some, if_rb]
  by_cases c1 : tld V.1 f
  rotate_left
  · rw [if_neg (fun q => c1 (h.prog.tl.mp q)), if_neg c1]
    exact ⟨s, rfl, r0⟩
  rw [if_pos (h.prog.tl.mpr c1), if_pos c1, q_isIn, cl_some, if_rb, q0, q1]
  obtain ⟨f', f10, rfl, f3, f4⟩ := tld_nat c1
  by_cases c2 : 0 ≤ mode.toInt ∧ mode.toInt ≤ 1
  rotate_left
  · rw [if_neg c2, if_neg c2]
    exact ⟨s, rfl, r0⟩
  rw [if_pos c2, if_pos c2, q_isIn, cl_some, if_rbn, q0, q6]
  have hm := i_mode c2
  by_cases c3 : 0 ≤ what.toInt ∧ what.toInt ≤ 6
  rotate_left
  · rw [if_neg c3, if_neg c3]
    exact ⟨s, rfl, r0⟩
  rw [if_pos c3, if_pos c3, f3]
  obtain ⟨g, e1, e2⟩ := q_copies (r1 := 111) (r2 := 112) (by omega) (s := s)
  rw [e1, cl_some]
  have h1 : RS (wt_uf s 112 g) V := h.a112
  have fin : ∀ (s2 : wt_S) (V2 : vV) v, RS s2 V2 → RF (wt_uf s 112 g) s2 → ∃ s', gX11_alone_200 s2 v = some (v, s') ∧ RS s' V ∧ RH s s' := fun s2 V2 v g1 g2 => k_backE h e2 rfl g1 g2
  by_cases c6 : what = 6
  · rw [if_pos (by rw [c6]; decide), if_pos c6]
    have step : ∀ (z fu B' : Nat) (s2 : wt_S) (V2 : vV) (l5 : Int32), (8 ≤ z ∧ z ≤ 64) → RS s2 V2 → VI 2048 B' V2 → B' < 2147400000 → vpe V.1 V2.1 → (∀ j, 2049 ≤ j → j ≤ 2053 → V2.1 j = V.1 j) → PO V2 → RF (wt_uf s 112 g) s2 → ∃ s3 V3, gX11_alone_155 (fu + 1) s2 (nI f') a mode l5 (nI z) = gX11_alone_155 fu s3 (nI f') a mode (if vrc V f' a mode ≤ z then nI z else l5) (nI (z / 2)) ∧ RS s3 V3 ∧ VI 2048 (B' + 8003) V3 ∧ vpe V.1 V3.1 ∧ (∀ j, 2049 ≤ j → j ≤ 2053 → V3.1 j = V.1 j) ∧ PO V3 ∧ RF (wt_uf s 112 g) s3 := by
      intro z fu B' s2 V2 l5 hz g1 g2 g3 g4 g5 g6 g7
      have q1 : RS (wt_u s2 111 2048 (nI z)) (vs V2 2048 (nI z)) := g1.u (Or.inl (by omega)) (Or.inl (by omega))
      have hsz : 1 ≤ vsz V2.1 f' := by rw [(g4.sz f10).1]; exact f4
      have hvr : vrc V2 f' a mode = vrc V f' a mode := by
        unfold vrc vAU
        rw [nw_eq (V := V) (V' := V2) (fun i i1 i2 => g4 i (Or.inl ⟨i1, i2⟩)) g5, (g4.mg hI.2.1 f10).2]
      obtain ⟨s3, U, d1, d2, d3, d4, d5, d6, d7, -⟩ := q_alone1 (a := a) f10 hm (by omega) q1 g2 g3 hsz g6
      have hF := xr_alone (a := a) f10 hm hz q1 g2 g3 hsz g6 _ _ d1
      rw [hvr] at hF
      refine ⟨s3, _, ?_, d3, d4, g4.trans d6, fun j j1 j2 => (d7 j j1 j2).trans (g5 j j1 j2), d5, g7.trans ((RF.uf (Or.inl rfl)).trans d2)⟩
      rw [gX11_alone_155, nI_int (by omega), if_neg (by show ¬ _ < (8 : Int); omega), wr_eq, d1, cl_some, hF.1]
      unfold gX11_alone_191
      rw [nI_half (by omega)]
      by_cases d : vrc V f' a mode ≤ z
      · rw [if_pos d, if_pos d, if_neg (fun q => q rfl)]
      · rw [if_neg d, if_neg d, if_pos (by decide)]
    have hN : wt_N = 2099999995 + 1 + 1 + 1 + 1 + 1 := rfl
    obtain ⟨s3, V3, a0, a1, a2, a3, a4, a5, a6⟩ := step 64 (2099999995 + 1 + 1 + 1 + 1) B _ V (-1) (by omega) h1 hI (by omega) vpe.refl (fun _ _ _ => rfl) hp RF.refl
    obtain ⟨s4, V4, b0, b1, b2, b3, b4, b5, b6⟩ := step 32 (2099999995 + 1 + 1 + 1) (B + 8003) s3 V3 _ (by omega) a1 a2 (by omega) a3 a4 a5 a6
    obtain ⟨s5, V5, d0, d1, d2, d3, d4, d5, d6⟩ := step 16 (2099999995 + 1 + 1) (B + 8003 + 8003) s4 V4 _ (by omega) b1 b2 (by omega) b3 b4 b5 b6
    obtain ⟨s6, V6, x0, x1, x2, x3, x4, x5, x6⟩ := step 8 (2099999995 + 1) (B + 8003 + 8003 + 8003) s5 V5 _ (by omega) d1 d2 (by omega) d3 d4 d5 d6
    have hv : ∀ r : Nat, (if r ≤ 8 then nI 8 else if r ≤ 16 then nI 16 else if r ≤ 32 then nI 32 else if r ≤ 64 then nI 64 else -1) = vls r := fun _ => rfl
    rw [hN, show (64 : Int32) = nI 64 from rfl, a0, show nI (64 / 2) = nI 32 from rfl, b0, show nI (32 / 2) = nI 16 from rfl, d0, show nI (16 / 2) = nI 8 from rfl, x0, show nI (8 / 2) = nI 4 from rfl, gX11_alone_155, nI_int (by omega), if_pos (by decide), hv]
    exact fin s6 V6 _ x1 x6
  · have n6 : what.toInt ≠ 6 := fun e => c6 (Int32.toInt_inj.mp (e.trans q6.symm))
    rw [if_neg (by omega), if_neg c6]
    obtain ⟨z, z1, z2, z3, z4⟩ := hI.1.1
    have hzn : (V.1 2048).toInt.toNat = z := by rw [z1, nI_int (by omega)]; rfl
    have hvz : vs V 2048 (nI z) = V := by
      refine Prod.ext (funext fun i => ?_) rfl
      show mj_upd V.1 2048 (nI z) i = V.1 i
      by_cases e : i = 2048
      · subst e; rw [mj_upd_self, z1]
      · rw [mj_upd_ne e]
    obtain ⟨s3, U, d1, d2, d3, d4, d5, d6, d7, dI, dA⟩ := q_alone1 (a := a) (V := V) f10 hm ⟨z2, z3⟩ (by rw [hvz]; exact h1) hI (by omega) f4 hp
    have hL := AE.rl (lim := 2048) (by omega) 2000 (B + 3) _ _ dA dI
    have hX := AE.rx (lim := 2048) (by omega) 2000 (B + 3) (vall U.2.1) _ _ dA dI
    have hU : (vAU V z f' a mode).2.1 = U.2.1 := AE.e dA
    rw [hzn, d1, cl_some]
    unfold gX11_alone_146 valo5
    have tk : ∀ c, 3926 ≤ c → c ≤ 4066 ∧ (c - 3926) % 7 = 0 → c ≠ 4066 → s3 111 (c + 0) = (vrl 2048 vZ 0 2000 (vAU V z f' a mode)).1 (c + 0) := fun c h1 h2 h3 => (d3.tk (t := 0) (c := c) (by omega) (by omega)).trans (hL.1.own (c := c) (by omega)).symm
    by_cases w0 : what = 0
    · rw [if_neg (fun q => q w0), if_pos w0, ← tk 3926 (by omega) (by omega) (by omega)]
      exact fin s3 _ _ d3 d2
    rw [if_pos w0, if_neg w0]
    by_cases w1 : what = 1
    · rw [if_neg (fun q => q w1), if_pos w1, ← tk 3947 (by omega) (by omega) (by omega)]
      exact fin s3 _ _ d3 d2
    rw [if_pos w1, if_neg w1]
    by_cases w2 : what = 2
    · rw [if_neg (fun q => q w2), if_pos w2, ← tk 4003 (by omega) (by omega) (by omega)]
      exact fin s3 _ _ d3 d2
    rw [if_pos w2, if_neg w2]
    by_cases w3 : what = 3
    · rw [if_neg (fun q => q w3), if_pos w3, ← tk 4017 (by omega) (by omega) (by omega)]
      exact fin s3 _ _ d3 d2
    rw [if_pos w3, if_neg w3]
    by_cases w4 : what = 4
    · rw [if_neg (fun q => q w4), if_pos w4, ← tk 4024 (by omega) (by omega) (by omega)]
      exact fin s3 _ _ d3 d2
    rw [if_pos w4, if_neg w4, hU, hX]
    exact fin s3 _ _ d3 d2
end
section
variable {F B : Nat} {s : wt_S}
theorem lo7_alone {a b c d : Int32} (h : L7 F B s) (hF : F + 4001 ≤ 1999990000) (hB : B ≤ 2147200000) : O7 (F + 4001) B s (gX10_alone s a b c d) (fun s1 => gX11_alone s1 a b c d) Eq :=
  lo7_mk h (Nat.le_refl _) (oX10_alone hF h.1) (fun V hr hI hn h6 => by
    obtain ⟨s1, a1⟩ := c_aloneE (f := a) (a := b) (mode := c) (what := d) hn
    obtain ⟨a2, a3⟩ := c_aloneop hn a1
    refine ⟨_, s1, _, a1, a2, fun c hc => a3 c (by omega), h6, fun s1' h' => ?_⟩
    obtain ⟨s2, b1, b2, b3⟩ := k_aloneE (f := a) (a := b) (mode := c) (what := d) h' hI (by omega) h6
    exact ⟨_, s2, b1, rfl, b2, b3⟩)
end
end
section
/-! ===== the law's operations over L7 (written by wip/p2/gen_ops6.py) ===== -/
theorem law7_o_set {L F B : Nat} {s : wt_S} {l3 : Int32} {P : Int32 → wt_S → Prop} {K : wt_S → Option (Int32 × wt_S)} (hL : L ≤ 3072) (hl : 0 ≤ l3.toInt ∧ l3.toInt + 6 ≤ L) (hF1 : F + 2401800 ≤ 1999990000) (hB1 : B + 2400 ≤ 2147200000) (h : L7 F B s) (go : ∀ s', L7 (F + 2401800) (B + 2400) s' → Ok P (K s')) : Ok P (wt_ix (l3 + 1) L fun k1 => (wt_ix (l3 + 2) L fun k2 => (wt_cl (gX10_set s (s 0 k1) (s 0 k2)) fun v s1 => (wt_ix (l3 + 1) L fun m1 => (wt_ix (l3 + 2) L fun m2 => (wt_cl (gX11_set s1 (s1 0 m1) (s1 0 m2)) fun w s2 => K s2)))))) := by
  have hF0 : F ≤ 1999990000 := Nat.le_trans (Nat.le_add_right _ _) hF1
  have hB0 : B ≤ 2147200000 := Nat.le_trans (Nat.le_add_right _ _) hB1
  obtain ⟨r, s1, r2, s2, e1, e2, e3, e4, e5⟩ := lo7_set (a := s 0 (l3.toInt.toNat + 1)) (b := s 0 (l3.toInt.toNat + 2)) h hF0
  rw [ix_l1 hL hl, ix_l2 hL hl, e1, cl_some, ix_l1 hL hl, ix_l2 hL hl, e2, show gX11_set s1 (s 0 (l3.toInt.toNat + 1)) (s 0 (l3.toInt.toNat + 2)) = some (r2, s2) from e3, cl_some]
  exact go s2 (e5.mono (Nat.le_add_right _ _) (Nat.le_add_right _ _))
theorem law7_o_function {L F B : Nat} {s : wt_S} {l3 : Int32} {P : Int32 → wt_S → Prop} {K : wt_S → Option (Int32 × wt_S)} (hL : L ≤ 3072) (hl : 0 ≤ l3.toInt ∧ l3.toInt + 6 ≤ L) (hF1 : F + 2401800 ≤ 1999990000) (hB1 : B + 2400 ≤ 2147200000) (h : L7 F B s) (go : ∀ s', L7 (F + 2401800) (B + 2400) s' → Ok P (K s')) : Ok P (wt_ix (l3 + 1) L fun k1 => (wt_ix (l3 + 2) L fun k2 => (wt_ix (l3 + 3) L fun k3 => (wt_cl (gX10_function s (s 0 k1) (s 0 k2) (s 0 k3)) fun v s1 => (wt_ix (l3 + 1) L fun m1 => (wt_ix (l3 + 2) L fun m2 => (wt_ix (l3 + 3) L fun m3 => (wt_cl (gX11_function s1 (s1 0 m1) (s1 0 m2) (s1 0 m3)) fun w s2 => K s2)))))))) := by
  have hF0 : F ≤ 1999990000 := Nat.le_trans (Nat.le_add_right _ _) hF1
  have hB0 : B ≤ 2147200000 := Nat.le_trans (Nat.le_add_right _ _) hB1
  obtain ⟨r, s1, r2, s2, e1, e2, e3, e4, e5⟩ := lo7_function (a := s 0 (l3.toInt.toNat + 1)) (b := s 0 (l3.toInt.toNat + 2)) (c := s 0 (l3.toInt.toNat + 3)) h hF0
  rw [ix_l1 hL hl, ix_l2 hL hl, ix_l3 hL hl, e1, cl_some, ix_l1 hL hl, ix_l2 hL hl, ix_l3 hL hl, e2, show gX11_function s1 (s 0 (l3.toInt.toNat + 1)) (s 0 (l3.toInt.toNat + 2)) (s 0 (l3.toInt.toNat + 3)) = some (r2, s2) from e3, cl_some]
  exact go s2 (e5.mono (Nat.le_add_right _ _) (Nat.le_add_right _ _))
theorem law7_o_line {L F B : Nat} {s : wt_S} {l3 : Int32} {P : Int32 → wt_S → Prop} {K : wt_S → Option (Int32 × wt_S)} (hL : L ≤ 3072) (hl : 0 ≤ l3.toInt ∧ l3.toInt + 6 ≤ L) (hF1 : F + 2401800 ≤ 1999990000) (hB1 : B + 2400 ≤ 2147200000) (h : L7 F B s) (go : ∀ s', L7 (F + 2401800) (B + 2400) s' → Ok P (K s')) : Ok P (wt_ix (l3 + 1) L fun k1 => (wt_ix (l3 + 2) L fun k2 => (wt_ix (l3 + 3) L fun k3 => (wt_ix (l3 + 4) L fun k4 => (wt_ix (l3 + 5) L fun k5 => (wt_cl (gX10_line s (s 0 k1) (s 0 k2) (s 0 k3) (s 0 k4) (s 0 k5)) fun v s1 => (wt_ix (l3 + 1) L fun m1 => (wt_ix (l3 + 2) L fun m2 => (wt_ix (l3 + 3) L fun m3 => (wt_ix (l3 + 4) L fun m4 => (wt_ix (l3 + 5) L fun m5 => (wt_cl (gX11_line s1 (s1 0 m1) (s1 0 m2) (s1 0 m3) (s1 0 m4) (s1 0 m5)) fun w s2 => K s2)))))))))))) := by
  have hF0 : F ≤ 1999990000 := Nat.le_trans (Nat.le_add_right _ _) hF1
  have hB0 : B ≤ 2147200000 := Nat.le_trans (Nat.le_add_right _ _) hB1
  obtain ⟨r, s1, r2, s2, e1, e2, e3, e4, e5⟩ := lo7_line (k := s 0 (l3.toInt.toNat + 1)) (a := s 0 (l3.toInt.toNat + 2)) (b := s 0 (l3.toInt.toNat + 3)) (c := s 0 (l3.toInt.toNat + 4)) (d := s 0 (l3.toInt.toNat + 5)) h hF0
  rw [ix_l1 hL hl, ix_l2 hL hl, ix_l3 hL hl, ix_l4 hL hl, ix_l5 hL hl, e1, cl_some, ix_l1 hL hl, ix_l2 hL hl, ix_l3 hL hl, ix_l4 hL hl, ix_l5 hL hl, e2, show gX11_line s1 (s 0 (l3.toInt.toNat + 1)) (s 0 (l3.toInt.toNat + 2)) (s 0 (l3.toInt.toNat + 3)) (s 0 (l3.toInt.toNat + 4)) (s 0 (l3.toInt.toNat + 5)) = some (r2, s2) from e3, cl_some]
  exact go s2 (e5.mono (Nat.le_add_right _ _) (Nat.le_add_right _ _))
theorem law7_o_start {L F B : Nat} {s : wt_S} {l3 : Int32} {P : Int32 → wt_S → Prop} {K : wt_S → Option (Int32 × wt_S)} (hL : L ≤ 3072) (hl : 0 ≤ l3.toInt ∧ l3.toInt + 6 ≤ L) (hF1 : F + 2401800 ≤ 1999990000) (hB1 : B + 2400 ≤ 2147200000) (h : L7 F B s) (go : ∀ s', L7 (F + 2401800) (B + 2400) s' → Ok P (K s')) : Ok P (wt_ix (l3 + 1) L fun k1 => (wt_ix (l3 + 2) L fun k2 => (wt_ix (l3 + 3) L fun k3 => (wt_ix (l3 + 4) L fun k4 => (wt_cl (gX10_start s (s 0 k1) (s 0 k2) (s 0 k3) (s 0 k4)) fun v s1 => (wt_ix (l3 + 1) L fun m1 => (wt_ix (l3 + 2) L fun m2 => (wt_ix (l3 + 3) L fun m3 => (wt_ix (l3 + 4) L fun m4 => (wt_cl (gX11_start s1 (s1 0 m1) (s1 0 m2) (s1 0 m3) (s1 0 m4)) fun w s2 => K s2)))))))))) := by
  have hF0 : F ≤ 1999990000 := Nat.le_trans (Nat.le_add_right _ _) hF1
  have hB0 : B ≤ 2147200000 := Nat.le_trans (Nat.le_add_right _ _) hB1
  obtain ⟨r, s1, r2, s2, e1, e2, e3, e4, e5⟩ := lo7_start (a := s 0 (l3.toInt.toNat + 1)) (b := s 0 (l3.toInt.toNat + 2)) (c := s 0 (l3.toInt.toNat + 3)) (d := s 0 (l3.toInt.toNat + 4)) h hF0 hB0
  rw [ix_l1 hL hl, ix_l2 hL hl, ix_l3 hL hl, ix_l4 hL hl, e1, cl_some, ix_l1 hL hl, ix_l2 hL hl, ix_l3 hL hl, ix_l4 hL hl, e2, show gX11_start s1 (s 0 (l3.toInt.toNat + 1)) (s 0 (l3.toInt.toNat + 2)) (s 0 (l3.toInt.toNat + 3)) (s 0 (l3.toInt.toNat + 4)) = some (r2, s2) from e3, cl_some]
  exact go s2 (e5.mono (Nat.add_le_add_left (by decide) _) (Nat.add_le_add_left (by decide) _))
theorem law7_o_step {L F B : Nat} {s : wt_S} {l3 : Int32} {P : Int32 → wt_S → Prop} {K : wt_S → Option (Int32 × wt_S)} (hL : L ≤ 3072) (hl : 0 ≤ l3.toInt ∧ l3.toInt + 6 ≤ L) (hF1 : F + 2401800 ≤ 1999990000) (hB1 : B + 2400 ≤ 2147200000) (h : L7 F B s) (go : ∀ s', L7 (F + 2401800) (B + 2400) s' → Ok P (K s')) : Ok P (wt_ix (l3 + 1) L fun k1 => (wt_ix (l3 + 2) L fun k2 => (wt_cl (gX10_step s (s 0 k1) (s 0 k2)) fun v s1 => (wt_ix (l3 + 1) L fun m1 => (wt_ix (l3 + 2) L fun m2 => (wt_cl (gX11_step s1 (s1 0 m1) (s1 0 m2)) fun w s2 => K s2)))))) := by
  have hF0 : F ≤ 1999990000 := Nat.le_trans (Nat.le_add_right _ _) hF1
  have hB0 : B ≤ 2147200000 := Nat.le_trans (Nat.le_add_right _ _) hB1
  obtain ⟨r, s1, r2, s2, e1, e2, e3, e4, e5⟩ := lo7_step (a := s 0 (l3.toInt.toNat + 1)) (b := s 0 (l3.toInt.toNat + 2)) h (Nat.le_trans (Nat.add_le_add_left (by decide) F) hF1) hB0
  rw [ix_l1 hL hl, ix_l2 hL hl, e1, cl_some, ix_l1 hL hl, ix_l2 hL hl, e2, show gX11_step s1 (s 0 (l3.toInt.toNat + 1)) (s 0 (l3.toInt.toNat + 2)) = some (r2, s2) from e3, cl_some]
  exact go s2 (e5.mono (Nat.add_le_add_left (by decide) _) (Nat.add_le_add_left (by decide) _))
theorem law7_o_round {L F B : Nat} {s : wt_S} {l3 : Int32} {P : Int32 → wt_S → Prop} {K : wt_S → Option (Int32 × wt_S)} (hL : L ≤ 3072) (hl : 0 ≤ l3.toInt ∧ l3.toInt + 6 ≤ L) (hF1 : F + 2401800 ≤ 1999990000) (hB1 : B + 2400 ≤ 2147200000) (h : L7 F B s) (go : ∀ s', L7 (F + 2401800) (B + 2400) s' → Ok P (K s')) : Ok P (wt_ix (l3 + 1) L fun k1 => (wt_cl (gX10_round s (s 0 k1)) fun v s1 => (wt_ix (l3 + 1) L fun m1 => (wt_cl (gX11_round s1 (s1 0 m1)) fun w s2 => K s2)))) := by
  have hF0 : F ≤ 1999990000 := Nat.le_trans (Nat.le_add_right _ _) hF1
  have hB0 : B ≤ 2147200000 := Nat.le_trans (Nat.le_add_right _ _) hB1
  obtain ⟨r, s1, r2, s2, e1, e2, e3, e4, e5⟩ := lo7_round (a := s 0 (l3.toInt.toNat + 1)) h hF1 hB0
  rw [ix_l1 hL hl, e1, cl_some, ix_l1 hL hl, e2, show gX11_round s1 (s 0 (l3.toInt.toNat + 1)) = some (r2, s2) from e3, cl_some]
  exact go s2 (e5.mono (Nat.le_refl _) (Nat.le_refl _))
theorem law7_o_stop {L F B : Nat} {s : wt_S} {l3 : Int32} {P : Int32 → wt_S → Prop} {K : wt_S → Option (Int32 × wt_S)} (hL : L ≤ 3072) (hl : 0 ≤ l3.toInt ∧ l3.toInt + 6 ≤ L) (hF1 : F + 2401800 ≤ 1999990000) (hB1 : B + 2400 ≤ 2147200000) (h : L7 F B s) (go : ∀ s', L7 (F + 2401800) (B + 2400) s' → Ok P (K s')) : Ok P (wt_ix (l3 + 1) L fun k1 => (wt_cl (gX10_stop s (s 0 k1)) fun v s1 => (wt_ix (l3 + 1) L fun m1 => (wt_cl (gX11_stop s1 (s1 0 m1)) fun w s2 => K s2)))) := by
  have hF0 : F ≤ 1999990000 := Nat.le_trans (Nat.le_add_right _ _) hF1
  have hB0 : B ≤ 2147200000 := Nat.le_trans (Nat.le_add_right _ _) hB1
  obtain ⟨r, s1, r2, s2, e1, e2, e3, e4, e5⟩ := lo7_stop (a := s 0 (l3.toInt.toNat + 1)) h hF0
  rw [ix_l1 hL hl, e1, cl_some, ix_l1 hL hl, e2, show gX11_stop s1 (s 0 (l3.toInt.toNat + 1)) = some (r2, s2) from e3, cl_some]
  exact go s2 (e5.mono (Nat.le_add_right _ _) (Nat.le_add_right _ _))
theorem law7_o_quiet {L F B : Nat} {s : wt_S} {l3 : Int32} {P : Int32 → wt_S → Prop} {K : wt_S → Option (Int32 × wt_S)} (hL : L ≤ 3072) (hl : 0 ≤ l3.toInt ∧ l3.toInt + 6 ≤ L) (hF1 : F + 2401800 ≤ 1999990000) (hB1 : B + 2400 ≤ 2147200000) (h : L7 F B s) (go : ∀ s', L7 (F + 2401800) (B + 2400) s' → Ok P (K s')) : Ok P (wt_ix (l3 + 1) L fun k1 => (wt_cl (gX10_quiet s (s 0 k1)) fun v s1 => (wt_ix (l3 + 1) L fun m1 => (wt_cl (gX11_quiet s1 (s1 0 m1)) fun w s2 => K s2)))) := by
  have hF0 : F ≤ 1999990000 := Nat.le_trans (Nat.le_add_right _ _) hF1
  have hB0 : B ≤ 2147200000 := Nat.le_trans (Nat.le_add_right _ _) hB1
  obtain ⟨r, s1, r2, s2, e1, e2, e3, e4, e5⟩ := lo7_quiet (a := s 0 (l3.toInt.toNat + 1)) h hF0 hB0
  rw [ix_l1 hL hl, e1, cl_some, ix_l1 hL hl, e2, show gX11_quiet s1 (s 0 (l3.toInt.toNat + 1)) = some (r2, s2) from e3, cl_some]
  exact go s2 (e5.mono (Nat.le_add_right _ _) (Nat.add_le_add_left (by decide) _))
theorem law7_o_join {L F B : Nat} {s : wt_S} {l3 : Int32} {P : Int32 → wt_S → Prop} {K : wt_S → Option (Int32 × wt_S)} (hL : L ≤ 3072) (hl : 0 ≤ l3.toInt ∧ l3.toInt + 6 ≤ L) (hF1 : F + 2401800 ≤ 1999990000) (hB1 : B + 2400 ≤ 2147200000) (h : L7 F B s) (go : ∀ s', L7 (F + 2401800) (B + 2400) s' → Ok P (K s')) : Ok P (wt_ix (l3 + 1) L fun k1 => (wt_cl (gX10_join s (s 0 k1)) fun v s1 => (wt_ix (l3 + 1) L fun m1 => (wt_cl (gX11_join s1 (s1 0 m1)) fun w s2 => K s2)))) := by
  have hF0 : F ≤ 1999990000 := Nat.le_trans (Nat.le_add_right _ _) hF1
  have hB0 : B ≤ 2147200000 := Nat.le_trans (Nat.le_add_right _ _) hB1
  obtain ⟨r, s1, r2, s2, e1, e2, e3, e4, e5⟩ := lo7_join (a := s 0 (l3.toInt.toNat + 1)) h hF0 hB0
  rw [ix_l1 hL hl, e1, cl_some, ix_l1 hL hl, e2, show gX11_join s1 (s 0 (l3.toInt.toNat + 1)) = some (r2, s2) from e3, cl_some]
  exact go s2 (e5.mono (Nat.le_add_right _ _) (Nat.add_le_add_left (by decide) _))
theorem law7_o_compact {L F B : Nat} {s : wt_S} {l3 : Int32} {P : Int32 → wt_S → Prop} {K : wt_S → Option (Int32 × wt_S)} (hL : L ≤ 3072) (hl : 0 ≤ l3.toInt ∧ l3.toInt + 6 ≤ L) (hF1 : F + 2401800 ≤ 1999990000) (hB1 : B + 2400 ≤ 2147200000) (h : L7 F B s) (go : ∀ s', L7 (F + 2401800) (B + 2400) s' → Ok P (K s')) : Ok P (wt_cl (gX10_compact s) fun v s1 => (wt_cl (gX11_compact s1) fun w s2 => K s2)) := by
  have hF0 : F ≤ 1999990000 := Nat.le_trans (Nat.le_add_right _ _) hF1
  have hB0 : B ≤ 2147200000 := Nat.le_trans (Nat.le_add_right _ _) hB1
  obtain ⟨r, s1, r2, s2, e1, e2, e3, e4, e5⟩ := lo7_compact  h hF0 hB0
  rw [e1, cl_some, show gX11_compact s1 = some (r2, s2) from e3, cl_some]
  exact go s2 (e5.mono (Nat.le_add_right _ _) (Nat.add_le_add_left (by decide) _))
theorem law7_o_deep {L F B : Nat} {s : wt_S} {l3 : Int32} {P : Int32 → wt_S → Prop} {K : wt_S → Option (Int32 × wt_S)} (hL : L ≤ 3072) (hl : 0 ≤ l3.toInt ∧ l3.toInt + 6 ≤ L) (hF1 : F + 2401800 ≤ 1999990000) (hB1 : B + 2400 ≤ 2147200000) (h : L7 F B s) (go : ∀ s', L7 (F + 2401800) (B + 2400) s' → Ok P (K s')) : Ok P (wt_ix (l3 + 1) L fun k1 => (wt_cl (gX10_deep s (s 0 k1)) fun v s1 => (wt_ix (l3 + 1) L fun m1 => (wt_cl (gX11_deep s1 (s1 0 m1)) fun w s2 => K s2)))) := by
  have hF0 : F ≤ 1999990000 := Nat.le_trans (Nat.le_add_right _ _) hF1
  have hB0 : B ≤ 2147200000 := Nat.le_trans (Nat.le_add_right _ _) hB1
  obtain ⟨r, s1, r2, s2, e1, e2, e3, e4, e5⟩ := lo7_deep (a := s 0 (l3.toInt.toNat + 1)) h hF0
  rw [ix_l1 hL hl, e1, cl_some, ix_l1 hL hl, e2, show gX11_deep s1 (s 0 (l3.toInt.toNat + 1)) = some (r2, s2) from e3, cl_some]
  exact go s2 (e5.mono (Nat.le_add_right _ _) (Nat.le_add_right _ _))
theorem law7_o_need {L F B : Nat} {s : wt_S} {l3 : Int32} {P : Int32 → wt_S → Prop} {K : wt_S → Option (Int32 × wt_S)} (hL : L ≤ 3072) (hl : 0 ≤ l3.toInt ∧ l3.toInt + 6 ≤ L) (hF1 : F + 2401800 ≤ 1999990000) (hB1 : B + 2400 ≤ 2147200000) (h : L7 F B s) (go : ∀ s', L7 (F + 2401800) (B + 2400) s' → Ok P (K s')) : Ok P (wt_ix (l3 + 1) L fun k1 => (wt_cl (gX10_need s (s 0 k1)) fun v s1 => (wt_ix (l3 + 1) L fun m1 => (wt_cl (gX11_need s1 (s1 0 m1)) fun w s2 => K s2)))) := by
  have hF0 : F ≤ 1999990000 := Nat.le_trans (Nat.le_add_right _ _) hF1
  have hB0 : B ≤ 2147200000 := Nat.le_trans (Nat.le_add_right _ _) hB1
  obtain ⟨r, s1, r2, s2, e1, e2, e3, e4, e5⟩ := lo7_need (a := s 0 (l3.toInt.toNat + 1)) h hF0
  rw [ix_l1 hL hl, e1, cl_some, ix_l1 hL hl, e2, show gX11_need s1 (s 0 (l3.toInt.toNat + 1)) = some (r2, s2) from e3, cl_some]
  exact go s2 (e5.mono (Nat.le_add_right _ _) (Nat.le_add_right _ _))
theorem law7_o_task {L F B : Nat} {s : wt_S} {l3 : Int32} {P : Int32 → wt_S → Prop} {K : wt_S → Option (Int32 × wt_S)} (hL : L ≤ 3072) (hl : 0 ≤ l3.toInt ∧ l3.toInt + 6 ≤ L) (hF1 : F + 2401800 ≤ 1999990000) (hB1 : B + 2400 ≤ 2147200000) (h : L7 F B s) (go : ∀ s', L7 (F + 2401800) (B + 2400) s' → Ok P (K s')) : Ok P (wt_ix (l3 + 1) L fun k1 => (wt_ix (l3 + 2) L fun k2 => (wt_cl (gX10_task s (s 0 k1) (s 0 k2)) fun v s1 => (wt_ix (l3 + 1) L fun m1 => (wt_ix (l3 + 2) L fun m2 => (wt_cl (gX11_task s1 (s1 0 m1) (s1 0 m2)) fun w s2 => K s2)))))) := by
  have hF0 : F ≤ 1999990000 := Nat.le_trans (Nat.le_add_right _ _) hF1
  have hB0 : B ≤ 2147200000 := Nat.le_trans (Nat.le_add_right _ _) hB1
  obtain ⟨r, s1, r2, s2, e1, e2, e3, e4, e5⟩ := lo7_task (a := s 0 (l3.toInt.toNat + 1)) (b := s 0 (l3.toInt.toNat + 2)) h hF0
  rw [ix_l1 hL hl, ix_l2 hL hl, e1, cl_some, ix_l1 hL hl, ix_l2 hL hl, e2, show gX11_task s1 (s 0 (l3.toInt.toNat + 1)) (s 0 (l3.toInt.toNat + 2)) = some (r2, s2) from e3, cl_some]
  exact go s2 (e5.mono (Nat.le_add_right _ _) (Nat.le_add_right _ _))
theorem law7_o_frame {L F B : Nat} {s : wt_S} {l3 : Int32} {P : Int32 → wt_S → Prop} {K : wt_S → Option (Int32 × wt_S)} (hL : L ≤ 3072) (hl : 0 ≤ l3.toInt ∧ l3.toInt + 6 ≤ L) (hF1 : F + 2401800 ≤ 1999990000) (hB1 : B + 2400 ≤ 2147200000) (h : L7 F B s) (go : ∀ s', L7 (F + 2401800) (B + 2400) s' → Ok P (K s')) : Ok P (wt_ix (l3 + 1) L fun k1 => (wt_ix (l3 + 2) L fun k2 => (wt_ix (l3 + 3) L fun k3 => (wt_cl (gX10_frame s (s 0 k1) (s 0 k2) (s 0 k3)) fun v s1 => (wt_ix (l3 + 1) L fun m1 => (wt_ix (l3 + 2) L fun m2 => (wt_ix (l3 + 3) L fun m3 => (wt_cl (gX11_frame s1 (s1 0 m1) (s1 0 m2) (s1 0 m3)) fun w s2 => K s2)))))))) := by
  have hF0 : F ≤ 1999990000 := Nat.le_trans (Nat.le_add_right _ _) hF1
  have hB0 : B ≤ 2147200000 := Nat.le_trans (Nat.le_add_right _ _) hB1
  obtain ⟨r, s1, r2, s2, e1, e2, e3, e4, e5⟩ := lo7_frame (a := s 0 (l3.toInt.toNat + 1)) (b := s 0 (l3.toInt.toNat + 2)) (c := s 0 (l3.toInt.toNat + 3)) h hF0
  rw [ix_l1 hL hl, ix_l2 hL hl, ix_l3 hL hl, e1, cl_some, ix_l1 hL hl, ix_l2 hL hl, ix_l3 hL hl, e2, show gX11_frame s1 (s 0 (l3.toInt.toNat + 1)) (s 0 (l3.toInt.toNat + 2)) (s 0 (l3.toInt.toNat + 3)) = some (r2, s2) from e3, cl_some]
  exact go s2 (e5.mono (Nat.le_add_right _ _) (Nat.le_add_right _ _))
theorem law7_o_slot {L F B : Nat} {s : wt_S} {l3 : Int32} {P : Int32 → wt_S → Prop} {K : wt_S → Option (Int32 × wt_S)} (hL : L ≤ 3072) (hl : 0 ≤ l3.toInt ∧ l3.toInt + 6 ≤ L) (hF1 : F + 2401800 ≤ 1999990000) (hB1 : B + 2400 ≤ 2147200000) (h : L7 F B s) (go : ∀ s', L7 (F + 2401800) (B + 2400) s' → Ok P (K s')) : Ok P (wt_ix (l3 + 1) L fun k1 => (wt_ix (l3 + 2) L fun k2 => (wt_ix (l3 + 3) L fun k3 => (wt_ix (l3 + 4) L fun k4 => (wt_cl (gX10_slot s (s 0 k1) (s 0 k2) (s 0 k3) (s 0 k4)) fun v s1 => (wt_ix (l3 + 1) L fun m1 => (wt_ix (l3 + 2) L fun m2 => (wt_ix (l3 + 3) L fun m3 => (wt_ix (l3 + 4) L fun m4 => (wt_cl (gX11_slot s1 (s1 0 m1) (s1 0 m2) (s1 0 m3) (s1 0 m4)) fun w s2 => K s2)))))))))) := by
  have hF0 : F ≤ 1999990000 := Nat.le_trans (Nat.le_add_right _ _) hF1
  have hB0 : B ≤ 2147200000 := Nat.le_trans (Nat.le_add_right _ _) hB1
  obtain ⟨r, s1, r2, s2, e1, e2, e3, e4, e5⟩ := lo7_slot (a := s 0 (l3.toInt.toNat + 1)) (b := s 0 (l3.toInt.toNat + 2)) (c := s 0 (l3.toInt.toNat + 3)) (d := s 0 (l3.toInt.toNat + 4)) h hF0
  rw [ix_l1 hL hl, ix_l2 hL hl, ix_l3 hL hl, ix_l4 hL hl, e1, cl_some, ix_l1 hL hl, ix_l2 hL hl, ix_l3 hL hl, ix_l4 hL hl, e2, show gX11_slot s1 (s 0 (l3.toInt.toNat + 1)) (s 0 (l3.toInt.toNat + 2)) (s 0 (l3.toInt.toNat + 3)) (s 0 (l3.toInt.toNat + 4)) = some (r2, s2) from e3, cl_some]
  exact go s2 (e5.mono (Nat.le_add_right _ _) (Nat.le_add_right _ _))
theorem law7_o_piece {L F B : Nat} {s : wt_S} {l3 : Int32} {P : Int32 → wt_S → Prop} {K : wt_S → Option (Int32 × wt_S)} (hL : L ≤ 3072) (hl : 0 ≤ l3.toInt ∧ l3.toInt + 6 ≤ L) (hF1 : F + 2401800 ≤ 1999990000) (hB1 : B + 2400 ≤ 2147200000) (h : L7 F B s) (go : ∀ s', L7 (F + 2401800) (B + 2400) s' → Ok P (K s')) : Ok P (wt_ix (l3 + 1) L fun k1 => (wt_ix (l3 + 2) L fun k2 => (wt_ix (l3 + 3) L fun k3 => (wt_cl (gX10_piece s (s 0 k1) (s 0 k2) (s 0 k3)) fun v s1 => (wt_ix (l3 + 1) L fun m1 => (wt_ix (l3 + 2) L fun m2 => (wt_ix (l3 + 3) L fun m3 => (wt_cl (gX11_piece s1 (s1 0 m1) (s1 0 m2) (s1 0 m3)) fun w s2 => K s2)))))))) := by
  have hF0 : F ≤ 1999990000 := Nat.le_trans (Nat.le_add_right _ _) hF1
  have hB0 : B ≤ 2147200000 := Nat.le_trans (Nat.le_add_right _ _) hB1
  obtain ⟨r, s1, r2, s2, e1, e2, e3, e4, e5⟩ := lo7_piece (a := s 0 (l3.toInt.toNat + 1)) (b := s 0 (l3.toInt.toNat + 2)) (c := s 0 (l3.toInt.toNat + 3)) h hF0
  rw [ix_l1 hL hl, ix_l2 hL hl, ix_l3 hL hl, e1, cl_some, ix_l1 hL hl, ix_l2 hL hl, ix_l3 hL hl, e2, show gX11_piece s1 (s 0 (l3.toInt.toNat + 1)) (s 0 (l3.toInt.toNat + 2)) (s 0 (l3.toInt.toNat + 3)) = some (r2, s2) from e3, cl_some]
  exact go s2 (e5.mono (Nat.le_add_right _ _) (Nat.le_add_right _ _))
theorem law7_o_gap {L F B : Nat} {s : wt_S} {l3 : Int32} {P : Int32 → wt_S → Prop} {K : wt_S → Option (Int32 × wt_S)} (hL : L ≤ 3072) (hl : 0 ≤ l3.toInt ∧ l3.toInt + 6 ≤ L) (hF1 : F + 2401800 ≤ 1999990000) (hB1 : B + 2400 ≤ 2147200000) (h : L7 F B s) (go : ∀ s', L7 (F + 2401800) (B + 2400) s' → Ok P (K s')) : Ok P (wt_ix (l3 + 1) L fun k1 => (wt_ix (l3 + 2) L fun k2 => (wt_cl (gX10_gap s (s 0 k1) (s 0 k2)) fun v s1 => (wt_ix (l3 + 1) L fun m1 => (wt_ix (l3 + 2) L fun m2 => (wt_cl (gX11_gap s1 (s1 0 m1) (s1 0 m2)) fun w s2 => K s2)))))) := by
  have hF0 : F ≤ 1999990000 := Nat.le_trans (Nat.le_add_right _ _) hF1
  have hB0 : B ≤ 2147200000 := Nat.le_trans (Nat.le_add_right _ _) hB1
  obtain ⟨r, s1, r2, s2, e1, e2, e3, e4, e5⟩ := lo7_gap (a := s 0 (l3.toInt.toNat + 1)) (b := s 0 (l3.toInt.toNat + 2)) h hF0
  rw [ix_l1 hL hl, ix_l2 hL hl, e1, cl_some, ix_l1 hL hl, ix_l2 hL hl, e2, show gX11_gap s1 (s 0 (l3.toInt.toNat + 1)) (s 0 (l3.toInt.toNat + 2)) = some (r2, s2) from e3, cl_some]
  exact go s2 (e5.mono (Nat.le_add_right _ _) (Nat.le_add_right _ _))
theorem law7_o_endless {L F B : Nat} {s : wt_S} {l3 : Int32} {P : Int32 → wt_S → Prop} {K : wt_S → Option (Int32 × wt_S)} (hL : L ≤ 3072) (hl : 0 ≤ l3.toInt ∧ l3.toInt + 6 ≤ L) (hF1 : F + 2401800 ≤ 1999990000) (hB1 : B + 2400 ≤ 2147200000) (h : L7 F B s) (go : ∀ s', L7 (F + 2401800) (B + 2400) s' → Ok P (K s')) : Ok P (wt_ix (l3 + 1) L fun k1 => (wt_ix (l3 + 2) L fun k2 => (wt_ix (l3 + 3) L fun k3 => (wt_cl (gX10_endless s (s 0 k1) (s 0 k2) (s 0 k3)) fun v s1 => (wt_ix (l3 + 1) L fun m1 => (wt_ix (l3 + 2) L fun m2 => (wt_ix (l3 + 3) L fun m3 => (wt_cl (gX11_endless s1 (s1 0 m1) (s1 0 m2) (s1 0 m3)) fun w s2 => K s2)))))))) := by
  have hF0 : F ≤ 1999990000 := Nat.le_trans (Nat.le_add_right _ _) hF1
  have hB0 : B ≤ 2147200000 := Nat.le_trans (Nat.le_add_right _ _) hB1
  obtain ⟨r, s1, r2, s2, e1, e2, e3, e4, e5⟩ := lo7_endless (a := s 0 (l3.toInt.toNat + 1)) (b := s 0 (l3.toInt.toNat + 2)) (c := s 0 (l3.toInt.toNat + 3)) h (Nat.le_trans (Nat.add_le_add_left (by decide) F) hF1)
  rw [ix_l1 hL hl, ix_l2 hL hl, ix_l3 hL hl, e1, cl_some, ix_l1 hL hl, ix_l2 hL hl, ix_l3 hL hl, e2, show gX11_endless s1 (s 0 (l3.toInt.toNat + 1)) (s 0 (l3.toInt.toNat + 2)) (s 0 (l3.toInt.toNat + 3)) = some (r2, s2) from e3, cl_some]
  exact go s2 (e5.mono (Nat.add_le_add_left (by decide) _) (Nat.le_add_right _ _))
theorem law7_o_land {L F B : Nat} {s : wt_S} {l3 : Int32} {P : Int32 → wt_S → Prop} {K : wt_S → Option (Int32 × wt_S)} (hL : L ≤ 3072) (hl : 0 ≤ l3.toInt ∧ l3.toInt + 6 ≤ L) (hF1 : F + 2401800 ≤ 1999990000) (hB1 : B + 2400 ≤ 2147200000) (h : L7 F B s) (go : ∀ s', L7 (F + 2401800) (B + 2400) s' → Ok P (K s')) : Ok P (wt_ix (l3 + 1) L fun k1 => (wt_ix (l3 + 2) L fun k2 => (wt_ix (l3 + 3) L fun k3 => (wt_cl (gX10_land s (s 0 k1) (s 0 k2) (s 0 k3)) fun v s1 => (wt_ix (l3 + 1) L fun m1 => (wt_ix (l3 + 2) L fun m2 => (wt_ix (l3 + 3) L fun m3 => (wt_cl (gX11_land s1 (s1 0 m1) (s1 0 m2) (s1 0 m3)) fun w s2 => K s2)))))))) := by
  have hF0 : F ≤ 1999990000 := Nat.le_trans (Nat.le_add_right _ _) hF1
  have hB0 : B ≤ 2147200000 := Nat.le_trans (Nat.le_add_right _ _) hB1
  obtain ⟨r, s1, r2, s2, e1, e2, e3, e4, e5⟩ := lo7_land (a := s 0 (l3.toInt.toNat + 1)) (b := s 0 (l3.toInt.toNat + 2)) (c := s 0 (l3.toInt.toNat + 3)) h (Nat.le_trans (Nat.add_le_add_left (by decide) F) hF1) hB0
  rw [ix_l1 hL hl, ix_l2 hL hl, ix_l3 hL hl, e1, cl_some, ix_l1 hL hl, ix_l2 hL hl, ix_l3 hL hl, e2, show gX11_land s1 (s 0 (l3.toInt.toNat + 1)) (s 0 (l3.toInt.toNat + 2)) (s 0 (l3.toInt.toNat + 3)) = some (r2, s2) from e3, cl_some]
  exact go s2 (e5.mono (Nat.add_le_add_left (by decide) _) (Nat.le_add_right _ _))
theorem law7_e_alone {L F B : Nat} {s : wt_S} {l3 : Int32} {P : Int32 → wt_S → Prop} {K : wt_S → Option (Int32 × wt_S)} (hL : L ≤ 3072) (hl : 0 ≤ l3.toInt ∧ l3.toInt + 6 ≤ L) (hF1 : F + 2401800 ≤ 1999990000) (hB1 : B + 2400 ≤ 2147200000) (h : L7 F B s) (go : ∀ s', L7 (F + 2401800) (B + 2400) s' → Ok P (K s')) : Ok P (wt_ix (l3 + 1) L fun k1 => (wt_ix (l3 + 2) L fun k2 => (wt_ix (l3 + 3) L fun k3 => (wt_ix (l3 + 4) L fun k4 => (wt_cl (gX10_alone s (s 0 k1) (s 0 k2) (s 0 k3) (s 0 k4)) fun v s1 => (wt_ix (l3 + 1) L fun m1 => (wt_ix (l3 + 2) L fun m2 => (wt_ix (l3 + 3) L fun m3 => (wt_ix (l3 + 4) L fun m4 => (wt_cl (gX11_alone s1 (s1 0 m1) (s1 0 m2) (s1 0 m3) (s1 0 m4)) fun w s2 => (if v = w then K s2 else some (0, s2)))))))))))) := by
  have hF0 : F ≤ 1999990000 := Nat.le_trans (Nat.le_add_right _ _) hF1
  have hB0 : B ≤ 2147200000 := Nat.le_trans (Nat.le_add_right _ _) hB1
  obtain ⟨r, s1, r2, s2, e1, e2, e3, e4, e5⟩ := lo7_alone (a := s 0 (l3.toInt.toNat + 1)) (b := s 0 (l3.toInt.toNat + 2)) (c := s 0 (l3.toInt.toNat + 3)) (d := s 0 (l3.toInt.toNat + 4)) h (Nat.le_trans (Nat.add_le_add_left (by decide) F) hF1) hB0
  rw [ix_l1 hL hl, ix_l2 hL hl, ix_l3 hL hl, ix_l4 hL hl, e1, cl_some, ix_l1 hL hl, ix_l2 hL hl, ix_l3 hL hl, ix_l4 hL hl, e2, show gX11_alone s1 (s 0 (l3.toInt.toNat + 1)) (s 0 (l3.toInt.toNat + 2)) (s 0 (l3.toInt.toNat + 3)) (s 0 (l3.toInt.toNat + 4)) = some (r2, s2) from e3, cl_some, if_pos e4]
  exact go s2 (e5.mono (Nat.add_le_add_left (by decide) _) (Nat.le_add_right _ _))
theorem law7_o_log {L F B : Nat} {s : wt_S} {l3 : Int32} {P : Int32 → wt_S → Prop} {K : wt_S → Option (Int32 × wt_S)} (hL : L ≤ 3072) (hl : 0 ≤ l3.toInt ∧ l3.toInt + 6 ≤ L) (hF1 : F + 2401800 ≤ 1999990000) (hB1 : B + 2400 ≤ 2147200000) (h : L7 F B s) (go : ∀ s', L7 (F + 2401800) (B + 2400) s' → Ok P (K s')) : Ok P (wt_ix (l3 + 1) L fun k1 => (wt_ix (l3 + 2) L fun k2 => (wt_cl (gX10_log s (s 0 k1) (s 0 k2)) fun v s1 => (wt_ix (l3 + 1) L fun m1 => (wt_ix (l3 + 2) L fun m2 => (wt_cl (gX11_log s1 (s1 0 m1) (s1 0 m2)) fun w s2 => K s2)))))) := by
  have hF0 : F ≤ 1999990000 := Nat.le_trans (Nat.le_add_right _ _) hF1
  have hB0 : B ≤ 2147200000 := Nat.le_trans (Nat.le_add_right _ _) hB1
  obtain ⟨r, s1, r2, s2, e1, e2, e3, e4, e5⟩ := lo7_log (a := s 0 (l3.toInt.toNat + 1)) (b := s 0 (l3.toInt.toNat + 2)) h hB0
  rw [ix_l1 hL hl, ix_l2 hL hl, e1, cl_some, ix_l1 hL hl, ix_l2 hL hl, e2, show gX11_log s1 (s 0 (l3.toInt.toNat + 1)) (s 0 (l3.toInt.toNat + 2)) = some (r2, s2) from e3, cl_some]
  exact go s2 (e5.mono (Nat.le_add_right _ _) (Nat.le_add_right _ _))
theorem law7_o_never {L F B : Nat} {s : wt_S} {l3 : Int32} {P : Int32 → wt_S → Prop} {K : wt_S → Option (Int32 × wt_S)} (hL : L ≤ 3072) (hl : 0 ≤ l3.toInt ∧ l3.toInt + 6 ≤ L) (hF1 : F + 2401800 ≤ 1999990000) (hB1 : B + 2400 ≤ 2147200000) (h : L7 F B s) (go : ∀ s', L7 (F + 2401800) (B + 2400) s' → Ok P (K s')) : Ok P (wt_ix (l3 + 1) L fun k1 => (wt_cl (gX10_never s (s 0 k1)) fun v s1 => (wt_ix (l3 + 1) L fun m1 => (wt_cl (gX11_never s1 (s1 0 m1)) fun w s2 => K s2)))) := by
  have hF0 : F ≤ 1999990000 := Nat.le_trans (Nat.le_add_right _ _) hF1
  have hB0 : B ≤ 2147200000 := Nat.le_trans (Nat.le_add_right _ _) hB1
  obtain ⟨r, s1, r2, s2, e1, e2, e3, e4, e5⟩ := lo7_never (a := s 0 (l3.toInt.toNat + 1)) h hF0
  rw [ix_l1 hL hl, e1, cl_some, ix_l1 hL hl, e2, show gX11_never s1 (s 0 (l3.toInt.toNat + 1)) = some (r2, s2) from e3, cl_some]
  exact go s2 (e5.mono (Nat.le_add_right _ _) (Nat.le_add_right _ _))
theorem law7_o_count {L F B : Nat} {s : wt_S} {l3 : Int32} {P : Int32 → wt_S → Prop} {K : wt_S → Option (Int32 × wt_S)} (hL : L ≤ 3072) (hl : 0 ≤ l3.toInt ∧ l3.toInt + 6 ≤ L) (hF1 : F + 2401800 ≤ 1999990000) (hB1 : B + 2400 ≤ 2147200000) (h : L7 F B s) (go : ∀ s', L7 (F + 2401800) (B + 2400) s' → Ok P (K s')) : Ok P (wt_ix (l3 + 1) L fun k1 => (wt_cl (gX10_count s (s 0 k1)) fun v s1 => (wt_ix (l3 + 1) L fun m1 => (wt_cl (gX11_count s1 (s1 0 m1)) fun w s2 => K s2)))) := by
  have hF0 : F ≤ 1999990000 := Nat.le_trans (Nat.le_add_right _ _) hF1
  have hB0 : B ≤ 2147200000 := Nat.le_trans (Nat.le_add_right _ _) hB1
  obtain ⟨r, s1, r2, s2, e1, e2, e3, e4, e5⟩ := lo7_count (a := s 0 (l3.toInt.toNat + 1)) h hF0
  rw [ix_l1 hL hl, e1, cl_some, ix_l1 hL hl, e2, show gX11_count s1 (s 0 (l3.toInt.toNat + 1)) = some (r2, s2) from e3, cl_some]
  exact go s2 (e5.mono (Nat.le_add_right _ _) (Nat.le_add_right _ _))
theorem law7_o_look {L F B : Nat} {s : wt_S} {l3 : Int32} {P : Int32 → wt_S → Prop} {K : wt_S → Option (Int32 × wt_S)} (hL : L ≤ 3072) (hl : 0 ≤ l3.toInt ∧ l3.toInt + 6 ≤ L) (hF1 : F + 2401800 ≤ 1999990000) (hB1 : B + 2400 ≤ 2147200000) (h : L7 F B s) (go : ∀ s', L7 (F + 2401800) (B + 2400) s' → Ok P (K s')) : Ok P (wt_ix (l3 + 1) L fun k1 => (wt_cl (gX10_look s (s 0 k1)) fun v s1 => (wt_ix (l3 + 1) L fun m1 => (wt_cl (gX11_look s1 (s1 0 m1)) fun w s2 => K s2)))) := by
  have hF0 : F ≤ 1999990000 := Nat.le_trans (Nat.le_add_right _ _) hF1
  have hB0 : B ≤ 2147200000 := Nat.le_trans (Nat.le_add_right _ _) hB1
  obtain ⟨r, s1, r2, s2, e1, e2, e3, e4, e5⟩ := lo7_look (a := s 0 (l3.toInt.toNat + 1)) h hF0
  rw [ix_l1 hL hl, e1, cl_some, ix_l1 hL hl, e2, show gX11_look s1 (s 0 (l3.toInt.toNat + 1)) = some (r2, s2) from e3, cl_some]
  exact go s2 (e5.mono (Nat.le_add_right _ _) (Nat.le_add_right _ _))
end
