section
/-! ===== the class: what is thought changes nothing that is ===== -/
section
variable {B B' : Nat} {s s' : wt_S} {V V' : vV} {zs zs' : List (vP × Nat)} {fr fr' : List Nat} {t np f z : Nat} {x a what mode : Int32} {Z : (Nat → Int32) → Int32 → Int32 → Int32 → Bool}
/-- what endless answers -/
def vendl (Z : (Nat → Int32) → Int32 → Int32 → Int32 → Bool) (V : vV) (f a what : Int32) : Int32 := if tld V.1 f ∧ 0 ≤ what.toInt ∧ what.toInt ≤ 2 then (if (vET Z V.1 f.toInt.toNat a).1 3926 = 3 then (if what ≠ 0 then (if what ≠ 1 then (vET Z V.1 f.toInt.toNat a).1 4045 else (vET Z V.1 f.toInt.toNat a).1 3947) else (vET Z V.1 f.toInt.toNat a).1 3940) else -1000000000) else -1000000000
theorem c_endlessop {f : Int32} (h : NW B s V) : ∃ s', gX10_endless s f a what = some (vendl Z V f a what, s') ∧ NW B s' V ∧ ∀ c, c < 40 ∨ 68 < c → s' c = s c := by
  obtain ⟨⟨zs, fr, hR⟩, hI, hW, hK, hT⟩ := id h
  unfold gX10_endless gX10_endless_23
  rw [c_told hR.2.2.2.2.2, cl_some, if_rb]
  have q0 : (0 : Int32).toInt = 0 := by decide
  have q2 : (2 : Int32).toInt = 2 := by decide
  by_cases c1 : tld V.1 f
  · rw [if_pos c1, q0, q2]
    by_cases c2 : 0 ≤ what.toInt ∧ what.toInt ≤ 2
    · rw [if_neg (by omega), if_pos c2.2]
      unfold vendl
      rw [if_pos ⟨c1, c2⟩]
      obtain ⟨f', f1, rfl, f3, f4⟩ := tld_nat c1
      rw [f3]
      obtain ⟨s1, zs1, fr1, a1, a2, a3, a4⟩ := nw_think (a := a) (Z := Z) h f1 f4
      have e1 : s1 57 1 = (vET Z V.1 f' a).1 3926 := a4.at (t := 0) (by omega) (e := (1, 3926)) (by decide)
      have e3 : s1 57 3 = (vET Z V.1 f' a).1 3940 := a4.at (t := 0) (by omega) (e := (3, 3940)) (by decide)
      have e6 : s1 57 6 = (vET Z V.1 f' a).1 4045 := a4.at (t := 0) (by omega) (e := (6, 4045)) (by decide)
      have e2 : s1 58 2 = (vET Z V.1 f' a).1 3947 := a4.as (t := 0) (by omega) (e := (2, 3947)) (by decide)
      rw [a1, cl_some, if_pos rfl, e1, e3, e6, e2]
      refine ⟨s1, ?_, a2, a3⟩
      by_cases d1 : (vET Z V.1 f' a).1 3926 = 3
      · rw [if_pos d1, if_pos d1]
        by_cases d2 : what ≠ 0
        · rw [if_pos d2, if_pos d2]
          by_cases d3 : what ≠ 1
          · rw [if_pos d3, if_pos d3]
          · rw [if_neg d3, if_neg d3]
        · rw [if_neg d2, if_neg d2]
      · rw [if_neg d1, if_neg d1]
    · have hv : vendl Z V f a what = -1000000000 := by unfold vendl; rw [if_neg (fun e => c2 e.2)]
      rw [hv]
      refine ⟨s, ?_, h, fun _ _ => rfl⟩
      by_cases c3 : what.toInt < 0
      · rw [if_pos c3]
      · rw [if_neg c3, if_neg (by omega)]
  · have hv : vendl Z V f a what = -1000000000 := by unfold vendl; rw [if_neg (fun e => c1 e.1)]
    rw [hv, if_neg c1]
    exact ⟨s, rfl, h, fun _ _ => rfl⟩
/-- what land answers, where it stands at the end of it -/
def vland (W : vV) (t : Nat) (what : Int32) : Int32 := if what.toInt = 0 then W.1 (3926 + t) else if what.toInt = 1 then W.1 (3954 + t) else if what.toInt = 2 then W.1 (3961 + t) else if what.toInt = 3 then nI (vcw t W.2.1) else W.1 (4017 + t)
theorem c_84 (h : RC 40 2048 s V zs fr) (hI : VI 2048 B V) (ht : t < 6) (h4 : what.toInt ≤ 4) (h0 : 0 ≤ what.toInt) : gX10_land_84 s what (40 + 17 + 2 * t) = some (vland V t what, s) := by
  have hj := hI.J
  obtain ⟨np, n1, n2, n3⟩ := itp_of hI ht
  have e1 : s (40 + 17 + 2 * t) 1 = V.1 (3926 + t) := h.at ht (e := (1, 3926)) (by decide)
  have e4 : s (40 + 17 + 2 * t) 4 = V.1 (3954 + t) := h.at ht (e := (4, 3954)) (by decide)
  have e5 : s (40 + 17 + 2 * t) 5 = V.1 (3961 + t) := h.at ht (e := (5, 3961)) (by decide)
  have es : s (40 + 17 + 2 * t + 1) 5 = V.1 (4017 + t) := h.as ht (e := (5, 4017)) (by decide)
  unfold gX10_land_84 vland
  rw [e1, e4, e5, es, c_taskWords h.2.1 h.1 hj.2.2.1 n3 n2 (h.ch ht n1), cl_some]
  by_cases c3 : 3 < what.toInt
  · rw [if_pos (Or.inr c3), if_neg (by omega), if_neg (by omega), if_neg (by omega), if_neg (by omega)]
  · rw [if_neg (by omega)]
    by_cases d0 : what.toInt = 0
    · rw [if_pos d0, if_pos d0]
    rw [if_neg d0, if_neg d0]
    by_cases d1 : what.toInt = 1
    · rw [if_pos d1, if_pos d1]
    rw [if_neg d1, if_neg d1]
    by_cases d2 : what.toInt = 2
    · rw [if_pos d2, if_pos d2]
    rw [if_neg d2, if_neg d2, if_pos (by omega), if_pos (by omega)]
theorem c_55 {w : Int32} (ht : t < 6) : ∀ (m k fu B : Nat) (s : wt_S) (V : vV) (zs : List (vP × Nat)) (fr : List Nat), k + m ≤ 200 → m < fu → RC 40 2048 s V zs fr → VI 2048 B V → WL V t → ∃ s' zs' fr', gX10_land_55 fu s (nI (k + m)) w (40 + 17 + 2 * t) (nI k) = gX10_land_84 s' w (40 + 17 + 2 * t) ∧ RC 40 2048 s' (vrl 2048 Z t m V) zs' fr' ∧ VI 2048 (B + 4 * m) (vrl 2048 Z t m V) ∧ TO 40 t s s' := by
  have hx := cx40 (lim := 2048) (by omega)
  intro m
  induction m with
  | zero =>
    intro k fu B s V zs fr hk hfu h hI hW
    obtain ⟨fu, rfl⟩ : ∃ k, fu = k + 1 := ⟨fu - 1, by omega⟩
    refine ⟨s, zs, fr, ?_, h, hI, TO.refl⟩
    rw [gX10_land_55, if_pos (show (nI (k + 0)).toInt ≤ (nI k).toInt from Int.le_refl _)]
  | succ m ih =>
    intro k fu B s V zs fr hk hfu h hI hW
    obtain ⟨fu, rfl⟩ : ∃ k, fu = k + 1 := ⟨fu - 1, by omega⟩
    rw [gX10_land_55, if_neg (by rw [nI_int (by omega), nI_int (by omega)]; omega), c_on h ht, cl_some, if_rb, vrl]
    by_cases c : vby V t = true
    · rw [if_pos c, if_pos c]
      have hb := vby_iff.mp c
      obtain ⟨s1, zs1, fr1, a1, a2, a3⟩ := c_step (Z := Z) h hx hI ht hb hW
      obtain ⟨s', zs', fr', b1, b2, b3, b4⟩ := ih (k + 1) fu (B + 4) s1 (vst 2048 Z V t) zs1 fr1 (by omega) (by omega) a2 (vi_st hI ht hb hx.2.2) (wl_st hI ht hb hW hx.2.2)
      rw [a1, cl_some, show nI k + 1 = nI (k + 1) from nI_add k 1, show k + (m + 1) = k + 1 + m by omega]
      exact ⟨s', zs', fr', b1, b2, b3.mono (by omega), a3.trans b4⟩
    · rw [if_neg c, if_neg c]
      exact ⟨s, zs, fr, rfl, h, hI.mono (by omega), TO.refl⟩
def vlandop (Z : (Nat → Int32) → Int32 → Int32 → Int32 → Bool) (V : vV) (x n what : Int32) : Int32 := if (0 ≤ x.toInt ∧ x.toInt ≤ 5) ∧ (1 ≤ n.toInt ∧ n.toInt ≤ 200) ∧ 0 ≤ what.toInt ∧ what.toInt ≤ 4 then vland (vrl 2048 Z x.toInt.toNat n.toInt.toNat V) x.toInt.toNat what else -1
theorem c_landop {n : Int32} (h : NW B s V) : ∃ s', gX10_land s x n what = some (vlandop Z V x n what, s') ∧ NW B s' V ∧ ∀ c, c < 40 ∨ 68 < c → s' c = s c := by
  obtain ⟨⟨zs, fr, hR⟩, hI, hW, hK, hT⟩ := id h
  have q0 : (0 : Int32).toInt = 0 := by decide
  have q1 : (1 : Int32).toInt = 1 := by decide
  have q2 : (200 : Int32).toInt = 200 := by decide
  have q4 : (4 : Int32).toInt = 4 := by decide
  unfold gX10_land
  rw [c_isTask, cl_some, if_rb, q0, q1, q2, q4]
  by_cases c1 : 0 ≤ x.toInt ∧ x.toInt ≤ 5
  · rw [if_pos c1]
    by_cases c2 : 1 ≤ n.toInt ∧ n.toInt ≤ 200
    · rw [if_neg (by omega), if_neg (by omega)]
      by_cases c3 : 0 ≤ what.toInt ∧ what.toInt ≤ 4
      · have hv : vlandop Z V x n what = vland (vrl 2048 Z x.toInt.toNat n.toInt.toNat V) x.toInt.toNat what := by unfold vlandop; rw [if_pos ⟨c1, c2, c3⟩]
        rw [if_neg (by omega), if_pos c3.2, hv]
        obtain ⟨t, ht, rfl, etn⟩ := i_task c1
        obtain ⟨m, m1, rfl, m3, m4⟩ := i_nat (x := n) (by omega)
        obtain ⟨_, s1, e1, w1, f1, f2, f3⟩ := c_over (b := 40) (b2 := 11) (s := s) (Or.inr (Or.inr ⟨rfl, rfl⟩))
        have f1 : ∀ c, c ≤ 40 ∨ 40 + 28 < c → c ≠ 40 → s1 c = s c := f1
        have hR1 : RC 40 2048 s1 V zs fr := hR.wc (Nat.le_refl _) hI.J w1 (fun k hk => by rw [f3 k hk]; exact hT k hk) (hR.2.2.2.2.2.eq hI.J.1 vpe.refl (fun c c1 c2 => f1 c (by omega) (by omega)))
        obtain ⟨s2, zs2, fr2, b1, b2, b3, b4⟩ := c_55 (Z := Z) (w := what) ht m 0 wt_N B s1 V zs fr (by omega) (by unfold wt_N; omega) hR1 hI (hW t ht)
        rw [Nat.zero_add] at b1
        rw [e1, cl_some, ix_nI ht (by omega), show gX10_land_55 wt_N s1 (nI m) what (40 + 17 + 2 * t) 0 = _ from b1, c_84 b2 b3 ht c3.2 c3.1, etn, m3]
        have fs : ∀ c, c < 40 ∨ 68 < c → s2 c = s c := fun c hc => by rw [b4.2 c (by omega), f1 c (by omega) (by omega)]
        exact ⟨s2, rfl, ⟨⟨zs, fr, hR.eq cx11 (fun c _ _ _ _ hc => fs c (by omega))⟩, hI, hW, hK.nf (fun c hc => fs c (by omega)), fun k hk => (b2.2.2.2.1 k hk).1.1⟩, fs⟩
      · have hv : vlandop Z V x n what = -1 := by unfold vlandop; rw [if_neg (fun e => c3 e.2.2)]
        rw [hv]
        refine ⟨s, ?_, h, fun _ _ => rfl⟩
        by_cases c4 : what.toInt < 0
        · rw [if_pos c4]
        · rw [if_neg c4, if_neg (by omega)]
    · have hv : vlandop Z V x n what = -1 := by unfold vlandop; rw [if_neg (fun e => c2 e.2.1)]
      rw [hv]
      refine ⟨s, ?_, h, fun _ _ => rfl⟩
      by_cases c4 : n.toInt < 1
      · rw [if_pos c4]
      · rw [if_neg c4, if_pos (by omega)]
  · have hv : vlandop Z V x n what = -1 := by unfold vlandop; rw [if_neg (fun e => c1 e.1)]
    rw [hv, if_neg c1]
    exact ⟨s, rfl, h, fun _ _ => rfl⟩
/-- the most words that all pieces had -/
def vrx (lim : Nat) (Z : (Nat → Int32) → Int32 → Int32 → Int32 → Bool) (t : Nat) : Nat → vV → Nat → Nat
  | 0, _, m => m
  | n + 1, V, m => if vby V t then vrx lim Z t n (vst lim Z V t) (if m < vall (vst lim Z V t).2.1 then vall (vst lim Z V t).2.1 else m) else m
theorem vall_lim {lim : Nat} (hI : VI lim B V) : vall V.2.1 ≤ lim := by
  have := vall_le (a := 0) hI.J.2.1 (fun _ _ => Nat.zero_le _) (Nat.zero_le _)
  omega
theorem c_81 : ∀ (m k fu B mx : Nat) (s : wt_S) (V : vV) (zs : List (vP × Nat)) (fr : List Nat), k + m = 2000 → m < fu → mx ≤ 2048 → RC 40 2048 s V zs fr → VI 2048 B V → WL V 0 → ∃ s' zs' fr', gX10_thinkAlone_81 fu s (40 + 17 + 2 * 0) (nI mx) (nI k) = some (nI (vrx 2048 Z 0 m V mx), s') ∧ RC 40 2048 s' (vrl 2048 Z 0 m V) zs' fr' ∧ VI 2048 (B + 4 * m) (vrl 2048 Z 0 m V) ∧ TO 40 0 s s' := by
  have hx := cx40 (lim := 2048) (by omega)
  intro m
  induction m with
  | zero =>
    intro k fu B mx s V zs fr hk hfu hmx h hI hW
    obtain ⟨fu, rfl⟩ : ∃ k, fu = k + 1 := ⟨fu - 1, by omega⟩
    refine ⟨s, zs, fr, ?_, h, hI, TO.refl⟩
    rw [gX10_thinkAlone_81, if_pos (by rw [nI_int (by omega)]; show (2000 : Int) ≤ _; omega)]
    rfl
  | succ m ih =>
    intro k fu B mx s V zs fr hk hfu hmx h hI hW
    obtain ⟨fu, rfl⟩ : ∃ k, fu = k + 1 := ⟨fu - 1, by omega⟩
    rw [gX10_thinkAlone_81, if_neg (by rw [nI_int (by omega)]; show ¬ (2000 : Int) ≤ _; omega), c_on h (by omega), cl_some, if_rb, vrl, vrx]
    by_cases c : vby V 0 = true
    · rw [if_pos c, if_pos c, if_pos c]
      have hb := vby_iff.mp c
      obtain ⟨s1, zs1, fr1, a1, a2, a3⟩ := c_step (Z := Z) h hx hI (by omega) hb hW
      have hI1 := vi_st (Z := Z) hI (by omega) hb hx.2.2
      have hv := vall_lim hI1
      have e8 : s1 42 8 = nI (vall (vst 2048 Z V 0).2.1) := by rw [← a2.1]; exact a2.2.1.2.1
      generalize hA : vall (vst 2048 Z V 0).2.1 = A at *
      have hmax : gJ9_max_7cf53 s1 (nI mx) (nI A) = some (nI (if mx < A then A else mx), s1) := by
        unfold gJ9_max_7cf53
        rw [nI_int (by omega), nI_int (by omega)]
        by_cases d : mx < A
        · rw [if_pos (by omega), if_pos d]
        · rw [if_neg (by omega), if_neg d]
      obtain ⟨s', zs', fr', b1, b2, b3, b4⟩ := ih (k + 1) fu (B + 4) (if mx < A then A else mx) s1 (vst 2048 Z V 0) zs1 fr1 (by omega) (by omega) (by by_cases d : mx < A; rw [if_pos d]; exact hv; rw [if_neg d]; exact hmx) a2 hI1 (wl_st hI (by omega) hb hW hx.2.2)
      rw [a1, cl_some, e8, hmax, cl_some, show nI k + 1 = nI (k + 1) from nI_add k 1]
      exact ⟨s', zs', fr', b1, b2, b3.mono (by omega), a3.trans b4⟩
    · rw [if_neg c, if_neg c, if_neg c]
      exact ⟨s, zs, fr, rfl, h, hI.mono (by omega), TO.refl⟩
/-- what is set where it thinks alone: z words at first -/
def vAA (V : vV) (z : Nat) (j : Nat) : Int32 := if j = 0 then nI z else V.1 (2048 + j)
def vAU (V : vV) (z f : Nat) (a mode : Int32) : vV := (vbg 2048 (vnw (vAA V z) V.1) 0 f a mode).2
theorem ise_al {A : Nat → Int32} (hI : VI 2048 B V) (hz : 8 ≤ z ∧ z ≤ 2048) (hA : A = vAA V z) : Ise 2048 (vnw A V.1).1 := by
  obtain ⟨i1, i2, i3, i4, i5, i6⟩ := hI.1
  have e0 : (vnw A V.1).1 2048 = nI z := (vnw_se (i := 0) (by omega)).trans (by rw [hA]; rfl)
  have e1 : (vnw A V.1).1 2049 = V.1 2049 := (vnw_se (i := 1) (by omega)).trans (by rw [hA]; rfl)
  have e2 : (vnw A V.1).1 2050 = V.1 2050 := (vnw_se (i := 2) (by omega)).trans (by rw [hA]; rfl)
  have e3 : (vnw A V.1).1 2051 = V.1 2051 := (vnw_se (i := 3) (by omega)).trans (by rw [hA]; rfl)
  have e4 : (vnw A V.1).1 2052 = V.1 2052 := (vnw_se (i := 4) (by omega)).trans (by rw [hA]; rfl)
  have e5 : (vnw A V.1).1 2053 = V.1 2053 := (vnw_se (i := 5) (by omega)).trans (by rw [hA]; rfl)
  unfold Ise
  rw [e0, e1, e2, e3, e4, e5]
  exact ⟨⟨z, rfl, by omega, by omega, by omega⟩, i2, i3, i4, i5, i6⟩
theorem c_alone1 (h : NW B s V) (hf : f < 10) (hs1 : 1 ≤ vsz V.1 f) (hm : mode = 0 ∨ mode = 1) (hz : 8 ≤ z ∧ z ≤ 2048) : ∃ s' zs' fr', gX10_thinkAlone s (nI f) a mode (nI z) = some (nI (vrx 2048 Z 0 2000 (vAU V z f a mode) (vall (vAU V z f a mode).2.1)), s') ∧ RC 40 2048 s' (vrl 2048 Z 0 2000 (vAU V z f a mode)) zs' fr' ∧ VI 2048 8003 (vrl 2048 Z 0 2000 (vAU V z f a mode)) ∧ NW B s' V ∧ ∀ c, c < 40 ∨ 68 < c → s' c = s c := by
  obtain ⟨⟨zs, fr, hR⟩, hI, hW, hK, hT⟩ := id h
  have hp := hI.2.1
  obtain ⟨s1, a1, a2, a3, a4, a5, a6, a7, a8⟩ := c_clr9 (b := 40) (s := s) (lim := 2048) (Or.inr rfl)
  have a1 : gX9_clear 40 s 2048 = some ((), s1) := a1
  unfold gX10_thinkAlone
  rw [a1, cl_some, c_ac0 (n := 6) (N := 6) rfl (by omega), wr_eq, ix_0 (by omega) (by omega)]
  generalize hS : wt_u (wt_uf s1 41 (mj_cpy (s1 12) (s1 41) 0 0 6)) 41 0 (nI z) = s4
  have f4 : ∀ c, c ≠ 41 → s4 c = s1 c := fun c hc => by rw [← hS, wt_u_ne hc, wt_uf_ne hc]
  have e4 : ∀ j, j < 6 → s4 (40 + 1) j = vAA V z j := fun j hj => by
    have hg : s 12 j = V.1 (2048 + j) := hR.2.2.1.1 j hj
    rw [← hS]
    unfold vAA
    by_cases c0 : j = 0
    · subst c0; rw [wt_u_self]; rfl
    · rw [wt_u_nk c0, if_neg c0, c_ac1 hj, a2 12 (by omega)]
      exact hg
  have hR4 : RP 5 s4 V.1 := hR.2.2.2.2.2.eq hp vpe.refl (fun c c1 c2 => by rw [f4 c (by omega), a2 c (by omega)])
  have hF := RC.fresh (b := 40) (lim := 2048) (s := s4) (s0 := s) (A := vAA V z) (W := V.1) (by omega) (a3.eq (fun c hc => f4 c (by omega))) e4 (fun j hj => by rw [f4 _ (by omega)]; exact a5 j hj) (fun k hk => by rw [f4 _ (by omega)]; exact a6 k hk) hT (fun k hk j hj => by rw [f4 _ (by omega)]; exact a7 k hk j hj) hR4 hp
  have hx := cx40 (lim := 2048) (by omega)
  have hI0 : VI 2048 0 (vnw (vAA V z) V.1) := vi_nw hp (ise_al hI hz rfl)
  have hs1' : 1 ≤ vsz (vnw (vAA V z) V.1).1 f := by rw [(vnw_pp.sz hf).1]; exact hs1
  obtain ⟨s6, zs6, fr6, b1, b2, b3⟩ := c_begin (t := 0) (a := a) (mode := mode) hF hx hI0 (by omega) (nw_id (by omega)) hf hs1' hm
  have hI6 := vi_bg (a := a) hI0 (by omega) (by omega) (nw_id (t := 0) (by omega)) hf hs1' hm
  have e8 : s6 42 8 = nI (vall (vAU V z f a mode).2.1) := by
    have := b2.2.1.2.1
    rw [b2.1] at this
    exact this
  rw [b1, cl_some, e8]
  obtain ⟨s', zs', fr', d1, d2, d3, d4⟩ := c_81 (Z := Z) 2000 0 wt_N 3 (vall (vAU V z f a mode).2.1) s6 (vAU V z f a mode) zs6 fr6 (by omega) (by unfold wt_N; omega) (vall_lim hI6) b2 hI6 (wl_bg hI0 (by omega) (by omega) (nw_id (by omega)) hf hs1' hm)
  have fs : ∀ c, c < 40 ∨ 68 < c → s' c = s c := fun c hc => by rw [d4.2 c (by omega), b3.2 c (by omega), f4 c (by omega), a2 c (by omega)]
  exact ⟨s', zs', fr', d1, d2, d3.mono (by omega), ⟨⟨zs, fr, hR.eq cx11 (fun c _ _ _ _ hc => fs c (by omega))⟩, hI, hW, hK.nf (fun c hc => fs c (by omega)), fun k hk => (d2.2.2.2.1 k hk).1.1⟩, fs⟩
/-- the least FIRST: nothing changes -/
theorem p_least : ∀ (n : Nat) (s : wt_S) (l0 l1 r : Int32) (s' : wt_S), gX10_leastFirstFor_6 n s l0 l1 = some (r, s') → s' = s := by
  intro n
  induction n with
  | zero => intro s l0 l1 r s' e; cases e
  | succ n ih =>
    intro s l0 l1 r s' e
    rw [gX10_leastFirstFor_6] at e
    by_cases c1 : (s 2 0).toInt < l1.toInt
    · rw [if_pos c1] at e; cases e; rfl
    · rw [if_neg c1] at e
      by_cases c2 : l1.toInt < l0.toInt
      · rw [if_pos c2] at e; exact ih s l0 _ r s' e
      · rw [if_neg c2] at e; cases e; rfl
theorem c_65 (h : NW B s V) (hf : f < 10) (hs1 : 1 ≤ vsz V.1 f) (hm : mode = 0 ∨ mode = 1) (hz : 8 ≤ z ∧ z ≤ 2048) {r : Int32} (e : gX10_alone_65 s what (nI f) a mode (nI z) = some (r, s')) : NW B s' V ∧ ∀ c, c < 40 ∨ 68 < c → s' c = s c := by
  obtain ⟨s1, zs1, fr1, a1, a2, a3, a4, a5⟩ := c_alone1 (a := a) (Z := vZ) h hf hs1 hm hz
  unfold gX10_alone_65 at e
  rw [a1, cl_some, ix_0 (by omega) (by omega)] at e
  have key : s' = s1 := by
    by_cases c0 : what.toInt < 0 ∨ 5 < what.toInt
    · rw [if_pos c0] at e
      cases e2 : gX10_leastFirstFor s1 (s1 (40 + 17 + 2 * 0) 14) with
      | none => rw [e2] at e; cases e
      | some p =>
        obtain ⟨u, s3⟩ := p
        rw [e2, cl_some] at e
        have := p_least _ _ _ _ _ _ e2
        cases e
        exact this
    rw [if_neg c0] at e
    by_cases d0 : what.toInt = 0
    · rw [if_pos d0] at e; cases e; rfl
    rw [if_neg d0] at e
    by_cases d1 : what.toInt = 1
    · rw [if_pos d1] at e; cases e; rfl
    rw [if_neg d1] at e
    by_cases d2 : what.toInt = 2
    · rw [if_pos d2] at e; cases e; rfl
    rw [if_neg d2] at e
    by_cases d3 : what.toInt = 3
    · rw [if_pos d3] at e; cases e; rfl
    rw [if_neg d3] at e
    by_cases d4 : what.toInt = 4
    · rw [if_pos d4] at e; cases e; rfl
    rw [if_neg d4] at e
    by_cases d5 : what.toInt = 5
    · rw [if_pos d5] at e; cases e; rfl
    rw [if_neg d5] at e
    cases e
  subst key
  exact ⟨a4, a5⟩
theorem c_aloneop {f r : Int32} (h : NW B s V) (e : gX10_alone s f a mode what = some (r, s')) : NW B s' V ∧ ∀ c, c < 40 ∨ 68 < c → s' c = s c := by
  obtain ⟨⟨zs, fr, hR⟩, hI, hW, hK, hT⟩ := id h
  have q0 : (0 : Int32).toInt = 0 := by decide
  have q1 : (1 : Int32).toInt = 1 := by decide
  have q6 : (6 : Int32).toInt = 6 := by decide
  unfold gX10_alone at e
  rw [c_told hR.2.2.2.2.2, cl_some, if_rb, q0, q1, q6] at e
  have same : some ((-1 : Int32), s) = some (r, s') → NW B s' V ∧ ∀ c, c < 40 ∨ 68 < c → s' c = s c := fun e => by
    cases e
    exact ⟨h, fun _ _ => rfl⟩
  by_cases c1 : tld V.1 f
  · rw [if_pos c1] at e
    by_cases c2 : mode.toInt < 0
    · rw [if_pos c2] at e; exact same e
    rw [if_neg c2] at e
    by_cases c3 : 1 < mode.toInt
    · rw [if_pos c3] at e; exact same e
    rw [if_neg c3] at e
    by_cases c4 : what.toInt < 0
    · rw [if_pos c4] at e; exact same e
    rw [if_neg c4] at e
    by_cases c5 : what.toInt ≤ 6
    · rw [if_pos c5] at e
      have hm : mode = 0 ∨ mode = 1 := by
        obtain ⟨m, m1, m2, m3, m4⟩ := i_nat (x := mode) (by omega)
        have : m = 0 ∨ m = 1 := by omega
        rw [m2]
        rcases this with rfl | rfl
        · exact Or.inl rfl
        · exact Or.inr rfl
      obtain ⟨f', f1, rfl, f3, f4⟩ := tld_nat c1
      by_cases c6 : what ≠ 6
      · rw [if_pos c6] at e
        obtain ⟨z, z1, z2, z3, z4⟩ := hI.1.1
        have hg : s 12 0 = V.1 2048 := hR.2.2.1.1 0 (by omega)
        rw [hg, z1] at e
        exact c_65 h f1 f4 hm ⟨z2, z3⟩ e
      · rw [if_neg c6] at e
        have hk := (hK 0 (by omega)).2.1
        have hg : s 2 0 = nI 64 := by
          obtain ⟨m, m1, m2, m3, m4⟩ := i_nat (x := s 2 0) (by rw [hk]; decide)
          have : (m : Int) = 64 := by rw [← m4, hk]; rfl
          have : m = 64 := by omega
          rw [m2, this]
        rw [hg] at e
        exact c_65 h f1 f4 hm ⟨by omega, by omega⟩ e
    · rw [if_neg c5] at e; exact same e
  · rw [if_neg c1] at e
    exact same e
end
end
section
/-! ===== both sides, an operation at a time ===== -/
theorem CI.re {F : Nat} {z s s' : wt_S} (h : CI F z s) (he : ∀ c, c < 110 → s' c = s c) : CI F s' s' := by
  obtain ⟨h1, h2, h3, h4, h5, h6, h7⟩ := h
  refine ⟨fun c hc => ?_, fun q hq f hf => ?_, ?_, ?_, ?_, ?_, fun c hc => rfl⟩
  · obtain ⟨a1, a2, a3⟩ := h1 c hc
    have hc' : c = 11 ∨ c = 40 ∨ c = 81 := hc
    exact ⟨by rw [he _ (by omega)]; exact a1, by rw [he _ (by omega)]; exact a2, fun k hk => by rw [he _ (by omega)]; exact a3 k hk⟩
  · have hq' : q = 5 ∨ q = 76 := hq
    rw [he _ (by omega), he _ (by omega)]; exact h2 q hq f hf
  · rw [he _ (by omega)]; exact h3
  · rw [he _ (by omega)]; exact h4
  · rw [he _ (by omega)]; exact h5
  · rw [he _ (by omega)]; exact h6
/-- what holds at the law's loop -/
def LJ (F B : Nat) (s : wt_S) : Prop := CI F s s ∧ s 4 6 = s 110 4 ∧ ∃ V Vk, RQ B s V Vk ∧ NW B s V ∧ KI B s Vk
/-- one operation of both: the answers are E -/
def LO (F B : Nat) (s : wt_S) (x : Option (Int32 × wt_S)) (y : wt_S → Option (Int32 × wt_S)) (E : Int32 → Int32 → Prop) : Prop := ∃ r s1 r2 s2, x = some (r, s1) ∧ s1 0 = s 0 ∧ y s1 = some (r2, s2) ∧ E r r2 ∧ LJ F B s2
def TR (_ _ : Int32) : Prop := True
section
variable {F F' B B' : Nat} {s s' : wt_S} {V Vk : vV} {x : Option (Int32 × wt_S)} {y : wt_S → Option (Int32 × wt_S)} {E : Int32 → Int32 → Prop}
theorem LJ.mono (h : LJ F B s) (hF : F ≤ F') (hB : B ≤ B') : LJ F' B' s := by
  obtain ⟨h1, h2, V, Vk, h3, h4, h5⟩ := h
  exact ⟨h1.mono hF, h2, V, Vk, h3.mk2 h3.1 (h3.2.1.mono hB) hB (RH.of RF.refl), h4.mono hB, h5.keep hB (fun _ _ => rfl)⟩
theorem LO.mono (h : LO F B s x y E) (hF : F ≤ F') (hB : B ≤ B') : LO F' B' s x y E := by
  obtain ⟨r, s1, r2, s2, e1, e2, e3, e4, e5⟩ := h
  exact ⟨r, s1, r2, s2, e1, e2, e3, e4, e5.mono hF hB⟩
theorem NW.re1 (h : NW B s V) (hc : ∀ c, c < 110 → s' c = s c) : NW B s' V := by
  obtain ⟨⟨zs, fr, hR⟩, hI, hW, hK, hT⟩ := h
  exact ⟨⟨zs, fr, hR.eq cx11 (fun c _ _ _ _ hc' => hc c (by omega))⟩, hI, hW, fun j hj => by rw [hc 1 (by omega), hc 2 (by omega), hc 3 (by omega)]; exact hK j hj, fun k hk => by rw [hc _ (by omega)]; exact hT k hk⟩
theorem lo_mk (h : LJ F B s) (hB : B ≤ B') (hx : Ok (fun _ s' => CI F' s s') x) (hs : ∀ V, RS s V → VI 2048 B V → NW B s V → ∃ r s1 V', x = some (r, s1) ∧ NW B' s1 V' ∧ (∀ c, c = 75 ∨ (77 ≤ c ∧ c ≤ 109) → s1 c = s c) ∧ ∀ s1', RS s1' V → ∃ r2 s2, y s1' = some (r2, s2) ∧ E r r2 ∧ RS s2 V' ∧ RH s1' s2) : LO F' B' s x y E := by
  obtain ⟨h1, h2, V, Vk, h3, h4, h5⟩ := h
  obtain ⟨r, s1, V', a1, a2, a3, a4⟩ := hs V h3.1 h3.2.1 h4
  obtain ⟨r', s1', b1, b2⟩ := hx
  rw [a1] at b1
  cases b1
  have e : ∀ c, (c = 0 ∨ 110 ≤ c) ∨ c = 4 → s1 c = s c := b2.2.2.2.2.2.2
  have hRS : RS s1 V := ⟨by rw [e 110 (by omega)]; exact h3.1.1, by rw [e 111 (by omega)]; exact h3.1.2⟩
  have hQ : RQ B s1 V Vk := ⟨hRS, h3.2.1, by rw [e 110 (by omega), e 113 (by omega)]; exact h3.2.2⟩
  obtain ⟨r2, s2, c1, c2, c3, c4⟩ := a4 s1 hRS
  refine ⟨r, s1, r2, s2, a1, e 0 (by omega), c1, c2, b2.re c4.1, ?_, V', Vk, hQ.mk2 c3 a2.2.1 hB c4, a2.re1 c4.1, h5.keep hB (fun c hc => ?_)⟩
  · rw [c4.1 4 (by omega), c4.2.2, e 4 (by omega), e 110 (by omega)]
    exact h2
  · rw [c4.1 c (by omega)]
    rcases hc with hc | hc
    · exact e c (Or.inr hc)
    · exact a3 c hc
/-- a question that changes nothing -/
theorem lo_pure (h : LJ F B s) (hx : Ok (fun _ s' => s' = s ∧ True) x) (hy : ∀ V s1, RS s1 V → VI 2048 B V → Ok (fun _ s' => RO s1 s') (y s1)) : LO F B s x y TR := by
  obtain ⟨r, s', e, e1, -⟩ := hx
  subst e1
  refine lo_mk h (Nat.le_refl _) ⟨r, s', e, h.1⟩ (fun V hr hI hn => ⟨r, s', V, e, hn, fun _ _ => rfl, fun s1' h' => ?_⟩)
  obtain ⟨r2, s2, b1, b2⟩ := hy V s1' h' hI
  exact ⟨r2, s2, b1, trivial, h'.ro b2, RH.of b2.1⟩
/-- a question that walks or marks -/
theorem lo_walk (h : LJ F B s) (hx : Ok (fun _ s' => CI F s s') x) (hf : FP s x) (hy : ∀ V s1, RS s1 V → VI 2048 B V → Ok (fun _ s' => RO s1 s') (y s1)) : LO F B s x y TR := by
  refine lo_mk h (Nat.le_refl _) hx (fun V hr hI hn => ?_)
  obtain ⟨r, s', e, -⟩ := hx
  have hk : ∀ c, c ≠ 27 → c ≠ 71 → c ≠ 72 → s' c = s c := fun c c1 c2 c3 => hf r s' e c (fun q => by unfold KQ at q; omega)
  obtain ⟨⟨zs, fr, hR⟩, hI2, hW, hK, hT⟩ := hn
  refine ⟨r, s', V, e, ⟨⟨zs, fr, hR.eq cx11 (fun c _ _ _ c4 hc => hk c (by omega) (by omega) (by omega))⟩, hI2, hW, fun j hj => by rw [hk 1 (by omega) (by omega) (by omega), hk 2 (by omega) (by omega) (by omega), hk 3 (by omega) (by omega) (by omega)]; exact hK j hj, fun k hk' => by rw [hk _ (by omega) (by omega) (by omega)]; exact hT k hk'⟩, fun c hc => hk c (by omega) (by omega) (by omega), fun s1' h' => ?_⟩
  obtain ⟨r2, s2, b1, b2⟩ := hy V s1' h' hI
  exact ⟨r2, s2, b1, trivial, h'.ro b2, RH.of b2.1⟩
theorem lo_set {a b : Int32} (h : LJ F B s) (hF : F ≤ 1999990000) : LO F B s (gX10_set s a b) (fun s1 => gX11_set s1 a b) Eq :=
  lo_mk h (Nat.le_refl _) (ok_im (oX10_set (by omega) h.1) (fun _ _ e => e.1)) (fun V hr hI hn => by
    obtain ⟨s0, -, -, -, hI'⟩ := q_set (x := a) (v := b) hr hI
    obtain ⟨s1, a1, a2, a3⟩ := c_setop hn hI'
    refine ⟨_, s1, _, a1, a2, fun c hc => a3 c (by omega), fun s1' h' => ?_⟩
    obtain ⟨s2, b1, b2, b3, -⟩ := q_set (x := a) (v := b) h' hI
    exact ⟨_, s2, b1, rfl, b2, RH.of b3⟩)
theorem lo_function {a b c : Int32} (h : LJ F B s) (hF : F ≤ 1999990000) : LO F B s (gX10_function s a b c) (fun s1 => gX11_function s1 a b c) Eq :=
  lo_mk h (Nat.le_refl _) (ok_im (oX10_function (by omega) h.1) (fun _ _ e => e.1)) (fun V hr hI hn => by
    obtain ⟨s0, -, -, -, hI'⟩ := q_function (x := a) (z := b) (p := c) hr hI
    obtain ⟨s1, a1, a2, a3⟩ := c_functionop hn hI'
    refine ⟨_, s1, _, a1, a2, fun c hc => a3 c (by omega), fun s1' h' => ?_⟩
    obtain ⟨s2, b1, b2, b3, -⟩ := q_function (x := a) (z := b) (p := c) h' hI
    exact ⟨_, s2, b1, rfl, b2, RH.of b3⟩)
theorem lo_line {k a b c d : Int32} (h : LJ F B s) (hF : F ≤ 1999990000) : LO F B s (gX10_line s k a b c d) (fun s1 => gX11_line s1 k a b c d) Eq :=
  lo_mk h (Nat.le_refl _) (oX10_line (by omega) h.1) (fun V hr hI hn => by
    obtain ⟨s0, -, -, -, hI'⟩ := q_line (x := k) (kind := a) (a := b) (b := c) (c := d) hr hI
    obtain ⟨s1, a1, a2, a3⟩ := c_lineop hn hI'
    refine ⟨_, s1, _, a1, a2, fun c hc => a3 c (by omega), fun s1' h' => ?_⟩
    obtain ⟨s2, b1, b2, b3, -⟩ := q_line (x := k) (kind := a) (a := b) (b := c) (c := d) h' hI
    exact ⟨_, s2, b1, rfl, b2, RH.of b3⟩)
theorem lo_start {a b c d : Int32} (h : LJ F B s) (hF : F ≤ 1999990000) (hB : B ≤ 2147200000) : LO (F + 1) (B + 3) s (gX10_start s a b c d) (fun s1 => gX11_start s1 a b c d) Eq :=
  lo_mk h (Nat.le_add_right _ _) (ok_im (oX10_start (by omega) h.1) (fun _ _ e => e.1)) (fun V hr hI hn => by
    obtain ⟨s1, a1, a2, a3⟩ := c_startop (x := a) (f := b) (a := c) (mode := d) hn
    refine ⟨_, s1, _, a1, a2, fun c hc => a3 c (by omega), fun s1' h' => ?_⟩
    obtain ⟨s2, b1, b2, b3, -⟩ := q_start (x := a) (f := b) (a := c) (mode := d) h' hI (by omega)
    exact ⟨_, s2, b1, rfl, b2, RH.of b3⟩)
theorem lo_step {a b : Int32} (h : LJ F B s) (hF : F + 4401 ≤ 1999990000) (hB : B ≤ 2147200000) : LO (F + 4401) (B + 800) s (gX10_step s a b) (fun s1 => gX11_step s1 a b) Eq :=
  lo_mk h (Nat.le_add_right _ _) (oX10_step hF h.1) (fun V hr hI hn => by
    obtain ⟨s1, a1, a2, a3⟩ := c_stepop (x := a) (n := b) (Z := vZ) hn
    refine ⟨_, s1, _, a1, a2, fun c hc => a3 c (by omega), fun s1' h' => ?_⟩
    obtain ⟨s2, b1, b2, b3, -⟩ := q_step (x := a) (n := b) hd_all h' hI (by omega)
    exact ⟨_, s2, b1, rfl, b2, RH.of b3⟩)
theorem lo_round {a : Int32} (h : LJ F B s) (hF : F + 2401800 ≤ 1999990000) (hB : B ≤ 2147200000) : LO (F + 2401800) (B + 2400) s (gX10_round s a) (fun s1 => gX11_round s1 a) Eq :=
  lo_mk h (Nat.le_add_right _ _) (oX10_round hF h.1) (fun V hr hI hn => by
    obtain ⟨s1, a1, a2, a3⟩ := c_roundop (n := a) (Z := vZ) hn
    refine ⟨_, s1, _, a1, a2, fun c hc => a3 c (by omega), fun s1' h' => ?_⟩
    obtain ⟨s2, b1, b2, b3, -⟩ := q_round (n := a) hd_all h' hI (by omega)
    exact ⟨_, s2, b1, rfl, b2, RH.of b3⟩)
theorem lo_stop {a : Int32} (h : LJ F B s) (hF : F ≤ 1999990000) : LO F B s (gX10_stop s a) (fun s1 => gX11_stop s1 a) Eq :=
  lo_mk h (Nat.le_refl _) (ok_im (oX10_stop (by omega) h.1) (fun _ _ e => e.1)) (fun V hr hI hn => by
    obtain ⟨s1, a1, a2, a3⟩ := c_stopop (x := a) hn
    refine ⟨_, s1, _, a1, a2, fun c hc => a3 c (by omega), fun s1' h' => ?_⟩
    obtain ⟨s2, b1, b2, b3⟩ := q_stop (x := a) h' hI
    exact ⟨_, s2, b1, rfl, b2, RH.of b3⟩)
theorem lo_quiet {a : Int32} (h : LJ F B s) (hF : F ≤ 1999990000) (hB : B ≤ 2147200000) : LO F (B + 1) s (gX10_quiet s a) (fun s1 => gX11_quiet s1 a) Eq :=
  lo_mk h (Nat.le_add_right _ _) (ok_im (oX10_quiet (by omega) h.1) (fun _ _ e => e.1)) (fun V hr hI hn => by
    obtain ⟨s1, a1, a2, a3⟩ := c_quietop (x := a) hn
    refine ⟨_, s1, _, a1, a2, fun c hc => a3 c (by omega), fun s1' h' => ?_⟩
    obtain ⟨s2, b1, b2, b3, -⟩ := q_quiet (x := a) h' hI (by omega)
    exact ⟨_, s2, b1, rfl, b2, RH.of b3⟩)
theorem lo_join {a : Int32} (h : LJ F B s) (hF : F ≤ 1999990000) (hB : B ≤ 2147200000) : LO F (B + 1) s (gX10_join s a) (fun s1 => gX11_join s1 a) Eq :=
  lo_mk h (Nat.le_add_right _ _) (ok_im (oX10_join (by omega) h.1) (fun _ _ e => e.1)) (fun V hr hI hn => by
    obtain ⟨s1, a1, a2, a3⟩ := c_joinop (x := a) hn
    refine ⟨_, s1, _, a1, a2, fun c hc => a3 c (by omega), fun s1' h' => ?_⟩
    obtain ⟨s2, b1, b2, b3, -⟩ := q_join (x := a) h' hI (by omega)
    exact ⟨_, s2, b1, rfl, b2, RH.of b3⟩)
theorem lo_compact (h : LJ F B s) (hF : F ≤ 1999990000) (hB : B ≤ 2147200000) : LO F (B + 256) s (gX10_compact s) (fun s1 => gX11_compact s1) Eq :=
  lo_mk h (Nat.le_add_right _ _) (oX10_compact (by omega) h.1) (fun V hr hI hn => by
    obtain ⟨s1, a1, a2, a3⟩ := c_compactop hn
    refine ⟨_, s1, _, a1, a2, fun c hc => a3 c (by omega), fun s1' h' => ?_⟩
    obtain ⟨s2, b1, b2, b3⟩ := q_compact h' hI (by omega)
    exact ⟨_, s2, b1, rfl, b2, RH.of b3⟩)
theorem lo_deep {a : Int32} (h : LJ F B s) (hF : F ≤ 1999990000) : LO F B s (gX10_deep s a) (fun s1 => gX11_deep s1 a) TR := lo_pure h (oX10_deep (by omega) h.1) (fun V s1 a b => k_deep a b)
theorem lo_need {a : Int32} (h : LJ F B s) (hF : F ≤ 1999990000) : LO F B s (gX10_need s a) (fun s1 => gX11_need s1 a) TR := lo_pure h (oX10_need (by omega) h.1) (fun V s1 a b => k_need a b)
theorem lo_task {a b : Int32} (h : LJ F B s) (hF : F ≤ 1999990000) : LO F B s (gX10_task s a b) (fun s1 => gX11_task s1 a b) TR := lo_pure h (oX10_task (by omega) h.1) (fun V s1 a b => k_task a b)
theorem lo_piece {a b c : Int32} (h : LJ F B s) (hF : F ≤ 1999990000) : LO F B s (gX10_piece s a b c) (fun s1 => gX11_piece s1 a b c) TR := lo_pure h (oX10_piece (by omega) h.1) (fun V s1 a b => k_piece a b)
theorem lo_gap {a b : Int32} (h : LJ F B s) (hF : F ≤ 1999990000) : LO F B s (gX10_gap s a b) (fun s1 => gX11_gap s1 a b) TR := lo_pure h (oX10_gap (by omega) h.1) (fun V s1 g _ => by
  obtain ⟨v, e⟩ := k_gap (i := a) (what := b) g.2.2.1
  exact ⟨v, s1, e, RO.refl⟩)
theorem lo_log {a b : Int32} (h : LJ F B s) (hB : B ≤ 2147200000) : LO F B s (gX10_log s a b) (fun s1 => gX11_log s1 a b) TR := lo_pure h (oX10_log h.1) (fun V s1 a b => k_log a b (by omega))
theorem lo_count {a : Int32} (h : LJ F B s) (hF : F ≤ 1999990000) : LO F B s (gX10_count s a) (fun s1 => gX11_count s1 a) TR := lo_pure h (oX10_count (by omega) h.1) (fun V s1 a b => k_count)
theorem lo_look {a : Int32} (h : LJ F B s) (hF : F ≤ 1999990000) : LO F B s (gX10_look s a) (fun s1 => gX11_look s1 a) TR := lo_pure h (oX10_look (by omega) h.1) (fun V s1 a b => k_look a)
theorem lo_frame {a b c : Int32} (h : LJ F B s) (hF : F ≤ 1999990000) : LO F B s (gX10_frame s a b c) (fun s1 => gX11_frame s1 a b c) TR := lo_walk h (oX10_frame (by omega) h.1) (fX10_frame FR.refl) (fun V s1 a b => k_frame a b)
theorem lo_slot {a b c d : Int32} (h : LJ F B s) (hF : F ≤ 1999990000) : LO F B s (gX10_slot s a b c d) (fun s1 => gX11_slot s1 a b c d) TR := lo_walk h (oX10_slot (by omega) h.1) (fX10_slot FR.refl) (fun V s1 a b => k_slot a b)
theorem lo_never {a : Int32} (h : LJ F B s) (hF : F ≤ 1999990000) : LO F B s (gX10_never s a) (fun s1 => gX11_never s1 a) TR := lo_walk h (oX10_never (by omega) h.1) (fX10_never FR.refl) (fun V s1 a b => k_never a b)
theorem lo_endless {a b c : Int32} (h : LJ F B s) (hF : F + 4001 ≤ 1999990000) : LO (F + 4001) B s (gX10_endless s a b c) (fun s1 => gX11_endless s1 a b c) TR :=
  lo_mk h (Nat.le_refl _) (oX10_endless hF h.1) (fun V hr hI hn => by
    obtain ⟨s1, a1, a2, a3⟩ := c_endlessop (f := a) (a := b) (what := c) (Z := vZ) hn
    refine ⟨_, s1, _, a1, a2, fun c hc => a3 c (by omega), fun s1' h' => ?_⟩
    obtain ⟨r2, s2, b1, b2, b3⟩ := k_endless (f := a) (a := b) (what := c) h' hI
    exact ⟨r2, s2, b1, trivial, b2, RH.of b3⟩)
theorem lo_land {a b c : Int32} (h : LJ F B s) (hF : F + 400 ≤ 1999990000) (hB : B ≤ 2147200000) : LO (F + 400) B s (gX10_land s a b c) (fun s1 => gX11_land s1 a b c) TR :=
  lo_mk h (Nat.le_refl _) (oX10_land hF h.1) (fun V hr hI hn => by
    obtain ⟨s1, a1, a2, a3⟩ := c_landop (x := a) (n := b) (what := c) (Z := vZ) hn
    refine ⟨_, s1, _, a1, a2, fun c hc => a3 c (by omega), fun s1' h' => ?_⟩
    obtain ⟨r2, s2, b1, b2, b3⟩ := k_land (x := a) (n := b) (what := c) h' hI (by omega)
    exact ⟨r2, s2, b1, trivial, b2, b3⟩)
theorem lo_alone {a b c d : Int32} (h : LJ F B s) (hF : F + 4001 ≤ 1999990000) (hB : B ≤ 2147200000) : LO (F + 4001) B s (gX10_alone s a b c d) (fun s1 => gX11_alone s1 a b c d) TR :=
  lo_mk h (Nat.le_refl _) (oX10_alone hF h.1) (fun V hr hI hn => by
    obtain ⟨r, s1, a1, -⟩ := oX10_alone (i1 := a) (i2 := b) (i3 := c) (i4 := d) hF h.1
    obtain ⟨a2, a3⟩ := c_aloneop hn a1
    refine ⟨_, s1, _, a1, a2, fun c hc => a3 c (by omega), fun s1' h' => ?_⟩
    obtain ⟨r2, s2, b1, b2, b3⟩ := k_alone (f := a) (a := b) (mode := c) (what := d) h' hI (by omega)
    exact ⟨r2, s2, b1, trivial, b2, b3⟩)
/-- the reference's image: what it then is -/
theorem k_image2 {a : Int32} (h : RQ B s V Vk) : ∃ s', gX11_image s a = some ((if a ≠ 0 then 1 else s 110 4), s') ∧ RQ B s' (if a ≠ 0 then V else if s 110 4 = 0 then V else Vk) (if a ≠ 0 then V else Vk) ∧ s' 110 4 = (if a ≠ 0 then 1 else s 110 4) ∧ ∀ c, c < 110 → s' c = s c := by
  obtain ⟨h1, h2, h3⟩ := h
  unfold gX11_image gX11_image_13 gX11_image_42
  by_cases cx : a ≠ 0
  · obtain ⟨g, e1, e2⟩ := q_copies (r1 := 111) (r2 := 113) (by omega) (s := s)
    rw [if_pos cx, if_neg cx, e1, cl_some, wr_eq, if_pos cx, if_pos cx, if_pos cx]
    refine ⟨_, rfl, ⟨⟨?_, ?_⟩, h2, Or.inr ⟨wt_u_self, ?_, h2⟩⟩, wt_u_self, fun c hc => by rw [wt_u_ne (by omega), wt_uf_ne (by omega)]⟩
    · rw [wt_u_nk (by omega), wt_uf_ne (by omega)]; exact h1.1
    · rw [wt_u_ne (by omega), wt_uf_ne (by omega)]; exact h1.2
    · rw [wt_u_ne (by omega), wt_uf_at]
      exact h1.2.eq e2
  · have cx0 : a = 0 := by simpa using cx
    have hr : (if a ≠ 0 then (1 : Int32) else s 110 4) = s 110 4 := if_neg cx
    rw [hr, if_neg cx, if_neg cx, if_neg cx]
    rcases h3 with e | ⟨e, k1, k2⟩
    · rw [if_neg (by rw [e]; simp), if_pos e, e]
      exact ⟨s, rfl, ⟨h1, h2, Or.inl e⟩, e, fun _ _ => rfl⟩
    · obtain ⟨g, e1, e2⟩ := q_copies (r1 := 113) (r2 := 111) (by omega) (s := s)
      rw [if_pos (by rw [e]; decide), if_pos cx0, e1, cl_some, wr_eq, if_neg (by rw [e]; decide), e]
      refine ⟨_, rfl, ⟨⟨?_, ?_⟩, k2, Or.inr ⟨wt_u_self, ?_, k2⟩⟩, wt_u_self, fun c hc => by rw [wt_u_ne (by omega), wt_uf_ne (by omega)]⟩
      · rw [wt_u_nk (by omega), wt_uf_ne (by omega)]; exact h1.1
      · rw [wt_u_ne (by omega), wt_uf_at]; exact k1.eq e2
      · rw [wt_u_ne (by omega), wt_uf_ne (by omega)]; exact k1
theorem lo_image {a : Int32} (h : LJ F B s) : LO F B s (gX10_image s a) (fun s1 => gX11_image s1 a) Eq := by
  obtain ⟨h1, h2, V, Vk, h3, h4, h5⟩ := h
  have hz : s 4 6 = 0 ∨ s 4 6 = 1 := by
    rw [h2]
    rcases h3.2.2 with e | e
    · exact Or.inl e
    · exact Or.inr e.1
  obtain ⟨r, s1, b1, b2, -⟩ := oX10_image (i1 := a) h1 hz
  obtain ⟨s1', a1, a2, a3, a4, a5⟩ := c_imageop (x := a) h4 h5
  rw [a1] at b1
  cases b1
  have hQ : RQ B s1 V Vk := ⟨⟨by rw [a5 110 (by omega)]; exact h3.1.1, by rw [a5 111 (by omega)]; exact h3.1.2⟩, h3.2.1, by rw [a5 110 (by omega), a5 113 (by omega)]; exact h3.2.2⟩
  obtain ⟨s2, c1, c2, c3, c4⟩ := k_image2 (a := a) hQ
  have e110 : s1 110 4 = s 4 6 := by rw [a5 110 (by omega)]; exact h2.symm
  rw [e110] at c1 c2 c3
  refine ⟨_, s1, _, s2, a1, a5 0 (Or.inr rfl), c1, rfl, b2.re c4, ?_, _, _, c2, a2.re1 c4, a3.keep (Nat.le_refl _) (fun c hc => c4 c (by omega))⟩
  rw [c4 4 (by omega), c3, a4]
end
end
