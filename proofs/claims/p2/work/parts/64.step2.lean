/-! ===== the reference: a step ===== -/
section
variable {s : wt_S} {V : vV} {t np z k : Nat}
theorem vnum_nat {w : Nat → Int32} {f : Nat} {x : Int32} (hp : Ipr w) (hf : f < 10) (h : vnum w f x) : ∃ k, x = nI k ∧ x.toInt.toNat = k ∧ k < vsz w f ∧ k < 8 ∧ ¬ bt (w (2238 + f)) k := by
  obtain ⟨k, h1, h2, h3⟩ := h
  have := (hp.sz hf).2
  exact ⟨k, h1, by rw [h1, nI_int (by omega)]; rfl, h2, by omega, h3⟩
theorem vptr_nat {w : Nat → Int32} {f : Nat} {x : Int32} (hp : Ipr w) (hf : f < 10) (h : vptr w f x) : ∃ k, x = nI k ∧ x.toInt.toNat = k ∧ k < vsz w f ∧ k < 8 ∧ bt (w (2238 + f)) k := by
  obtain ⟨k, h1, h2, h3⟩ := h
  have := (hp.sz hf).2
  exact ⟨k, h1, by rw [h1, nI_int (by omega)]; rfl, h2, by omega, h3⟩
theorem RS.ptr {i k : Nat} {q : Option (Nat × Nat)} (h : RS s V) (hj : VJ 2048 V) (ht : t < 6) (hi : i < V.2.2.1 t) (hk : k < vsz V.1 (V.2.2.2 t i).1) (hb : bt (V.1 (2238 + (V.2.2.2 t i).1)) k) : RS (wt_u s 111 (vpl V t i + 2 + k) (match q with | none => -1 | some x => nI (vpl V t x.1 + 2 + x.2))) (vpo V t i k q) := by
  refine h.set hj ht hi hk rfl rfl rfl rfl ?_ (fun k' hk' => ?_)
  · unfold vsw
    show (if bt (V.1 (2238 + (V.2.2.2 t i).1)) k then (match mj_upd (V.2.2.2 t i).2.2.2.2.2 k q k with | none => (-1 : Int32) | some x => nI (vpl V t x.1 + 2 + x.2)) else _) = _
    rw [if_pos hb, mj_upd_self]
  · unfold vsw
    show (if bt (V.1 (2238 + (V.2.2.2 t i).1)) k' then (match mj_upd (V.2.2.2 t i).2.2.2.2.2 k q k' with | none => (-1 : Int32) | some x => nI (vpl V t x.1 + 2 + x.2)) else _) = _
    rw [mj_upd_ne hk']
    rfl
theorem q_steps {B : Nat} {D : wt_S → Int32 → Int32 → Option (Int32 × wt_S)} {Z : (Nat → Int32) → Int32 → Int32 → Int32 → Bool} (hD : HD D Z) (h : RS s V) (hI : VI 2048 B V) (ht : t < 6) (hb : vbz V.1 t) (hB : B < 2147483200) : ∃ s', gX11_steps D s (nI t) = some ((), s') ∧ RS s' (vst 2048 Z V t) ∧ RF s s' := by
  obtain ⟨np, z, z2, z3, k, l, hP, h0, hhot, ⟨r1, r2, r3⟩, ⟨s1, s2, s3⟩, ⟨k1, k2⟩, ⟨l1, l2⟩, hs, hbg, hcb⟩ := hI.opn ht hb (by omega)
  have a1 := q_inc (i := 3947 + t) h (vtt (by omega) ht) (Or.inr (by omega))
  obtain ⟨b1, b2⟩ := q_cnt (c := 2) (v := 1) a1 (by omega)
  have hI1 : VI 2048 B (vinc V (3947 + t)) := hI.vs ht hb (vown_t (c := 3947) (by omega)) (by omega) (fun e => absurd e (by omega))
  have hb1 : vbz (vinc V (3947 + t)).1 t := by unfold vbz; rw [vinc_ne (by omega)]; exact hb
  have hI2 : VI 2048 B (vcn (vinc V (3947 + t)) 2 1) := hI1.vs ht hb1 (Or.inl (by omega)) (by omega) (fun e => absurd e (by omega))
  have hb2 : vbz (vcn (vinc V (3947 + t)) 2 1).1 t := by unfold vbz; rw [vcn_ne (by omega)]; exact hb1
  generalize hV1 : vcn (vinc V (3947 + t)) 2 1 = V1 at *
  have hat : ∀ i, i ≠ 3947 + t → i ≠ 2056 → V1.1 i = V.1 i := fun i g1 g2 => by rw [← hV1, vcn_ne (by omega), vinc_ne g1]
  have hV12 : V1.2 = V.2 := by rw [← hV1]; rfl
  have hw1 : vpe V.1 V1.1 := fun i hi => hat i (by omega) (by omega)
  have hlf1 : vlf V1 t = vlf V t := by unfold vlf; rw [hV12]
  obtain ⟨hj, hc, -, hz, h8, hzl, hlm, hl2, hq⟩ := hP
  obtain ⟨d1, d2, d3, d4, d5⟩ := hc.2.2.2.2.2.2.1 h0
  have hi0 : V.2.2.1 t - 1 < V.2.2.1 t := by omega
  have hft : (vlf V t).1 < 10 := (d3.1 _ hi0).1
  have d5 : V.1 (3975 + t) = nI (vlf V t).1 := d5
  have hli := hj.1.li hft
  have hF1 : RF s (wt_u (wt_u s 111 (3947 + t) (s 111 (3947 + t) + 1)) 111 (2054 + 2) ((vinc V (3947 + t)).1 (2054 + 2) + 1)) := RF.trans (RF.uf (Or.inl rfl)) (RF.uf (Or.inl rfl))
  have hln : (V.1 (3968 + t)).toInt.toNat = l := by rw [l1, nI_int (by omega)]; rfl
  have hvst : vst 2048 Z V t = (if l < vli V.1 (vlf V t).1 then vln1 2048 Z (vs V1 (3968 + t) (V1.1 (3968 + t) + 1)) t l (V.1 (vco (vlf V t).1 l)) (V.1 (vco (vlf V t).1 l + 1)) (V.1 (vco (vlf V t).1 l + 2)) (V.1 (vco (vlf V t).1 l + 3)) else vrt Z V1 t 0) := by
    unfold vst
    dsimp only
    rw [hV1, hln]
  rw [hvst]
  unfold gX11_steps
  rw [li_add, ix_nI (by omega) (by omega), li_add, ix_nI (by omega) (by omega), li_add, ix_nI (by omega) (by omega), ix_nI (by omega) (by omega), wr_eq, show gX11_counts (wt_u s 111 (3947 + t) (s 111 (3947 + t) + 1)) 2 1 = _ from b1, cl_some, h.tk (c := 3975) (by omega) ht, d5, li_add, ix_nI (by omega) (by omega), b2.pr (c := 2248 + (vlf V t).1) (by omega), hw1 _ (Or.inl (by omega)), hli.1, h.tk (c := 3968) (by omega) ht, l1, nI_int (by omega), nI_int (by omega)]
  by_cases cl : l < vli V.1 (vlf V t).1
  · rw [if_pos (by omega), if_pos cl, q_codeAt, cl_some]
    -- the line comes next
    have c2 := b2.u (i := 3968 + t) (v := V1.1 (3968 + t) + 1) (vtt (by omega) ht) (Or.inr (by omega))
    have hL : V1.1 (3968 + t) + 1 = nI (l + 1) := by rw [hat _ (by omega) (by omega), l1, nI_1]
    have hI3 : VI 2048 B (vs V1 (3968 + t) (V1.1 (3968 + t) + 1)) := hI2.vs ht hb2 (vown_t (c := 3968) (by omega)) (by omega) (fun _ => ⟨l + 1, by omega, hL⟩)
    have hb3 : vbz (vs V1 (3968 + t) (V1.1 (3968 + t) + 1)).1 t := by unfold vbz; rw [vs_ne (by omega)]; exact hb2
    generalize hV2 : vs V1 (3968 + t) (V1.1 (3968 + t) + 1) = V2 at *
    have hat2 : ∀ i, i ≠ 3947 + t → i ≠ 2056 → i ≠ 3968 + t → V2.1 i = V.1 i := fun i g1 g2 g3 => by rw [← hV2, vs_ne g3]; exact hat i g1 g2
    have hV22 : V2.2 = V.2 := by rw [← hV2]; exact hV12
    have hw2 : vpe V.1 V2.1 := fun i hi => hat2 i (by omega) (by omega) (by omega)
    have hlf2 : vlf V2 t = vlf V t := by unfold vlf; rw [hV22]
    have hn2 : V2.2.2.1 t = V.2.2.1 t := by rw [hV22]
    have hfr2 : V2.2.2.2 = V.2.2.2 := by rw [hV22]
    obtain ⟨np', z', z2', z3', k', l', hP', h0', hhot', ⟨r1', r2', r3'⟩, ⟨s1', s2', s3'⟩, ⟨k1', k2'⟩, ⟨l1', l2'⟩, hs', hbg', hcb'⟩ := hI3.opn ht hb3 (by omega)
    have hPP := hP'
    obtain ⟨hj', hc', -, -, -, -, -, -, -⟩ := hP'
    obtain ⟨e1, e2, e3, e4, e5⟩ := hc'.2.2.2.2.2.2.1 h0'
    have hi2 : V2.2.2.1 t - 1 < V2.2.2.1 t := by omega
    have hlfe : V2.2.2.2 t (V2.2.2.1 t - 1) = vlf V t := by rw [← hlf2]; rfl
    have hfit := (hj'.fit ht hi2).2.2
    unfold vwd at hfit
    rw [hlfe] at hfit
    have hsz2 : vsz V2.1 (vlf V t).1 = vsz V.1 (vlf V t).1 := (hw2.sz hft).1
    have hbt2 : V2.1 (2238 + (vlf V t).1) = V.1 (2238 + (vlf V t).1) := (hw2.sz hft).2.2.2
    have hlin := (hj.1 _ hft).2.2 l cl
    unfold vlin at hlin
    have hco : ∀ j, j < 4 → (wt_u (wt_u s 111 (3947 + t) (s 111 (3947 + t) + 1)) 111 (2054 + 2) ((vinc V (3947 + t)).1 (2054 + 2) + 1)) 111 (2258 + 4 * (16 * (vlf V t).1 + l) + j) = V.1 (vco (vlf V t).1 l + j) := fun j hj4 => by
      rw [b2.pr (c := 2258 + 4 * (16 * (vlf V t).1 + l) + j) (by omega), hw1 _ (Or.inl (by omega))]
      rfl
    have hAT : (wt_u (wt_u s 111 (3947 + t) (s 111 (3947 + t) + 1)) 111 (2054 + 2) ((vinc V (3947 + t)).1 (2054 + 2) + 1)) 111 (3982 + t) = nI (vpl V2 t (V2.2.2.1 t - 1)) := by
      rw [b2.tk (c := 3982) (by omega) ht, ← e4, ← hV2, vs_ne (by omega)]
    have hLN : (wt_u (wt_u s 111 (3947 + t) (s 111 (3947 + t) + 1)) 111 (2054 + 2) ((vinc V (3947 + t)).1 (2054 + 2) + 1)) 111 (3968 + t) = V1.1 (3968 + t) := b2.tk (c := 3968) (by omega) ht
    have hF2 := RF.trans hF1 (RF.uf (s := (wt_u (wt_u s 111 (3947 + t) (s 111 (3947 + t) + 1)) 111 (2054 + 2) ((vinc V (3947 + t)).1 (2054 + 2) + 1))) (f := mj_upd ((wt_u (wt_u s 111 (3947 + t) (s 111 (3947 + t) + 1)) 111 (2054 + 2) ((vinc V (3947 + t)).1 (2054 + 2) + 1)) 111) (3968 + t) (V1.1 (3968 + t) + 1)) (Or.inl rfl))
    generalize hS1 : (wt_u (wt_u s 111 (3947 + t) (s 111 (3947 + t) + 1)) 111 (2054 + 2) ((vinc V (3947 + t)).1 (2054 + 2) + 1)) = S1 at *
    have hkd : (wt_u S1 111 (3968 + t) (V1.1 (3968 + t) + 1)) 111 (2258 + 4 * (16 * (vlf V t).1 + l)) = V.1 (vco (vlf V t).1 l) := by
      rw [wt_u_nk (by omega)]
      exact hco 0 (by omega)
    rw [li_add2, ix_nI (by omega) (by omega), li_add2, ix_nI (by omega) (by omega), li_add2, ix_nI (by omega) (by omega), li_add, ix_nI (by omega) (by omega), ix_nI (by omega) (by omega), ix_nI (by omega) (by omega), wr_eq, hLN, ix_nI (by omega) (by omega), hkd, hco 1 (by omega), hco 2 (by omega), hco 3 (by omega), hAT]
    have hF2 : RF s (wt_u S1 111 (3968 + t) (V1.1 (3968 + t) + 1)) := hF2
    generalize hS2 : wt_u S1 111 (3968 + t) (V1.1 (3968 + t) + 1) = S2 at *
    generalize hKK : V.1 (vco (vlf V t).1 l) = K at *
    generalize hAA : V.1 (vco (vlf V t).1 l + 1) = A at *
    generalize hBB : V.1 (vco (vlf V t).1 l + 2) = Bb at *
    generalize hCC : V.1 (vco (vlf V t).1 l + 3) = C at *
    have hsz8 := (hj.1.sz hft).2
    have hword : ∀ x, x < vsz V.1 (vlf V t).1 → S2 111 (vpl V2 t (V2.2.2.1 t - 1) + 2 + x) = vsw V2.1 (vpl V2 t) (vlf V t) x := fun x hx => by
      have := (c2.wd hj' rfl ht hi2).2.2 x (by rw [hlfe, hsz2]; exact hx)
      rw [hlfe] at this
      exact this
    have hnw : ∀ x, x < vsz V.1 (vlf V t).1 → ¬ bt (V.1 (2238 + (vlf V t).1)) x → gX11_word S2 (nI (vpl V2 t (V2.2.2.1 t - 1)) + 2 + nI x) = some (vnm (vlf V t) (nI x), S2) := fun x hx hb => by
      rw [li_add2, nI_add, q_word0 c2.1 (by omega), hword x hx]
      unfold vsw vnm
      rw [hbt2, if_neg hb, nI_int (by omega)]
      rfl
    have hpw : ∀ x, x < vsz V.1 (vlf V t).1 → bt (V.1 (2238 + (vlf V t).1)) x → gX11_word S2 (nI (vpl V2 t (V2.2.2.1 t - 1)) + 2 + nI x) = some ((match (vlf V t).2.2.2.2.2 x with | none => (-1 : Int32) | some q => nI (vpl V2 t q.1 + 2 + q.2)), S2) := fun x hx hb => by
      rw [li_add2, nI_add, q_word0 c2.1 (by omega), hword x hx]
      unfold vsw
      rw [hbt2, if_pos hb]
      rfl
    have hly : ∀ x (v : Int32), x < vsz V.1 (vlf V t).1 → ¬ bt (V.1 (2238 + (vlf V t).1)) x → ∃ s', gX11_lays S2 (nI (vpl V2 t (V2.2.2.1 t - 1)) + 2 + nI x) v = some ((), s') ∧ RS s' (vnu V2 t (V2.2.2.1 t - 1) x v) ∧ RF s s' := fun x v hx hb => by
      refine ⟨_, ?_, c2.num (k := x) (v := v) hj' ht hi2 (by rw [hlfe, hsz2]; exact hx) (by rw [hlfe, hbt2]; exact hb), RF.trans hF2 (RF.uf (Or.inl rfl))⟩
      rw [li_add2, nI_add, q_lays0 c2.1 (by omega)]
    have hptg : ∀ x, x < vsz V.1 (vlf V t).1 → bt (V.1 (2238 + (vlf V t).1)) x → ∀ q, (vlf V t).2.2.2.2.2 x = some q → q.1 < V2.2.2.1 t ∧ q.2 < vsz V2.1 (V2.2.2.2 t q.1).1 ∧ ¬ bt (V2.1 (2238 + (V2.2.2.2 t q.1).1)) q.2 := fun x hx hb q hq => by
      have := e3.2.2.2.2.2 (V2.2.2.1 t - 1) hi2 x (by rw [hlfe, hsz2]; exact hx) (by rw [hlfe, hbt2]; exact hb) q (by rw [hlfe]; exact hq)
      exact ⟨by omega, this.2.1, this.2.2⟩
    have hK : K = 0 ∨ K = 1 ∨ K = 2 ∨ K = 3 ∨ K = 4 ∨ K = 5 ∨ K = 6 ∨ K = 7 ∨ K = 8 ∨ K = 9 ∨ K = 10 := by
      obtain ⟨kk, kk1, rfl⟩ := nI_ex hlin.1.1
      have := hlin.1.2
      rw [nI_int kk1] at this
      have : kk = 0 ∨ kk = 1 ∨ kk = 2 ∨ kk = 3 ∨ kk = 4 ∨ kk = 5 ∨ kk = 6 ∨ kk = 7 ∨ kk = 8 ∨ kk = 9 ∨ kk = 10 := by omega
      rcases this with rfl | rfl | rfl | rfl | rfl | rfl | rfl | rfl | rfl | rfl | rfl <;> decide
    unfold vcan at hlin
    obtain ⟨-, p0, p1, p3, p4, p5, p6, p7, p8, p9⟩ := hlin
    unfold vln1
    dsimp only
    rw [hlf2]
    rcases hK with rfl | rfl | rfl | rfl | rfl | rfl | rfl | rfl | rfl | rfl | rfl
    · rw [if_neg (show ¬ ((0 : Int32).toInt < 0 ∨ 9 < (0 : Int32).toInt) by decide), if_pos (show (0 : Int32).toInt = 0 by decide), if_pos rfl]
      obtain ⟨a, rfl, a2, a3, a4, a5⟩ := vnum_nat hj.1 hft (p0 rfl)
      obtain ⟨s', f1, f2, f3⟩ := hly a Bb a3 a5
      exact ⟨s', by rw [f1, cl_some], by rw [a2]; exact f2, f3⟩
    · rw [if_neg (show ¬ ((1 : Int32).toInt < 0 ∨ 9 < (1 : Int32).toInt) by decide), if_neg (show ¬ (1 : Int32).toInt = 0 by decide), if_pos (show (1 : Int32).toInt = 1 by decide), if_neg (show ¬ (1 : Int32) = 0 by decide), if_pos rfl]
      obtain ⟨q1, q2, q3⟩ := p1 (Or.inl rfl)
      obtain ⟨a, rfl, a2, a3, a4, a5⟩ := vnum_nat hj.1 hft q1
      obtain ⟨b, rfl, bb2, bb3, bb4, bb5⟩ := vnum_nat hj.1 hft q2
      obtain ⟨c, rfl, cc2, cc3, cc4, cc5⟩ := vnum_nat hj.1 hft q3
      obtain ⟨s', f1, f2, f3⟩ := hly a (vnm (vlf V t) (nI b) + vnm (vlf V t) (nI c)) a3 a5
      exact ⟨s', by rw [hnw b bb3 bb5, cl_some, hnw c cc3 cc5, cl_some, f1, cl_some], by rw [a2]; exact f2, f3⟩
    · rw [if_neg (show ¬ ((2 : Int32).toInt < 0 ∨ 9 < (2 : Int32).toInt) by decide), if_neg (show ¬ (2 : Int32).toInt = 0 by decide), if_neg (show ¬ (2 : Int32).toInt = 1 by decide), if_pos (show (2 : Int32).toInt = 2 by decide), if_neg (show ¬ (2 : Int32) = 0 by decide), if_neg (show ¬ (2 : Int32) = 1 by decide), if_pos rfl]
      obtain ⟨q1, q2, q3⟩ := p1 (Or.inr rfl)
      obtain ⟨a, rfl, a2, a3, a4, a5⟩ := vnum_nat hj.1 hft q1
      obtain ⟨b, rfl, bb2, bb3, bb4, bb5⟩ := vnum_nat hj.1 hft q2
      obtain ⟨c, rfl, cc2, cc3, cc4, cc5⟩ := vnum_nat hj.1 hft q3
      obtain ⟨s', f1, f2, f3⟩ := hly a (if (vnm (vlf V t) (nI c)).toInt ≤ (vnm (vlf V t) (nI b)).toInt then 0 else 1) a3 a5
      refine ⟨s', ?_, by rw [a2]; exact f2, f3⟩
      rw [hnw b bb3 bb5, cl_some, hnw c cc3 cc5, cl_some]
      unfold gX11_steps_269
      by_cases cq : (vnm (vlf V t) (nI c)).toInt ≤ (vnm (vlf V t) (nI b)).toInt
      · rw [if_pos cq] at f1 ⊢
        rw [f1, cl_some]
      · rw [if_neg cq] at f1 ⊢
        rw [f1, cl_some]
    · rw [if_neg (show ¬ ((3 : Int32).toInt < 0 ∨ 9 < (3 : Int32).toInt) by decide), if_neg (show ¬ (3 : Int32).toInt = 0 by decide), if_neg (show ¬ (3 : Int32).toInt = 1 by decide), if_neg (show ¬ (3 : Int32).toInt = 2 by decide), if_pos (show (3 : Int32).toInt = 3 by decide), if_neg (show ¬ (3 : Int32) = 0 by decide), if_neg (show ¬ (3 : Int32) = 1 by decide), if_neg (show ¬ (3 : Int32) = 2 by decide), if_pos rfl]
      obtain ⟨q1, q2⟩ := p3 rfl
      obtain ⟨a, rfl, a2, a3, a4, a5⟩ := vptr_nat hj.1 hft q1
      obtain ⟨b, rfl, bb2, bb3, bb4, bb5⟩ := vnum_nat hj.1 hft q2
      have f2 := RS.ptr (k := a) (q := some (V2.2.2.1 t - 1, b)) c2 hj' ht hi2 (by rw [hlfe, hsz2]; exact a3) (by rw [hlfe, hbt2]; exact a5)
      refine ⟨_, ?_, by rw [a2, bb2]; exact f2, RF.trans hF2 (RF.uf (Or.inl rfl))⟩
      rw [li_add2, nI_add, nI_add, q_lays0 c2.1 (by omega), cl_some]
      rfl
    · rw [if_neg (show ¬ ((4 : Int32).toInt < 0 ∨ 9 < (4 : Int32).toInt) by decide), if_neg (show ¬ (4 : Int32).toInt = 0 by decide), if_neg (show ¬ (4 : Int32).toInt = 1 by decide), if_neg (show ¬ (4 : Int32).toInt = 2 by decide), if_neg (show ¬ (4 : Int32).toInt = 3 by decide), if_pos (show (4 : Int32).toInt = 4 by decide), if_neg (show ¬ (4 : Int32) = 0 by decide), if_neg (show ¬ (4 : Int32) = 1 by decide), if_neg (show ¬ (4 : Int32) = 2 by decide), if_neg (show ¬ (4 : Int32) = 3 by decide), if_pos rfl]
      obtain ⟨q1, q2⟩ := p4 rfl
      obtain ⟨a, rfl, a2, a3, a4, a5⟩ := vnum_nat hj.1 hft q1
      obtain ⟨b, rfl, bb2, bb3, bb4, bb5⟩ := vptr_nat hj.1 hft q2
      rw [bb2, a2, hpw b bb3 bb5, cl_some]
      unfold gX11_steps_328
      cases eq : (vlf V t).2.2.2.2.2 b with
      | none =>
        obtain ⟨s', f1, f2, f3⟩ := hly a 0 a3 a5
        exact ⟨s', by rw [if_neg (by simp), f1, cl_some], f2, f3⟩
      | some q =>
        obtain ⟨g1, g2, g3⟩ := hptg b bb3 bb5 q eq
        have hfq := (hj'.fit ht g1).2.2
        unfold vwd at hfq
        have hwq := (c2.wd hj' rfl ht g1).2.2 q.2 g2
        have hvq : vsw V2.1 (vpl V2 t) (V2.2.2.2 t q.1) q.2 = (V2.2.2.2 t q.1).2.2.2.2.1 q.2 := by unfold vsw; rw [if_neg g3]
        obtain ⟨s', f1, f2, f3⟩ := hly a ((V2.2.2.2 t q.1).2.2.2.2.1 q.2) a3 a5
        refine ⟨s', ?_, f2, f3⟩
        dsimp only
        rw [if_pos (nI_m1 (by omega)), hpw b bb3 bb5, cl_some, eq]
        dsimp only
        rw [q_word0 c2.1 (by omega), cl_some, hwq, hvq, f1, cl_some]
    · rw [if_neg (show ¬ ((5 : Int32).toInt < 0 ∨ 9 < (5 : Int32).toInt) by decide), if_neg (show ¬ (5 : Int32).toInt = 0 by decide), if_neg (show ¬ (5 : Int32).toInt = 1 by decide), if_neg (show ¬ (5 : Int32).toInt = 2 by decide), if_neg (show ¬ (5 : Int32).toInt = 3 by decide), if_neg (show ¬ (5 : Int32).toInt = 4 by decide), if_pos (show (5 : Int32).toInt = 5 by decide), if_neg (show ¬ (5 : Int32) = 0 by decide), if_neg (show ¬ (5 : Int32) = 1 by decide), if_neg (show ¬ (5 : Int32) = 2 by decide), if_neg (show ¬ (5 : Int32) = 3 by decide), if_neg (show ¬ (5 : Int32) = 4 by decide), if_pos rfl]
      obtain ⟨q1, q2⟩ := p5 rfl
      obtain ⟨a, rfl, a2, a3, a4, a5⟩ := vptr_nat hj.1 hft q1
      obtain ⟨b, rfl, bb2, bb3, bb4, bb5⟩ := vnum_nat hj.1 hft q2
      rw [a2, hpw a a3 a5, cl_some]
      cases eq : (vlf V t).2.2.2.2.2 a with
      | none =>
        exact ⟨S2, by rw [if_pos rfl], c2, hF2⟩
      | some q =>
        obtain ⟨g1, g2, g3⟩ := hptg a a3 a5 q eq
        have hfq := (hj'.fit ht g1).2.2
        unfold vwd at hfq
        refine ⟨_, ?_, c2.num (v := vnm (vlf V t) (nI b)) hj' ht g1 g2 g3, RF.trans hF2 (RF.uf (Or.inl rfl))⟩
        dsimp only
        rw [if_neg (nI_m1 (by omega)), hpw a a3 a5, cl_some, eq, hnw b bb3 bb5, cl_some]
        dsimp only
        rw [q_lays0 c2.1 (by omega), cl_some]
    · rw [if_neg (show ¬ ((6 : Int32).toInt < 0 ∨ 9 < (6 : Int32).toInt) by decide), if_neg (show ¬ (6 : Int32).toInt = 0 by decide), if_neg (show ¬ (6 : Int32).toInt = 1 by decide), if_neg (show ¬ (6 : Int32).toInt = 2 by decide), if_neg (show ¬ (6 : Int32).toInt = 3 by decide), if_neg (show ¬ (6 : Int32).toInt = 4 by decide), if_neg (show ¬ (6 : Int32).toInt = 5 by decide), if_pos (show (6 : Int32).toInt = 6 by decide), if_neg (show ¬ (6 : Int32) = 0 by decide), if_neg (show ¬ (6 : Int32) = 1 by decide), if_neg (show ¬ (6 : Int32) = 2 by decide), if_neg (show ¬ (6 : Int32) = 3 by decide), if_neg (show ¬ (6 : Int32) = 4 by decide), if_neg (show ¬ (6 : Int32) = 5 by decide), if_pos rfl]
      obtain ⟨⟨f, rfl, f10⟩, ⟨b, rfl, b3'⟩, q3⟩ := p6 rfl
      obtain ⟨c, rfl, cc2, cc3, cc4, cc5⟩ := vnum_nat hj.1 hft q3
      have hfn : (nI f).toInt.toNat = f := by rw [nI_int (by omega)]; rfl
      have hbn : (nI b).toInt.toNat = b := by rw [nI_int (by omega)]; rfl
      have htl : tld (S2 111) (nI f) ↔ tld V2.1 (nI f) := c2.prog.tl
      rw [q_isTold, cl_some, if_rb]
      by_cases ct : tld V2.1 (nI f)
      · rw [if_pos (htl.mpr ct), if_pos ct, hfn, hbn]
        have ct0 := hw2.tl.mp ct
        have hE : vE V2.1 (vlf V t).1 f := by
          refine ⟨l, by rw [(hw2.sz hft).2.2.1]; exact cl, ?_, ?_⟩
          · rw [hw2.cal hft (by omega)]
            unfold vcal
            rw [hKK, if_pos rfl, hAA]
            exact ct
          · rw [hw2.cal hft (by omega)]
            unfold vcal
            rw [hKK, if_pos rfl, hAA]
            exact hfn
        have hs1 : 1 ≤ vsz V2.1 f := by
          have := ct.2
          rw [hfn] at this
          unfold vsz
          omega
        obtain ⟨s', f1, f2, f3⟩ := q_calls (bk := 32 * (vlf V t).1 + l + 1) (k0 := b) (l5 := 0) (k := k') c2 hPP f10 hs1 r1' (by omega) k1' (by omega) hs' h0' (by rw [hlfe, hsz2]; exact b3') (by rw [hlfe]; exact hE)
        rw [hlfe] at f2
        exact ⟨s', by rw [li_mul, nI_add, li_add2, f1, cl_some], f2, RF.trans hF2 f3⟩
      · rw [if_neg (fun q => ct (htl.mp q)), if_neg ct, cc2]
        obtain ⟨s', f1, f2, f3⟩ := hly c 0 cc3 cc5
        exact ⟨s', by rw [f1, cl_some], f2, f3⟩
    · rw [if_neg (show ¬ ((7 : Int32).toInt < 0 ∨ 9 < (7 : Int32).toInt) by decide), if_neg (show ¬ (7 : Int32).toInt = 0 by decide), if_neg (show ¬ (7 : Int32).toInt = 1 by decide), if_neg (show ¬ (7 : Int32).toInt = 2 by decide), if_neg (show ¬ (7 : Int32).toInt = 3 by decide), if_neg (show ¬ (7 : Int32).toInt = 4 by decide), if_neg (show ¬ (7 : Int32).toInt = 5 by decide), if_neg (show ¬ (7 : Int32).toInt = 6 by decide), if_pos (show (7 : Int32).toInt = 7 by decide), if_neg (show ¬ (7 : Int32) = 0 by decide), if_neg (show ¬ (7 : Int32) = 1 by decide), if_neg (show ¬ (7 : Int32) = 2 by decide), if_neg (show ¬ (7 : Int32) = 3 by decide), if_neg (show ¬ (7 : Int32) = 4 by decide), if_neg (show ¬ (7 : Int32) = 5 by decide), if_neg (show ¬ (7 : Int32) = 6 by decide), if_pos rfl]
      obtain ⟨q1, ⟨l9, rfl, l91⟩⟩ := p7 rfl
      obtain ⟨a, rfl, a2, a3, a4, a5⟩ := vnum_nat hj.1 hft q1
      rw [hnw a a3 a5, cl_some]
      by_cases cq : (vnm (vlf V t) (nI a)).toInt ≤ 0
      · rw [if_pos (show (vnm (vlf V t) (nI a)).toInt ≤ (0 : Int32).toInt from cq), if_pos cq]
        exact ⟨S2, rfl, c2, hF2⟩
      · rw [if_neg (show ¬ (vnm (vlf V t) (nI a)).toInt ≤ (0 : Int32).toInt from cq), if_neg cq, ix_nI (by omega) (by omega), wr_eq]
        exact ⟨_, rfl, c2.u (vtt (by omega) ht) (Or.inr (by omega)), RF.trans hF2 (RF.uf (Or.inl rfl))⟩
    · rw [if_neg (show ¬ ((8 : Int32).toInt < 0 ∨ 9 < (8 : Int32).toInt) by decide), if_neg (show ¬ (8 : Int32).toInt = 0 by decide), if_neg (show ¬ (8 : Int32).toInt = 1 by decide), if_neg (show ¬ (8 : Int32).toInt = 2 by decide), if_neg (show ¬ (8 : Int32).toInt = 3 by decide), if_neg (show ¬ (8 : Int32).toInt = 4 by decide), if_neg (show ¬ (8 : Int32).toInt = 5 by decide), if_neg (show ¬ (8 : Int32).toInt = 6 by decide), if_neg (show ¬ (8 : Int32).toInt = 7 by decide), if_pos (show (8 : Int32).toInt = 8 by decide), if_neg (show ¬ (8 : Int32) = 0 by decide), if_neg (show ¬ (8 : Int32) = 1 by decide), if_neg (show ¬ (8 : Int32) = 2 by decide), if_neg (show ¬ (8 : Int32) = 3 by decide), if_neg (show ¬ (8 : Int32) = 4 by decide), if_neg (show ¬ (8 : Int32) = 5 by decide), if_neg (show ¬ (8 : Int32) = 6 by decide), if_neg (show ¬ (8 : Int32) = 7 by decide), if_pos rfl]
      obtain ⟨a, rfl, a2, a3, a4, a5⟩ := vnum_nat hj.1 hft (p8 rfl)
      obtain ⟨s', f1, f2, f3⟩ := q_returns (v := vnm (vlf V t) (nI a)) (k := k') hD c2 hPP h0' hhot' hs' k1' (by omega) r1' (by omega) hbg' hcb'
      exact ⟨s', by rw [hnw a a3 a5, cl_some, f1, cl_some], f2, RF.trans hF2 f3⟩
    · rw [if_neg (show ¬ ((9 : Int32).toInt < 0 ∨ 9 < (9 : Int32).toInt) by decide), if_neg (show ¬ (9 : Int32).toInt = 0 by decide), if_neg (show ¬ (9 : Int32).toInt = 1 by decide), if_neg (show ¬ (9 : Int32).toInt = 2 by decide), if_neg (show ¬ (9 : Int32).toInt = 3 by decide), if_neg (show ¬ (9 : Int32).toInt = 4 by decide), if_neg (show ¬ (9 : Int32).toInt = 5 by decide), if_neg (show ¬ (9 : Int32).toInt = 6 by decide), if_neg (show ¬ (9 : Int32).toInt = 7 by decide), if_neg (show ¬ (9 : Int32).toInt = 8 by decide), if_pos (show (9 : Int32).toInt = 9 by decide), if_neg (show ¬ (9 : Int32) = 0 by decide), if_neg (show ¬ (9 : Int32) = 1 by decide), if_neg (show ¬ (9 : Int32) = 2 by decide), if_neg (show ¬ (9 : Int32) = 3 by decide), if_neg (show ¬ (9 : Int32) = 4 by decide), if_neg (show ¬ (9 : Int32) = 5 by decide), if_neg (show ¬ (9 : Int32) = 6 by decide), if_neg (show ¬ (9 : Int32) = 7 by decide), if_neg (show ¬ (9 : Int32) = 8 by decide), if_pos rfl]
      obtain ⟨⟨wa, rfl, wa1, wa2⟩, hbf, q3⟩ := p9 rfl
      obtain ⟨c, rfl, cc2, cc3, cc4, cc5⟩ := vnum_nat hj.1 hft q3
      obtain ⟨s', f1, f2, f3⟩ := q_foreign (words := nI wa) (f := Bb) (c := c) (k := k') c2 hPP h0' r1' (by omega) s1' (by omega) hs' k1' (by omega) l1' l2' (by rw [hlf2, hsz2]; exact cc3) (by rw [hlf2, hbt2]; exact cc5) (fun ct => by
        rw [hlf2]
        refine ⟨l, by rw [(hw2.sz hft).2.2.1]; exact cl, ?_, ?_⟩
        · rw [hw2.cal hft (by omega)]
          unfold vcal
          rw [hKK, if_neg (by decide), if_pos rfl, hBB]
          exact ct
        · rw [hw2.cal hft (by omega)]
          unfold vcal
          rw [hKK, if_neg (by decide), if_pos rfl, hBB])
      exact ⟨s', by rw [f1, cl_some], f2, RF.trans hF2 f3⟩
    · rw [if_pos (show ((10 : Int32).toInt < 0 ∨ 9 < (10 : Int32).toInt) by decide), if_neg (show ¬ (10 : Int32) = 0 by decide), if_neg (show ¬ (10 : Int32) = 1 by decide), if_neg (show ¬ (10 : Int32) = 2 by decide), if_neg (show ¬ (10 : Int32) = 3 by decide), if_neg (show ¬ (10 : Int32) = 4 by decide), if_neg (show ¬ (10 : Int32) = 5 by decide), if_neg (show ¬ (10 : Int32) = 6 by decide), if_neg (show ¬ (10 : Int32) = 7 by decide), if_neg (show ¬ (10 : Int32) = 8 by decide), if_neg (show ¬ (10 : Int32) = 9 by decide)]
      obtain ⟨s', f1, f2, f3⟩ := q_quiets (k := k') c2 hPP r1' (by omega) k1' (by omega)
      exact ⟨s', by rw [f1, cl_some], f2, RF.trans hF2 f3⟩
  · rw [if_neg (by omega), if_neg cl]
    have hP1 : Vpre 2048 V1 t np z := Vpre.ww ⟨hj, hc, ht, hz, h8, hzl, hlm, hl2, hq⟩ hV12 (fun i hi h2 => hat i (by omega) (by omega)) (fun c hc => hat _ (by omega) (by omega))
    obtain ⟨s', f1, f2, f3⟩ := q_returns (v := 0) (k := k) hD b2 hP1 (by rw [hV12]; exact h0) (by rw [hat _ (by omega) (by omega)]; exact hhot) (by rw [hat _ (by omega) (by omega)]; exact hs) (by rw [hat _ (by omega) (by omega)]; exact k1) (by omega) (by rw [hat _ (by omega) (by omega)]; exact r1) (by omega) (by rw [hat _ (by omega) (by omega)]; exact hw1.tl.mpr hbg) (by rw [hat _ (by omega) (by omega), hV12]; exact hcb)
    exact ⟨s', by rw [f1, cl_some], f2, RF.trans hF1 f3⟩
end
