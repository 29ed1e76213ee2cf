section
/-! ===== the reference: a step ===== -/
section
variable {s : wt_S} {V : vV} {t np z k : Nat}
theorem vnum_nat {w : Nat → Int32} {f : Nat} {x : Int32} (hp : Ipr w) (hf : f < 10) (h : vnum w f x) : ∃ k, x = nI k ∧ x.toInt.toNat = k ∧ k < vsz w f ∧ k < 8 ∧ ¬ bt (w (2238 + f)) k := by
  obtain ⟨k, h1, h2, h3⟩ := h
  have := (hp.sz hf).2
  exact ⟨k, h1, by rw [h1, nI_int (by omega)]; rfl, h2, by omega, h3⟩
theorem vptr_nat {w : Nat → Int32} {f : Nat} {x : Int32} (hp : Ipr w) (hf : f < 10) (h : vptr w f x) : ∃ k, x = nI k ∧ x.toInt.toNat = k ∧ k < vsz w f ∧ k < 8 ∧ bt (w (2238 + f)) k := by
  obtain ⟨k, h1, h2, h3⟩ := h
  have := (hp.sz hf).2
  exact ⟨k, h1, by rw [h1, nI_int (by omega)]; rfl, h2, by omega, h3⟩
theorem RS.ptr {i k : Nat} {q : Option (Nat × Nat)} (h : RS s V) (hj : VJ 2048 V) (ht : t < 6) (hi : i < V.2.2.1 t) (hk : k < vsz V.1 (V.2.2.2 t i).1) (hb : bt (V.1 (2238 + (V.2.2.2 t i).1)) k) : RS (wt_u s 111 (vpl V t i + 2 + k) (match q with | none => -1 | some x => nI (vpl V t x.1 + 2 + x.2))) (vpo V t i k q) := by
  refine h.set hj ht hi hk rfl rfl rfl rfl ?_ (fun k' hk' => ?_)
  · unfold vsw
    show (if bt (V.1 (2238 + (V.2.2.2 t i).1)) k then (match mj_upd (V.2.2.2 t i).2.2.2.2.2 k q k with | none => (-1 : Int32) | some x => nI (vpl V t x.1 + 2 + x.2)) else _) = _
    rw [if_pos hb, mj_upd_self]
  · unfold vsw
    show (if bt (V.1 (2238 + (V.2.2.2 t i).1)) k' then (match mj_upd (V.2.2.2 t i).2.2.2.2.2 k q k' with | none => (-1 : Int32) | some x => nI (vpl V t x.1 + 2 + x.2)) else _) = _
    rw [mj_upd_ne hk']
    rfl
theorem q_steps {B : Nat} {D : wt_S → Int32 → Int32 → Option (Int32 × wt_S)} {Z : (Nat → Int32) → Int32 → Int32 → Int32 → Bool} (hD : HD D Z) (h : RS s V) (hI : VI 2048 B V) (ht : t < 6) (hb : vbz V.1 t) (hB : B < 2147483200) : ∃ s', gX11_steps D s (nI t) = some ((), s') ∧ RS s' (vst 2048 Z V t) ∧ RF s s' := by
  obtain ⟨np, z, z2, z3, k, l, hP, h0, hhot, ⟨r1, r2, r3⟩, ⟨s1, s2, s3⟩, ⟨k1, k2⟩, ⟨l1, l2⟩, hs, hbg, hcb⟩ := hI.opn ht hb (by omega)
  have a1 := q_inc (i := 3947 + t) h (vtt (by omega) ht) (Or.inr (by omega))
  obtain ⟨b1, b2⟩ := q_cnt (c := 2) (v := 1) a1 (by omega)
  have hI1 : VI 2048 B (vinc V (3947 + t)) := hI.vs ht hb (vown_t (c := 3947) (by omega)) (by omega) (fun e => absurd e (by omega))
  have hb1 : vbz (vinc V (3947 + t)).1 t := by unfold vbz; rw [vinc_ne (by omega)]; exact hb
  have hI2 : VI 2048 B (vcn (vinc V (3947 + t)) 2 1) := hI1.vs ht hb1 (Or.inl (by omega)) (by omega) (fun e => absurd e (by omega))
  have hb2 : vbz (vcn (vinc V (3947 + t)) 2 1).1 t := by unfold vbz; rw [vcn_ne (by omega)]; exact hb1
  generalize hV1 : vcn (vinc V (3947 + t)) 2 1 = V1 at *
  have hat : ∀ i, i ≠ 3947 + t → i ≠ 2056 → V1.1 i = V.1 i := fun i g1 g2 => by rw [← hV1, vcn_ne (by omega), vinc_ne g1]
  have hV12 : V1.2 = V.2 := by rw [← hV1]; rfl
  have hw1 : vpe V.1 V1.1 := fun i hi => hat i (by omega) (by omega)
  have hlf1 : vlf V1 t = vlf V t := by unfold vlf; rw [hV12]
  obtain ⟨hj, hc, -, hz, h8, hzl, hlm, hl2, hq⟩ := hP
  obtain ⟨d1, d2, d3, d4, d5⟩ := hc.2.2.2.2.2.2.1 h0
  have hi0 : V.2.2.1 t - 1 < V.2.2.1 t := by omega
  have hft : (vlf V t).1 < 10 := (d3.1 _ hi0).1
  have d5 : V.1 (3975 + t) = nI (vlf V t).1 := d5
  have hli := hj.1.li hft
  have hF1 : RF s (wt_u (wt_u s 111 (3947 + t) (s 111 (3947 + t) + 1)) 111 (2054 + 2) ((vinc V (3947 + t)).1 (2054 + 2) + 1)) := RF.trans (RF.uf (Or.inl rfl)) (RF.uf (Or.inl rfl))
  have hln : (V.1 (3968 + t)).toInt.toNat = l := by rw [l1, nI_int (by omega)]; rfl
  have hvst : vst 2048 Z V t = (if l < vli V.1 (vlf V t).1 then vln1 2048 Z (vs V1 (3968 + t) (V1.1 (3968 + t) + 1)) t l (V.1 (vco (vlf V t).1 l)) (V.1 (vco (vlf V t).1 l + 1)) (V.1 (vco (vlf V t).1 l + 2)) (V.1 (vco (vlf V t).1 l + 3)) else vrt Z V1 t 0) := by
    unfold vst
    dsimp only
    rw [hV1, hln]
  rw [hvst]
  unfold gX11_steps
  rw [li_add, ix_nI (by omega) (by omega), li_add, ix_nI (by omega) (by omega), li_add, ix_nI (by omega) (by omega), ix_nI (by omega) (by omega), wr_eq, show gX11_counts (wt_u s 111 (3947 + t) (s 111 (3947 + t) + 1)) 2 1 = _ from b1, cl_some, h.tk (c := 3975) (by omega) ht, d5, li_add, ix_nI (by omega) (by omega), b2.pr (c := 2248 + (vlf V t).1) (by omega), hw1 _ (Or.inl (by omega)), hli.1, h.tk (c := 3968) (by omega) ht, l1, nI_int (by omega), nI_int (by omega)]
  by_cases cl : l < vli V.1 (vlf V t).1
  · rw [if_pos (by omega), if_pos cl, q_codeAt, cl_some]
    -- the line comes next
    have c2 := b2.u (i := 3968 + t) (v := V1.1 (3968 + t) + 1) (vtt (by omega) ht) (Or.inr (by omega))
    have hL : V1.1 (3968 + t) + 1 = nI (l + 1) := by rw [hat _ (by omega) (by omega), l1, nI_1]
    have hI3 : VI 2048 B (vs V1 (3968 + t) (V1.1 (3968 + t) + 1)) := hI2.vs ht hb2 (vown_t (c := 3968) (by omega)) (by omega) (fun _ => ⟨l + 1, by omega, hL⟩)
    have hb3 : vbz (vs V1 (3968 + t) (V1.1 (3968 + t) + 1)).1 t := by unfold vbz; rw [vs_ne (by omega)]; exact hb2
    generalize hV2 : vs V1 (3968 + t) (V1.1 (3968 + t) + 1) = V2 at *
    have hat2 : ∀ i, i ≠ 3947 + t → i ≠ 2056 → i ≠ 3968 + t → V2.1 i = V.1 i := fun i g1 g2 g3 => by rw [← hV2, vs_ne g3]; exact hat i g1 g2
    have hV22 : V2.2 = V.2 := by rw [← hV2]; exact hV12
    have hw2 : vpe V.1 V2.1 := fun i hi => hat2 i (by omega) (by omega) (by omega)
    have hlf2 : vlf V2 t = vlf V t := by unfold vlf; rw [hV22]
    have hn2 : V2.2.2.1 t = V.2.2.1 t := by rw [hV22]
    have hfr2 : V2.2.2.2 = V.2.2.2 := by rw [hV22]
    obtain ⟨np', z', z2', z3', k', l', hP', h0', hhot', ⟨r1', r2', r3'⟩, ⟨s1', s2', s3'⟩, ⟨k1', k2'⟩, ⟨l1', l2'⟩, hs', hbg', hcb'⟩ := hI3.opn ht hb3 (by omega)
    have hPP := hP'
    obtain ⟨hj', hc', -, -, -, -, -, -, -⟩ := hP'
    obtain ⟨e1, e2, e3, e4, e5⟩ := hc'.2.2.2.2.2.2.1 h0'
    have hi2 : V2.2.2.1 t - 1 < V2.2.2.1 t := by omega
    have hlfe : V2.2.2.2 t (V2.2.2.1 t - 1) = vlf V t := by rw [← hlf2]; rfl
    have hfit := (hj'.fit ht hi2).2.2
    unfold vwd at hfit
    rw [hlfe] at hfit
    have hsz2 : vsz V2.1 (vlf V t).1 = vsz V.1 (vlf V t).1 := (hw2.sz hft).1
    have hbt2 : V2.1 (2238 + (vlf V t).1) = V.1 (2238 + (vlf V t).1) := (hw2.sz hft).2.2.2
    have hlin := (hj.1 _ hft).2.2 l cl
    unfold vlin at hlin
    have hco : ∀ j, j < 4 → (wt_u (wt_u s 111 (3947 + t) (s 111 (3947 + t) + 1)) 111 (2054 + 2) ((vinc V (3947 + t)).1 (2054 + 2) + 1)) 111 (2258 + 4 * (16 * (vlf V t).1 + l) + j) = V.1 (vco (vlf V t).1 l + j) := fun j hj4 => by
      rw [b2.pr (c := 2258 + 4 * (16 * (vlf V t).1 + l) + j) (by omega), hw1 _ (Or.inl (by omega))]
      rfl
    have hAT : (wt_u (wt_u s 111 (3947 + t) (s 111 (3947 + t) + 1)) 111 (2054 + 2) ((vinc V (3947 + t)).1 (2054 + 2) + 1)) 111 (3982 + t) = nI (vpl V2 t (V2.2.2.1 t - 1)) := by
      rw [b2.tk (c := 3982) (by omega) ht, ← e4, ← hV2, vs_ne (by omega)]
    have hLN : (wt_u (wt_u s 111 (3947 + t) (s 111 (3947 + t) + 1)) 111 (2054 + 2) ((vinc V (3947 + t)).1 (2054 + 2) + 1)) 111 (3968 + t) = V1.1 (3968 + t) := b2.tk (c := 3968) (by omega) ht
    have hF2 := RF.trans hF1 (RF.uf (s := (wt_u (wt_u s 111 (3947 + t) (s 111 (3947 + t) + 1)) 111 (2054 + 2) ((vinc V (3947 + t)).1 (2054 + 2) + 1))) (f := mj_upd ((wt_u (wt_u s 111 (3947 + t) (s 111 (3947 + t) + 1)) 111 (2054 + 2) ((vinc V (3947 + t)).1 (2054 + 2) + 1)) 111) (3968 + t) (V1.1 (3968 + t) + 1)) (Or.inl rfl))
    generalize hS1 : (wt_u (wt_u s 111 (3947 + t) (s 111 (3947 + t) + 1)) 111 (2054 + 2) ((vinc V (3947 + t)).1 (2054 + 2) + 1)) = S1 at *
    have hkd : (wt_u S1 111 (3968 + t) (V1.1 (3968 + t) + 1)) 111 (2258 + 4 * (16 * (vlf V t).1 + l)) = V.1 (vco (vlf V t).1 l) := by
      rw [wt_u_nk (by omega)]
      exact hco 0 (by omega)
    rw [li_add2, ix_nI (by omega) (by omega), li_add2, ix_nI (by omega) (by omega), li_add2, ix_nI (by omega) (by omega), li_add, ix_nI (by omega) (by omega), ix_nI (by omega) (by omega), ix_nI (by omega) (by omega), wr_eq, hLN, ix_nI (by omega) (by omega), hkd, hco 1 (by omega), hco 2 (by omega), hco 3 (by omega), hAT]
    have hF2 : RF s (wt_u S1 111 (3968 + t) (V1.1 (3968 + t) + 1)) := hF2
    generalize hS2 : wt_u S1 111 (3968 + t) (V1.1 (3968 + t) + 1) = S2 at *
    generalize hKK : V.1 (vco (vlf V t).1 l) = K at *
    generalize hAA : V.1 (vco (vlf V t).1 l + 1) = A at *
    generalize hBB : V.1 (vco (vlf V t).1 l + 2) = Bb at *
    generalize hCC : V.1 (vco (vlf V t).1 l + 3) = C at *
    have hsz8 := (hj.1.sz hft).2
    have hword : ∀ x, x < vsz V.1 (vlf V t).1 → S2 111 (vpl V2 t (V2.2.2.1 t - 1) + 2 + x) = vsw V2.1 (vpl V2 t) (vlf V t) x := fun x hx => by
      have := (c2.wd hj' rfl ht hi2).2.2 x (by rw [hlfe, hsz2]; exact hx)
      rw [hlfe] at this
      exact this
    have hnw : ∀ x, x < vsz V.1 (vlf V t).1 → ¬ bt (V.1 (2238 + (vlf V t).1)) x → gX11_word S2 (nI (vpl V2 t (V2.2.2.1 t - 1)) + 2 + nI x) = some (vnm (vlf V t) (nI x), S2) := fun x hx hb => by
      rw [li_add2, nI_add, q_word0 c2.1 (by omega), hword x hx]
      unfold vsw vnm
      rw [hbt2, if_neg hb, nI_int (by omega)]
      rfl
    have hpw : ∀ x, x < vsz V.1 (vlf V t).1 → bt (V.1 (2238 + (vlf V t).1)) x → gX11_word S2 (nI (vpl V2 t (V2.2.2.1 t - 1)) + 2 + nI x) = some ((match (vlf V t).2.2.2.2.2 x with | none => (-1 : Int32) | some q => nI (vpl V2 t q.1 + 2 + q.2)), S2) := fun x hx hb => by
      rw [li_add2, nI_add, q_word0 c2.1 (by omega), hword x hx]
      unfold vsw
      rw [hbt2, if_pos hb]
      rfl
    have hly : ∀ x (v : Int32), x < vsz V.1 (vlf V t).1 → ¬ bt (V.1 (2238 + (vlf V t).1)) x → ∃ s', gX11_lays S2 (nI (vpl V2 t (V2.2.2.1 t - 1)) + 2 + nI x) v = some ((), s') ∧ RS s' (vnu V2 t (V2.2.2.1 t - 1) x v) ∧ RF s s' := fun x v hx hb => by
      refine ⟨_, ?_, c2.num (k := x) (v := v) hj' ht hi2 (by rw [hlfe, hsz2]; exact hx) (by rw [hlfe, hbt2]; exact hb), RF.trans hF2 (RF.uf (Or.inl rfl))⟩
      rw [li_add2, nI_add, q_lays0 c2.1 (by omega)]
    have hptg : ∀ x, x < vsz V.1 (vlf V t).1 → bt (V.1 (2238 + (vlf V t).1)) x → ∀ q, (vlf V t).2.2.2.2.2 x = some q → q.1 < V2.2.2.1 t ∧ q.2 < vsz V2.1 (V2.2.2.2 t q.1).1 ∧ ¬ bt (V2.1 (2238 + (V2.2.2.2 t q.1).1)) q.2 := fun x hx hb q hq => by
      have := e3.2.2.2.2.2 (V2.2.2.1 t - 1) hi2 x (by rw [hlfe, hsz2]; exact hx) (by rw [hlfe, hbt2]; exact hb) q (by rw [hlfe]; exact hq)
      exact ⟨by omega, this.2.1, this.2.2⟩
    have hK : K = 0 ∨ K = 1 ∨ K = 2 ∨ K = 3 ∨ K = 4 ∨ K = 5 ∨ K = 6 ∨ K = 7 ∨ K = 8 ∨ K = 9 ∨ K = 10 := by
      obtain ⟨kk, kk1, rfl⟩ := nI_ex hlin.1.1
      have := hlin.1.2
      rw [nI_int kk1] at this
      have : kk = 0 ∨ kk = 1 ∨ kk = 2 ∨ kk = 3 ∨ kk = 4 ∨ kk = 5 ∨ kk = 6 ∨ kk = 7 ∨ kk = 8 ∨ kk = 9 ∨ kk = 10 := by omega
      rcases this with rfl | rfl | rfl | rfl | rfl | rfl | rfl | rfl | rfl | rfl | rfl <;> decide
    unfold vcan at hlin
    obtain ⟨-, p0, p1, p3, p4, p5, p6, p7, p8, p9⟩ := hlin
    unfold vln1
    dsimp only
    rw [hlf2]
    rcases hK with rfl | rfl | rfl | rfl | rfl | rfl | rfl | rfl | rfl | rfl | rfl
    · rw [if_neg (show ¬ ((0 : Int32).toInt < 0 ∨ 9 < (0 : Int32).toInt) by decide), if_pos (show (0 : Int32).toInt = 0 by decide), if_pos rfl]
      obtain ⟨a, rfl, a2, a3, a4, a5⟩ := vnum_nat hj.1 hft (p0 rfl)
      obtain ⟨s', f1, f2, f3⟩ := hly a Bb a3 a5
      exact ⟨s', by rw [f1, cl_some], by rw [a2]; exact f2, f3⟩
    · rw [if_neg (show ¬ ((1 : Int32).toInt < 0 ∨ 9 < (1 : Int32).toInt) by decide), if_neg (show ¬ (1 : Int32).toInt = 0 by decide), if_pos (show (1 : Int32).toInt = 1 by decide), if_neg (show ¬ (1 : Int32) = 0 by decide), if_pos rfl]
      obtain ⟨q1, q2, q3⟩ := p1 (Or.inl rfl)
      obtain ⟨a, rfl, a2, a3, a4, a5⟩ := vnum_nat hj.1 hft q1
      obtain ⟨b, rfl, bb2, bb3, bb4, bb5⟩ := vnum_nat hj.1 hft q2
      obtain ⟨c, rfl, cc2, cc3, cc4, cc5⟩ := vnum_nat hj.1 hft q3
      obtain ⟨s', f1, f2, f3⟩ := hly a (vnm (vlf V t) (nI b) + vnm (vlf V t) (nI c)) a3 a5
      exact ⟨s', by rw [hnw b bb3 bb5, cl_some, hnw c cc3 cc5, cl_some, f1, cl_some], by rw [a2]; exact f2, f3⟩
    · rw [if_neg (show ¬ ((2 : Int32).toInt < 0 ∨ 9 < (2 : Int32).toInt) by decide), if_neg (show ¬ (2 : Int32).toInt = 0 by decide), if_neg (show ¬ (2 : Int32).toInt = 1 by decide), if_pos (show (2 : Int32).toInt = 2 by decide), if_neg (show ¬ (2 : Int32) = 0 by decide), if_neg (show ¬ (2 : Int32) = 1 by decide), if_pos rfl]
      obtain ⟨q1, q2, q3⟩ := p1 (Or.inr rfl)
      obtain ⟨a, rfl, a2, a3, a4, a5⟩ := vnum_nat hj.1 hft q1
      obtain ⟨b, rfl, bb2, bb3, bb4, bb5⟩ := vnum_nat hj.1 hft q2
      obtain ⟨c, rfl, cc2, cc3, cc4, cc5⟩ := vnum_nat hj.1 hft q3
      obtain ⟨s', f1, f2, f3⟩ := hly a (if (vnm (vlf V t) (nI c)).toInt ≤ (vnm (vlf V t) (nI b)).toInt then 0 else 1) a3 a5
      refine ⟨s', ?_, by rw [a2]; exact f2, f3⟩
      rw [hnw b bb3 bb5, cl_some, hnw c cc3 cc5, cl_some]
      unfold gX11_steps_269
      by_cases cq : (vnm (vlf V t) (nI c)).toInt ≤ (vnm (vlf V t) (nI b)).toInt
      · rw [if_pos cq] at f1 ⊢
        rw [f1, cl_some]
      · rw [if_neg cq] at f1 ⊢
        rw [f1, cl_some]
    · rw [if_neg (show ¬ ((3 : Int32).toInt < 0 ∨ 9 < (3 : Int32).toInt) by decide), if_neg (show ¬ (3 : Int32).toInt = 0 by decide), if_neg (show ¬ (3 : Int32).toInt = 1 by decide), if_neg (show ¬ (3 : Int32).toInt = 2 by decide), if_pos (show (3 : Int32).toInt = 3 by decide), if_neg (show ¬ (3 : Int32) = 0 by decide), if_neg (show ¬ (3 : Int32) = 1 by decide), if_neg (show ¬ (3 : Int32) = 2 by decide), if_pos rfl]
      obtain ⟨q1, q2⟩ := p3 rfl
      obtain ⟨a, rfl, a2, a3, a4, a5⟩ := vptr_nat hj.1 hft q1
      obtain ⟨b, rfl, bb2, bb3, bb4, bb5⟩ := vnum_nat hj.1 hft q2
      have f2 := RS.ptr (k := a) (q := some (V2.2.2.1 t - 1, b)) c2 hj' ht hi2 (by rw [hlfe, hsz2]; exact a3) (by rw [hlfe, hbt2]; exact a5)
      refine ⟨_, ?_, by rw [a2, bb2]; exact f2, RF.trans hF2 (RF.uf (Or.inl rfl))⟩
      rw [li_add2, nI_add, nI_add, q_lays0 c2.1 (by omega), cl_some]
      rfl
    · rw [if_neg (show ¬ ((4 : Int32).toInt < 0 ∨ 9 < (4 : Int32).toInt) by decide), if_neg (show ¬ (4 : Int32).toInt = 0 by decide), if_neg (show ¬ (4 : Int32).toInt = 1 by decide), if_neg (show ¬ (4 : Int32).toInt = 2 by decide), if_neg (show ¬ (4 : Int32).toInt = 3 by decide), if_pos (show (4 : Int32).toInt = 4 by decide), if_neg (show ¬ (4 : Int32) = 0 by decide), if_neg (show ¬ (4 : Int32) = 1 by decide), if_neg (show ¬ (4 : Int32) = 2 by decide), if_neg (show ¬ (4 : Int32) = 3 by decide), if_pos rfl]
      obtain ⟨q1, q2⟩ := p4 rfl
      obtain ⟨a, rfl, a2, a3, a4, a5⟩ := vnum_nat hj.1 hft q1
      obtain ⟨b, rfl, bb2, bb3, bb4, bb5⟩ := vptr_nat hj.1 hft q2
      rw [bb2, a2, hpw b bb3 bb5, cl_some]
      unfold gX11_steps_328
      cases eq : (vlf V t).2.2.2.2.2 b with
      | none =>
        obtain ⟨s', f1, f2, f3⟩ := hly a 0 a3 a5
        exact ⟨s', by rw [if_neg (by simp), f1, cl_some], f2, f3⟩
      | some q =>
        obtain ⟨g1, g2, g3⟩ := hptg b bb3 bb5 q eq
        have hfq := (hj'.fit ht g1).2.2
        unfold vwd at hfq
        have hwq := (c2.wd hj' rfl ht g1).2.2 q.2 g2
        have hvq : vsw V2.1 (vpl V2 t) (V2.2.2.2 t q.1) q.2 = (V2.2.2.2 t q.1).2.2.2.2.1 q.2 := by unfold vsw; rw [if_neg g3]
        obtain ⟨s', f1, f2, f3⟩ := hly a ((V2.2.2.2 t q.1).2.2.2.2.1 q.2) a3 a5
        refine ⟨s', ?_, f2, f3⟩
        dsimp only
        rw [if_pos (nI_m1 (by omega)), hpw b bb3 bb5, cl_some, eq]
        dsimp only
        rw [q_word0 c2.1 (by omega), cl_some, hwq, hvq, f1, cl_some]
    · rw [if_neg (show ¬ ((5 : Int32).toInt < 0 ∨ 9 < (5 : Int32).toInt) by decide), if_neg (show ¬ (5 : Int32).toInt = 0 by decide), if_neg (show ¬ (5 : Int32).toInt = 1 by decide), if_neg (show ¬ (5 : Int32).toInt = 2 by decide), if_neg (show ¬ (5 : Int32).toInt = 3 by decide), if_neg (show ¬ (5 : Int32).toInt = 4 by decide), if_pos (show (5 : Int32).toInt = 5 by decide), if_neg (show ¬ (5 : Int32) = 0 by decide), if_neg (show ¬ (5 : Int32) = 1 by decide), if_neg (show ¬ (5 : Int32) = 2 by decide), if_neg (show ¬ (5 : Int32) = 3 by decide), if_neg (show ¬ (5 : Int32) = 4 by decide), if_pos rfl]
      obtain ⟨q1, q2⟩ := p5 rfl
      obtain ⟨a, rfl, a2, a3, a4, a5⟩ := vptr_nat hj.1 hft q1
      obtain ⟨b, rfl, bb2, bb3, bb4, bb5⟩ := vnum_nat hj.1 hft q2
      rw [a2, hpw a a3 a5, cl_some]
      cases eq : (vlf V t).2.2.2.2.2 a with
      | none =>
        exact ⟨S2, by rw [if_pos rfl], c2, hF2⟩
      | some q =>
        obtain ⟨g1, g2, g3⟩ := hptg a a3 a5 q eq
        have hfq := (hj'.fit ht g1).2.2
        unfold vwd at hfq
        refine ⟨_, ?_, c2.num (v := vnm (vlf V t) (nI b)) hj' ht g1 g2 g3, RF.trans hF2 (RF.uf (Or.inl rfl))⟩
        dsimp only
        rw [if_neg (nI_m1 (by omega)), hpw a a3 a5, cl_some, eq, hnw b bb3 bb5, cl_some]
        dsimp only
        rw [q_lays0 c2.1 (by omega), cl_some]
    · rw [if_neg (show ¬ ((6 : Int32).toInt < 0 ∨ 9 < (6 : Int32).toInt) by decide), if_neg (show ¬ (6 : Int32).toInt = 0 by decide), if_neg (show ¬ (6 : Int32).toInt = 1 by decide), if_neg (show ¬ (6 : Int32).toInt = 2 by decide), if_neg (show ¬ (6 : Int32).toInt = 3 by decide), if_neg (show ¬ (6 : Int32).toInt = 4 by decide), if_neg (show ¬ (6 : Int32).toInt = 5 by decide), if_pos (show (6 : Int32).toInt = 6 by decide), if_neg (show ¬ (6 : Int32) = 0 by decide), if_neg (show ¬ (6 : Int32) = 1 by decide), if_neg (show ¬ (6 : Int32) = 2 by decide), if_neg (show ¬ (6 : Int32) = 3 by decide), if_neg (show ¬ (6 : Int32) = 4 by decide), if_neg (show ¬ (6 : Int32) = 5 by decide), if_pos rfl]
      obtain ⟨⟨f, rfl, f10⟩, ⟨b, rfl, b3'⟩, q3⟩ := p6 rfl
      obtain ⟨c, rfl, cc2, cc3, cc4, cc5⟩ := vnum_nat hj.1 hft q3
      have hfn : (nI f).toInt.toNat = f := by rw [nI_int (by omega)]; rfl
      have hbn : (nI b).toInt.toNat = b := by rw [nI_int (by omega)]; rfl
      have htl : tld (S2 111) (nI f) ↔ tld V2.1 (nI f) := c2.prog.tl
      rw [q_isTold, cl_some, if_rb]
      by_cases ct : tld V2.1 (nI f)
      · rw [if_pos (htl.mpr ct), if_pos ct, hfn, hbn]
        have ct0 := hw2.tl.mp ct
        have hE : vE V2.1 (vlf V t).1 f := by
          refine ⟨l, by rw [(hw2.sz hft).2.2.1]; exact cl, ?_, ?_⟩
          · rw [hw2.cal hft (by omega)]
            unfold vcal
            rw [hKK, if_pos rfl, hAA]
            exact ct
          · rw [hw2.cal hft (by omega)]
            unfold vcal
            rw [hKK, if_pos rfl, hAA]
            exact hfn
        have hs1 : 1 ≤ vsz V2.1 f := by
          have := ct.2
          rw [hfn] at this
          unfold vsz
          omega
        obtain ⟨s', f1, f2, f3⟩ := q_calls (bk := 32 * (vlf V t).1 + l + 1) (k0 := b) (l5 := 0) (k := k') c2 hPP f10 hs1 r1' (by omega) k1' (by omega) hs' h0' (by rw [hlfe, hsz2]; exact b3') (by rw [hlfe]; exact hE)
        rw [hlfe] at f2
        exact ⟨s', by rw [li_mul, nI_add, li_add2, f1, cl_some], f2, RF.trans hF2 f3⟩
      · rw [if_neg (fun q => ct (htl.mp q)), if_neg ct, cc2]
        obtain ⟨s', f1, f2, f3⟩ := hly c 0 cc3 cc5
        exact ⟨s', by rw [f1, cl_some], f2, f3⟩
    · rw [if_neg (show ¬ ((7 : Int32).toInt < 0 ∨ 9 < (7 : Int32).toInt) by decide), if_neg (show ¬ (7 : Int32).toInt = 0 by decide), if_neg (show ¬ (7 : Int32).toInt = 1 by decide), if_neg (show ¬ (7 : Int32).toInt = 2 by decide), if_neg (show ¬ (7 : Int32).toInt = 3 by decide), if_neg (show ¬ (7 : Int32).toInt = 4 by decide), if_neg (show ¬ (7 : Int32).toInt = 5 by decide), if_neg (show ¬ (7 : Int32).toInt = 6 by decide), if_pos (show (7 : Int32).toInt = 7 by decide), if_neg (show ¬ (7 : Int32) = 0 by decide), if_neg (show ¬ (7 : Int32) = 1 by decide), if_neg (show ¬ (7 : Int32) = 2 by decide), if_neg (show ¬ (7 : Int32) = 3 by decide), if_neg (show ¬ (7 : Int32) = 4 by decide), if_neg (show ¬ (7 : Int32) = 5 by decide), if_neg (show ¬ (7 : Int32) = 6 by decide), if_pos rfl]
      obtain ⟨q1, ⟨l9, rfl, l91⟩⟩ := p7 rfl
      obtain ⟨a, rfl, a2, a3, a4, a5⟩ := vnum_nat hj.1 hft q1
      rw [hnw a a3 a5, cl_some]
      by_cases cq : (vnm (vlf V t) (nI a)).toInt ≤ 0
      · rw [if_pos (show (vnm (vlf V t) (nI a)).toInt ≤ (0 : Int32).toInt from cq), if_pos cq]
        exact ⟨S2, rfl, c2, hF2⟩
      · rw [if_neg (show ¬ (vnm (vlf V t) (nI a)).toInt ≤ (0 : Int32).toInt from cq), if_neg cq, ix_nI (by omega) (by omega), wr_eq]
        exact ⟨_, rfl, c2.u (vtt (by omega) ht) (Or.inr (by omega)), RF.trans hF2 (RF.uf (Or.inl rfl))⟩
    · rw [if_neg (show ¬ ((8 : Int32).toInt < 0 ∨ 9 < (8 : Int32).toInt) by decide), if_neg (show ¬ (8 : Int32).toInt = 0 by decide), if_neg (show ¬ (8 : Int32).toInt = 1 by decide), if_neg (show ¬ (8 : Int32).toInt = 2 by decide), if_neg (show ¬ (8 : Int32).toInt = 3 by decide), if_neg (show ¬ (8 : Int32).toInt = 4 by decide), if_neg (show ¬ (8 : Int32).toInt = 5 by decide), if_neg (show ¬ (8 : Int32).toInt = 6 by decide), if_neg (show ¬ (8 : Int32).toInt = 7 by decide), if_pos (show (8 : Int32).toInt = 8 by decide), if_neg (show ¬ (8 : Int32) = 0 by decide), if_neg (show ¬ (8 : Int32) = 1 by decide), if_neg (show ¬ (8 : Int32) = 2 by decide), if_neg (show ¬ (8 : Int32) = 3 by decide), if_neg (show ¬ (8 : Int32) = 4 by decide), if_neg (show ¬ (8 : Int32) = 5 by decide), if_neg (show ¬ (8 : Int32) = 6 by decide), if_neg (show ¬ (8 : Int32) = 7 by decide), if_pos rfl]
      obtain ⟨a, rfl, a2, a3, a4, a5⟩ := vnum_nat hj.1 hft (p8 rfl)
      obtain ⟨s', f1, f2, f3⟩ := q_returns (v := vnm (vlf V t) (nI a)) (k := k') hD c2 hPP h0' hhot' hs' k1' (by omega) r1' (by omega) hbg' hcb'
      exact ⟨s', by rw [hnw a a3 a5, cl_some, f1, cl_some], f2, RF.trans hF2 f3⟩
    · rw [if_neg (show ¬ ((9 : Int32).toInt < 0 ∨ 9 < (9 : Int32).toInt) by decide), if_neg (show ¬ (9 : Int32).toInt = 0 by decide), if_neg (show ¬ (9 : Int32).toInt = 1 by decide), if_neg (show ¬ (9 : Int32).toInt = 2 by decide), if_neg (show ¬ (9 : Int32).toInt = 3 by decide), if_neg (show ¬ (9 : Int32).toInt = 4 by decide), if_neg (show ¬ (9 : Int32).toInt = 5 by decide), if_neg (show ¬ (9 : Int32).toInt = 6 by decide), if_neg (show ¬ (9 : Int32).toInt = 7 by decide), if_neg (show ¬ (9 : Int32).toInt = 8 by decide), if_pos (show (9 : Int32).toInt = 9 by decide), if_neg (show ¬ (9 : Int32) = 0 by decide), if_neg (show ¬ (9 : Int32) = 1 by decide), if_neg (show ¬ (9 : Int32) = 2 by decide), if_neg (show ¬ (9 : Int32) = 3 by decide), if_neg (show ¬ (9 : Int32) = 4 by decide), if_neg (show ¬ (9 : Int32) = 5 by decide), if_neg (show ¬ (9 : Int32) = 6 by decide), if_neg (show ¬ (9 : Int32) = 7 by decide), if_neg (show ¬ (9 : Int32) = 8 by decide), if_pos rfl]
      obtain ⟨⟨wa, rfl, wa1, wa2⟩, hbf, q3⟩ := p9 rfl
      obtain ⟨c, rfl, cc2, cc3, cc4, cc5⟩ := vnum_nat hj.1 hft q3
      obtain ⟨s', f1, f2, f3⟩ := q_foreign (words := nI wa) (f := Bb) (c := c) (k := k') c2 hPP h0' r1' (by omega) s1' (by omega) hs' k1' (by omega) l1' l2' (by rw [hlf2, hsz2]; exact cc3) (by rw [hlf2, hbt2]; exact cc5) (fun ct => by
        rw [hlf2]
        refine ⟨l, by rw [(hw2.sz hft).2.2.1]; exact cl, ?_, ?_⟩
        · rw [hw2.cal hft (by omega)]
          unfold vcal
          rw [hKK, if_neg (by decide), if_pos rfl, hBB]
          exact ct
        · rw [hw2.cal hft (by omega)]
          unfold vcal
          rw [hKK, if_neg (by decide), if_pos rfl, hBB])
      exact ⟨s', by rw [f1, cl_some], f2, RF.trans hF2 f3⟩
    · rw [if_pos (show ((10 : Int32).toInt < 0 ∨ 9 < (10 : Int32).toInt) by decide), if_neg (show ¬ (10 : Int32) = 0 by decide), if_neg (show ¬ (10 : Int32) = 1 by decide), if_neg (show ¬ (10 : Int32) = 2 by decide), if_neg (show ¬ (10 : Int32) = 3 by decide), if_neg (show ¬ (10 : Int32) = 4 by decide), if_neg (show ¬ (10 : Int32) = 5 by decide), if_neg (show ¬ (10 : Int32) = 6 by decide), if_neg (show ¬ (10 : Int32) = 7 by decide), if_neg (show ¬ (10 : Int32) = 8 by decide), if_neg (show ¬ (10 : Int32) = 9 by decide)]
      obtain ⟨s', f1, f2, f3⟩ := q_quiets (k := k') c2 hPP r1' (by omega) k1' (by omega)
      exact ⟨s', by rw [f1, cl_some], f2, RF.trans hF2 f3⟩
  · rw [if_neg (by omega), if_neg cl]
    have hP1 : Vpre 2048 V1 t np z := Vpre.ww ⟨hj, hc, ht, hz, h8, hzl, hlm, hl2, hq⟩ hV12 (fun i hi h2 => hat i (by omega) (by omega)) (fun c hc => hat _ (by omega) (by omega))
    obtain ⟨s', f1, f2, f3⟩ := q_returns (v := 0) (k := k) hD b2 hP1 (by rw [hV12]; exact h0) (by rw [hat _ (by omega) (by omega)]; exact hhot) (by rw [hat _ (by omega) (by omega)]; exact hs) (by rw [hat _ (by omega) (by omega)]; exact k1) (by omega) (by rw [hat _ (by omega) (by omega)]; exact r1) (by omega) (by rw [hat _ (by omega) (by omega)]; exact hw1.tl.mpr hbg) (by rw [hat _ (by omega) (by omega), hV12]; exact hcb)
    exact ⟨s', by rw [f1, cl_some], f2, RF.trans hF1 f3⟩
end
end
section
/-! ===== the reference: a task's places are cleared; stop ===== -/
def vck (w : Nat → Int32) (t k : Nat) : Nat → Int32 := fun i => if 3926 + 7 * k ≤ i ∧ i < 4073 ∧ (i - 3926) % 7 = t then 0 else w i
def vcr (V : vV) (t : Nat) : vV := vs (vs (vck V.1 t 0, V.2) (3989 + t) (-1)) (3975 + t) (-1)
def vsto (V : vV) (x : Int32) : Int32 × vV := if 0 ≤ x.toInt ∧ x.toInt ≤ 5 then (if V.1 (3926 + x.toInt.toNat) ≠ 0 then (1, vcr (vga V x.toInt.toNat) x.toInt.toNat) else (0, V)) else (0, V)
section
variable {s : wt_S} {V : vV} {t : Nat}
theorem wt_uf_id : wt_uf s 111 (s 111) = s := by
  funext b
  unfold wt_uf
  split
  · rename_i e; rw [e]
  · rfl
theorem vck_21 {w : Nat → Int32} : vck w t 21 = w := by
  funext i
  unfold vck
  rw [if_neg (by omega)]
theorem vck_s {w : Nat → Int32} {k : Nat} (ht : t < 6) (hk : k < 21) : vck (mj_upd w (3926 + 7 * k + t) 0) t (k + 1) = vck w t k := by
  funext i
  unfold vck
  by_cases e : i = 3926 + 7 * k + t
  · subst e
    rw [if_neg (by omega), if_pos (by omega), mj_upd_self]
  · rw [mj_upd_ne e]
    by_cases c : 3926 + 7 * k ≤ i ∧ i < 4073 ∧ (i - 3926) % 7 = t
    · rw [if_pos c, if_pos (by omega)]
    · rw [if_neg c, if_neg (by omega)]
theorem q_clears_loop (ht : t < 6) : ∀ (r k n : Nat) (s : wt_S), k + r = 21 → r < n → gX11_clears_4 n s (nI t) (nI (3926 + 7 * k)) = some ((), wt_u (wt_u (wt_uf s 111 (vck (s 111) t k)) 111 (3989 + t) (-1)) 111 (3975 + t) (-1)) := by
  intro r
  induction r with
  | zero =>
    intro k n s hk hn
    obtain ⟨m, rfl⟩ : ∃ m, n = m + 1 := ⟨n - 1, by omega⟩
    have : k = 21 := by omega
    subst this
    unfold gX11_clears_4
    rw [if_pos (by rw [nI_int (by omega)]; decide), li_add, ix_nI (by omega) (by omega), wr_eq, li_add, ix_nI (by omega) (by omega), wr_eq, vck_21, wt_uf_id]
  | succ r ih =>
    intro k n s hk hn
    obtain ⟨m, rfl⟩ : ∃ m, n = m + 1 := ⟨n - 1, by omega⟩
    unfold gX11_clears_4
    rw [if_neg (by rw [nI_int (by omega)]; show ¬ (4073 : Int) ≤ _; omega), nI_add, ix_nI (by omega) (by omega), wr_eq, li_add2, show 3926 + 7 * k + 7 = 3926 + 7 * (k + 1) by omega, ih (k + 1) m _ (by omega) (by omega)]
    simp only [u_uf, wt_uf_at, uf_uf, vck_s ht (show k < 21 by omega)]
theorem q_clears (ht : t < 6) : gX11_clears s (nI t) = some ((), wt_u (wt_u (wt_uf s 111 (vck (s 111) t 0)) 111 (3989 + t) (-1)) 111 (3975 + t) (-1)) :=
  q_clears_loop ht 21 0 wt_N s rfl (by unfold wt_N; omega)
theorem RS.cr (h : RS s V) (ht : t < 6) : RS (wt_u (wt_u (wt_uf s 111 (vck (s 111) t 0)) 111 (3989 + t) (-1)) 111 (3975 + t) (-1)) (vcr V t) := by
  have h1 : RS (wt_uf s 111 (vck (s 111) t 0)) (vck V.1 t 0, V.2) := by
    refine h.uf (h.2.mk' (fun i hi => ?_) (vr_P_eq (fun i h1 h2 => ?_) h.2.2.1) (fun p hp => ?_) (fun mm hm t' ht' => MR_w (fun j h1 h2 => ?_) (hm t' ht')))
    · show vck (s 111) t 0 i = vck V.1 t 0 i
      unfold vck
      rw [h.2.at hi]
    · unfold vck
      rw [if_neg (by omega)]
    · unfold vck
      rw [if_neg (by omega)]
    · show vck V.1 t 0 j = V.1 j
      unfold vck
      rw [if_neg (by omega)]
  exact (h1.u (vtt (c := 3989) (by omega) ht) (Or.inr (by omega))).u (vtt (c := 3975) (by omega) ht) (Or.inr (by omega))
theorem RF.cr : RF s (wt_u (wt_u (wt_uf s 111 (vck (s 111) t 0)) 111 (3989 + t) (-1)) 111 (3975 + t) (-1)) := RF.trans (RF.uf (Or.inl rfl)) (RF.trans (RF.uf (Or.inl rfl)) (RF.uf (Or.inl rfl)))
theorem VI.sid {lim B : Nat} (hI : VI lim B V) (ht : t < 6) : V.1 (3989 + t) = -1 ∨ ∃ k, k < 3 ∧ V.1 (3989 + t) = nI k := by
  rcases hI.2.2.2.2.2 t ht with ⟨b1, b2⟩ | b
  · obtain ⟨n, np, -, -, -, -, -, -, -, -, -, -, -, -, -, -, -, c16, -⟩ := b2
    rcases c16 with c | ⟨k, k1, k2, -⟩
    · exact Or.inl c.1
    · exact Or.inr ⟨k, k1, k2⟩
  · exact Or.inl b.2.2.2.2.2.1
theorem q_stop {B : Nat} {x : Int32} (h : RS s V) (hI : VI 2048 B V) : ∃ s', gX11_stop s x = some ((vsto V x).1, s') ∧ RS s' (vsto V x).2 ∧ RF s s' := by
  unfold gX11_stop vsto
  rw [q_isTask, cl_some]
  by_cases c : 0 ≤ x.toInt ∧ x.toInt ≤ 5
  · obtain ⟨t, t1, rfl⟩ := nI_ex c.1
    have t2 := c.2
    rw [nI_int t1] at t2
    have ht : t < 6 := by omega
    have htn : (nI t).toInt.toNat = t := by rw [nI_int t1]; rfl
    rw [if_pos c, htn, if_neg (by unfold rb; rw [if_pos c]; decide), li_add, ix_nI (by omega) (by omega), h.tk (c := 3926) (by omega) ht]
    by_cases d : V.1 (3926 + t) ≠ 0
    · rw [if_pos d, if_pos d]
      obtain ⟨s1, e1, e2, e3⟩ := q_ga hI.J rfl h ht (hI.sid ht)
      rw [e1, cl_some, q_clears ht, cl_some]
      exact ⟨_, rfl, e2.cr ht, RF.trans e3 RF.cr⟩
    · rw [if_neg d, if_neg d]
      exact ⟨s, rfl, h, RF.refl⟩
  · rw [if_neg c, if_pos (by unfold rb; rw [if_neg c])]
    exact ⟨s, rfl, h, RF.refl⟩
end
end
section
/-! ===== a task goes: what always holds is kept ===== -/
section
variable {lim B B' t : Nat} {V V' : vV}
theorem VI.sdt (hI : VI lim B V) (ht : t < 6) {k : Nat} (hk : k < 3) (h : V.1 (3989 + t) = nI k) : V.1 (3923 + k) = nI t := by
  rcases hI.2.2.2.2.2 t ht with ⟨b1, b2⟩ | b
  · obtain ⟨n, np, -, -, -, -, -, -, -, -, -, -, -, -, -, -, -, c16, -⟩ := b2
    rcases c16 with c | ⟨k', k1, k2, k3, -⟩
    · rw [h] at c
      exact absurd c.1 (nI_m1 (by omega))
    · rw [h] at k2
      have := (nI_inj (by omega) (by omega)).mp k2
      subst this
      exact k3
  · have := b.2.2.2.2.2.1
    rw [h] at this
    exact absurd this (nI_m1 (by omega))
theorem OT.idl (hI : VI lim B V) (ht : t < 6) (h2 : V'.2 = (V.2.1.filter (fun q => decide (q.2.2.1 ≠ t)), mj_upd V.2.2.1 t 0, V.2.2.2)) (hw : ∀ i, (2048 ≤ i ∧ i ≤ 2053) ∨ (2228 ≤ i ∧ i < 2898) ∨ (3926 ≤ i ∧ i < 4073 ∧ (i - 3926) % 7 ≠ t) → V'.1 i = V.1 i) (hsd : ∀ k, k < 3 → V'.1 (3923 + k) = if V.1 (3989 + t) = nI k then -1 else V.1 (3923 + k)) : OT t V V' := by
  refine ⟨fun i hi => hw i (by omega), fun i h3 h4 => hw i (by omega), fun t' ht' hne => ⟨fun j hj => hw _ (by omega), by rw [h2]; exact mj_upd_ne hne, by rw [h2]⟩, fun q hq => ?_, fun t' n hne => ?_, fun k hk t' ht' hne => ?_⟩
  · rw [h2]
    exact ⟨fun h => (List.mem_filter.mp h).1, fun h => List.mem_filter.mpr ⟨h, decide_eq_true hq⟩⟩
  · rw [h2]
    refine vfind_filter (fun q _ hk => decide_eq_true ?_)
    have hk : q.2.2.1 = t' ∧ q.2.2.2 = n := by simpa [vkey] using hk
    omega
  · rw [hsd k hk]
    by_cases e : V.1 (3989 + t) = nI k
    · rw [if_pos e, hI.sdt ht hk e]
      constructor
      · intro g
        exact absurd g.symm (nI_m1 (by omega))
      · intro g
        exact absurd ((nI_inj (by omega) (by omega)).mp g).symm hne
    · rw [if_neg e]
theorem VI.idl (hI : VI lim B V) (ht : t < 6) (h2 : V'.2 = (V.2.1.filter (fun q => decide (q.2.2.1 ≠ t)), mj_upd V.2.2.1 t 0, V.2.2.2)) (hw : ∀ i, (2048 ≤ i ∧ i ≤ 2053) ∨ (2228 ≤ i ∧ i < 2898) ∨ (3926 ≤ i ∧ i < 4073 ∧ (i - 3926) % 7 ≠ t) → V'.1 i = V.1 i) (hsd : ∀ k, k < 3 → V'.1 (3923 + k) = if V.1 (3989 + t) = nI k then -1 else V.1 (3923 + k)) (hlg : ∃ k, k ≤ B' ∧ V'.1 2067 = nI k)
    (hid : V'.1 (3954 + t) = 0 ∧ V'.1 (4066 + t) = 0 ∧ V'.1 (3961 + t) = 0 ∧ V'.1 (3975 + t) = -1 ∧ V'.1 (3989 + t) = -1 ∧ V'.1 (3996 + t) = 0 ∧ (V'.1 (3926 + t) = 0 ∨ V'.1 (3926 + t) = 3 ∨ V'.1 (3926 + t) = 4)) : VI lim B' V' := by
  refine hI.ot (OT.idl hI ht h2 hw hsd) ht ?_ ?_ hlg (Or.inr ?_)
  · rw [h2]
    exact ⟨vo_sub hI.2.2.1.1 List.filter_sublist, hI.2.2.1.2.1.sublist List.filter_sublist, fun q hq => hI.2.2.1.2.2 q (List.mem_filter.mp hq).1⟩
  · intro k hk
    rw [hsd k hk]
    by_cases e : V.1 (3989 + t) = nI k
    · rw [if_pos e]; exact Or.inl rfl
    · rw [if_neg e]
      rcases hI.2.2.2.1 k hk with g | ⟨t', g1, g2, g3⟩
      · exact Or.inl g
      · refine Or.inr ⟨t', g1, g2, ?_⟩
        rw [hw _ ?_]
        · exact g3
        · have : t' ≠ t := fun g => by subst g; exact e g3
          omega
  · obtain ⟨d1, d2, d3, d4, d5, d6, d7⟩ := hid
    refine ⟨by rw [h2]; exact mj_upd_self, d1, d2, d3, d4, d5, d6, d7, fun q hq => ?_⟩
    rw [h2] at hq
    exact of_decide_eq_true (List.mem_filter.mp hq).2
theorem vga_is (hs : V.1 (3989 + t) = -1 ∨ ∃ k, k < 3 ∧ V.1 (3989 + t) = nI k) (ht : t < 6) : (∀ i, (2048 ≤ i ∧ i < 3923) ∨ (3926 ≤ i ∧ i < 4073 ∧ (i - 3926) % 7 ≠ t) → (vga V t).1 i = V.1 i) ∧ (∀ k, k < 3 → (vga V t).1 (3923 + k) = if V.1 (3989 + t) = nI k then -1 else V.1 (3923 + k)) := by
  refine ⟨fun i hi => ?_, fun k hk => ?_⟩
  · rw [vga_1, mj_upd_ne (by omega), mj_upd_ne (by omega), mj_upd_ne (by omega), mj_upd_ne (by omega), mj_upd_ne (by omega), mj_upd_ne (by omega)]
    rcases hs with e | ⟨j, j1, j2⟩
    · rw [if_pos e]
    · rw [if_neg (by rw [j2]; exact nI_m1 (by omega)), j2, nI_int (by omega), mj_upd_ne]
      show i ≠ 3923 + j
      omega
  · rw [vga_1, mj_upd_ne (by omega), mj_upd_ne (by omega), mj_upd_ne (by omega), mj_upd_ne (by omega), mj_upd_ne (by omega), mj_upd_ne (by omega)]
    rcases hs with e | ⟨j, j1, j2⟩
    · rw [if_pos e, if_neg (by rw [e]; exact fun g => nI_m1 (by omega) g.symm)]
    · rw [if_neg (by rw [j2]; exact nI_m1 (by omega)), j2, nI_int (by omega)]
      show mj_upd V.1 (3923 + j) (-1) (3923 + k) = _
      by_cases e : k = j
      · subst e
        rw [if_pos rfl, mj_upd_self]
      · rw [mj_upd_ne (by omega), if_neg (fun g => e ((nI_inj (by omega) (by omega)).mp g).symm)]
theorem vcr_ne {i : Nat} (ht : t < 6) (h : i < 3926 ∨ 4073 ≤ i ∨ (i - 3926) % 7 ≠ t) : (vcr V t).1 i = V.1 i := by
  show mj_upd (mj_upd (vck V.1 t 0) (3989 + t) (-1)) (3975 + t) (-1) i = V.1 i
  rw [mj_upd_ne (by omega), mj_upd_ne (by omega)]
  unfold vck
  rw [if_neg (by omega)]
theorem vcr_0 {c : Nat} (ht : t < 6) (hc : 3926 ≤ c ∧ c ≤ 4066 ∧ (c - 3926) % 7 = 0) (h : c ≠ 3975 ∧ c ≠ 3989) : (vcr V t).1 (c + t) = 0 := by
  show mj_upd (mj_upd (vck V.1 t 0) (3989 + t) (-1)) (3975 + t) (-1) (c + t) = 0
  rw [mj_upd_ne (by omega), mj_upd_ne (by omega)]
  unfold vck
  rw [if_pos (by omega)]
theorem vcr_f : (vcr V t).1 (3975 + t) = -1 ∧ (vcr V t).1 (3989 + t) = -1 := by
  refine ⟨mj_upd_self, ?_⟩
  show mj_upd (mj_upd (vck V.1 t 0) (3989 + t) (-1)) (3975 + t) (-1) (3989 + t) = -1
  rw [mj_upd_ne (by omega), mj_upd_self]
/-- stop keeps it -/
theorem VI.stop {x : Int32} (hI : VI lim B V) : VI lim B (vsto V x).2 := by
  unfold vsto
  by_cases c : 0 ≤ x.toInt ∧ x.toInt ≤ 5
  · obtain ⟨t, t1, rfl⟩ := nI_ex c.1
    have t2 := c.2
    rw [nI_int t1] at t2
    have ht : t < 6 := by omega
    have htn : (nI t).toInt.toNat = t := by rw [nI_int t1]; rfl
    rw [if_pos c, htn]
    by_cases d : V.1 (3926 + t) ≠ 0
    · rw [if_pos d]
      obtain ⟨g1, g2⟩ := vga_is (hI.sid ht) ht
      refine hI.idl ht (vga_2 (V := V)) (fun i hi => ?_) (fun k hk => ?_) ?_ ⟨vcr_0 (c := 3954) ht (by omega) (by omega), vcr_0 (c := 4066) ht (by omega) (by omega), vcr_0 (c := 3961) ht (by omega) (by omega), vcr_f.1, vcr_f.2, vcr_0 (c := 3996) ht (by omega) (by omega), Or.inl (vcr_0 (c := 3926) ht (by omega) (by omega))⟩
      · rw [vcr_ne ht (by omega), g1 i (by omega)]
      · rw [vcr_ne ht (by omega), g2 k hk]
      · obtain ⟨k, k1, k2⟩ := hI.2.2.2.2.1
        exact ⟨k, k1, by rw [vcr_ne ht (by omega), g1 _ (by omega)]; exact k2⟩
    · rw [if_neg d]; exact hI
  · rw [if_neg c]; exact hI
/-- a task is out -/
theorem vi_out (hI : VI lim B V) (ht : t < 6) : VI lim (B + 1) (vot V t) := by
  obtain ⟨g1, g2⟩ := vga_is (hI.sid ht) ht
  have hne : ∀ i, i ≠ 2067 → i ≠ 2055 → i ≠ 3926 + t → (vot V t).1 i = (vga V t).1 i := fun i h1 h2 h3 => by
    unfold vot vlg1
    rw [vs_ne h1, vcn_ne (by omega), vs_ne h3]
  refine hI.idl ht (vga_2 (V := V)) (fun i hi => ?_) (fun k hk => ?_) ?_ ⟨?_, ?_, ?_, ?_, ?_, ?_, Or.inr (Or.inr ?_)⟩
  · rw [hne i (by omega) (by omega) (by omega), g1 i (by omega)]
  · rw [hne _ (by omega) (by omega) (by omega), g2 k hk]
  · obtain ⟨k, k1, k2⟩ := hI.2.2.2.2.1
    refine ⟨k + 1, by omega, ?_⟩
    show mj_upd (vcn (vs (vga V t) (3926 + t) 4) 1 1).1 2067 ((vcn (vs (vga V t) (3926 + t) 4) 1 1).1 2067 + 1) 2067 = _
    rw [mj_upd_self, vcn_ne (by omega), vs_ne (by omega), g1 _ (by omega), k2, nI_1]
  · rw [hne _ (by omega) (by omega) (by omega), vga_1, mj_upd_ne (by omega), mj_upd_ne (by omega), mj_upd_self]
  · rw [hne _ (by omega) (by omega) (by omega), vga_1, mj_upd_ne (by omega), mj_upd_ne (by omega), mj_upd_ne (by omega), mj_upd_self]
  · rw [hne _ (by omega) (by omega) (by omega), vga_1, mj_upd_ne (by omega), mj_upd_self]
  · rw [hne _ (by omega) (by omega) (by omega), vga_1, mj_upd_self]
  · rw [hne _ (by omega) (by omega) (by omega), vga_1, mj_upd_ne (by omega), mj_upd_ne (by omega), mj_upd_ne (by omega), mj_upd_ne (by omega), mj_upd_ne (by omega), mj_upd_self]
  · rw [hne _ (by omega) (by omega) (by omega), vga_1, mj_upd_ne (by omega), mj_upd_ne (by omega), mj_upd_ne (by omega), mj_upd_ne (by omega), mj_upd_self]
  · unfold vot vlg1
    rw [vs_ne (by omega), vcn_ne (by omega)]
    exact mj_upd_self
theorem mj_upd2 {f : Nat → Nat} {x y : Nat} : mj_upd (mj_upd f t x) t y = mj_upd f t y := by
  funext j
  by_cases e : j = t
  · subst e; rw [mj_upd_self, mj_upd_self]
  · rw [mj_upd_ne e, mj_upd_ne e, mj_upd_ne e]
/-- a task is done -/
theorem vi_dn {Z : (Nat → Int32) → Int32 → Int32 → Int32 → Bool} {x y v : Int32} (hI : VI lim B V) (ht : t < 6) : VI lim (B + 1) (vdn Z (vnf (vs (vs V (3961 + t) x) (3954 + t) y) t 0) t v) := by
  generalize hU : vs (vs (vnf (vs (vs V (3961 + t) x) (3954 + t) y) t 0) (3926 + t) 3) (3940 + t) v = U
  have hat : ∀ i, i ≠ 3961 + t → i ≠ 3954 + t → i ≠ 3926 + t → i ≠ 3940 + t → U.1 i = V.1 i := fun i h1 h2 h3 h4 => by
    rw [← hU, vs_ne h4, vs_ne h3]
    show (vs (vs V (3961 + t) x) (3954 + t) y).1 i = V.1 i
    rw [vs_ne h2, vs_ne h1]
  have h3926 : U.1 (3926 + t) = 3 := by
    rw [← hU, vs_ne (by omega)]
    exact mj_upd_self
  have hU2 : U.2 = (V.2.1, mj_upd V.2.2.1 t 0, V.2.2.2) := by rw [← hU]; rfl
  obtain ⟨g1, g2⟩ := vga_is (V := U) (t := t) (by rw [hat _ (by omega) (by omega) (by omega) (by omega)]; exact hI.sid ht) ht
  have hd : vdn Z (vnf (vs (vs V (3961 + t) x) (3954 + t) y) t 0) t v = vinc (vlg1 (vcn (vga U t) 0 1)) 2066 ∨ vdn Z (vnf (vs (vs V (3961 + t) x) (3954 + t) y) t 0) t v = vlg1 (vcn (vga U t) 0 1) := by
    unfold vdn
    dsimp only
    rw [hU]
    split
    · exact Or.inl rfl
    · exact Or.inr rfl
  generalize hW : vdn Z (vnf (vs (vs V (3961 + t) x) (3954 + t) y) t 0) t v = W at hd ⊢
  have hne : ∀ i, i ≠ 2067 → i ≠ 2066 → i ≠ 2054 → W.1 i = (vga U t).1 i := fun i h1 h2 h3 => by
    rcases hd with e | e
    · rw [e, vinc_ne h2]
      unfold vlg1
      rw [vs_ne h1, vcn_ne (by omega)]
    · rw [e]
      unfold vlg1
      rw [vs_ne h1, vcn_ne (by omega)]
  have hlg : W.1 2067 = V.1 2067 + 1 := by
    have : (vlg1 (vcn (vga U t) 0 1)).1 2067 = V.1 2067 + 1 := by
      show mj_upd (vcn (vga U t) 0 1).1 2067 ((vcn (vga U t) 0 1).1 2067 + 1) 2067 = _
      rw [mj_upd_self, vcn_ne (by omega), g1 _ (by omega), hat _ (by omega) (by omega) (by omega) (by omega)]
    rcases hd with e | e
    · rw [e, vinc_ne (by omega)]; exact this
    · rw [e]; exact this
  have hW2 : W.2 = (V.2.1.filter (fun q => decide (q.2.2.1 ≠ t)), mj_upd V.2.2.1 t 0, V.2.2.2) := by
    have : (vga U t).2 = (V.2.1.filter (fun q => decide (q.2.2.1 ≠ t)), mj_upd V.2.2.1 t 0, V.2.2.2) := by
      rw [vga_2, hU2, mj_upd2]
    rcases hd with e | e
    · rw [e]; exact this
    · rw [e]; exact this
  refine hI.idl ht hW2 (fun i hi => ?_) (fun k hk => ?_) ?_ ⟨?_, ?_, ?_, ?_, ?_, ?_, Or.inr (Or.inl ?_)⟩
  · rw [hne i (by omega) (by omega) (by omega), g1 i (by omega), hat i (by omega) (by omega) (by omega) (by omega)]
  · rw [hne _ (by omega) (by omega) (by omega), g2 k hk, hat _ (by omega) (by omega) (by omega) (by omega), hat _ (by omega) (by omega) (by omega) (by omega)]
  · obtain ⟨k, k1, k2⟩ := hI.2.2.2.2.1
    exact ⟨k + 1, by omega, by rw [hlg, k2, nI_1]⟩
  · rw [hne _ (by omega) (by omega) (by omega), vga_1, mj_upd_ne (by omega), mj_upd_ne (by omega), mj_upd_self]
  · rw [hne _ (by omega) (by omega) (by omega), vga_1, mj_upd_ne (by omega), mj_upd_ne (by omega), mj_upd_ne (by omega), mj_upd_self]
  · rw [hne _ (by omega) (by omega) (by omega), vga_1, mj_upd_ne (by omega), mj_upd_self]
  · rw [hne _ (by omega) (by omega) (by omega), vga_1, mj_upd_self]
  · rw [hne _ (by omega) (by omega) (by omega), vga_1, mj_upd_ne (by omega), mj_upd_ne (by omega), mj_upd_ne (by omega), mj_upd_ne (by omega), mj_upd_ne (by omega), mj_upd_self]
  · rw [hne _ (by omega) (by omega) (by omega), vga_1, mj_upd_ne (by omega), mj_upd_ne (by omega), mj_upd_ne (by omega), mj_upd_ne (by omega), mj_upd_self]
  · rw [hne _ (by omega) (by omega) (by omega), vga_1, mj_upd_ne (by omega), mj_upd_ne (by omega), mj_upd_ne (by omega), mj_upd_ne (by omega), mj_upd_ne (by omega), mj_upd_ne (by omega)]
    have hs : U.1 (3989 + t) = -1 ∨ ∃ k, k < 3 ∧ U.1 (3989 + t) = nI k := by
      rw [hat _ (by omega) (by omega) (by omega) (by omega)]; exact hI.sid ht
    rcases hs with e | ⟨j, j1, j2⟩
    · rw [if_pos e]; exact h3926
    · rw [if_neg (by rw [j2]; exact nI_m1 (by omega)), j2, nI_int (by omega), mj_upd_ne]
      · exact h3926
      · show 3926 + t ≠ 3923 + j
        omega
end
end
section
/-! ===== a slot is written: what always holds is kept ===== -/
def vsf (fr fr' : Nat → vF) : Prop := ∀ j, (fr' j).1 = (fr j).1 ∧ (fr' j).2.1 = (fr j).2.1 ∧ (fr' j).2.2.1 = (fr j).2.2.1 ∧ (fr' j).2.2.2.1 = (fr j).2.2.2.1
section
variable {lim B t : Nat} {V : vV} {w : Nat → Int32} {ps : List vP} {np n : Nat} {fr fr' : Nat → vF}
theorem vus_sf (h : vsf fr fr') : ∀ m, vus w fr' m = vus w fr m := by
  intro m
  induction m with
  | zero => rfl
  | succ m ih => unfold vus; rw [ih, (h m).1]
theorem vfo_sf (h : vsf fr fr') (m : Nat) : vfo w (fr' m) = vfo w (fr m) := by
  unfold vfo
  rw [(h m).2.2.2]
theorem vos_sf (h : vsf fr fr') : ∀ m, vos w fr' m = vos w fr m := by
  intro m
  induction m with
  | zero => rfl
  | succ m ih => unfold vos; rw [ih, vfo_sf h]
theorem Geo.sf (hg : Geo w ps t np n fr) (h : vsf fr fr') : Geo w ps t np n fr' := by
  obtain ⟨g1, g2, g3⟩ := hg
  refine ⟨fun i hi => ?_, ?_, fun i hi => ?_⟩
  · rw [(h i).1, (h i).2.1, (h i).2.2.1]; exact g1 i hi
  · rw [(h 0).2.1, (h 0).2.2.1]; exact g2
  · rw [(h i).1, (h i).2.1, (h i).2.2.1, (h (i + 1)).2.1, (h (i + 1)).2.2.1]; exact g3 i hi
theorem Ifr.sf (hg : Ifr w ps t n fr) (h : vsf fr fr') (hq : ∀ i, i < n → ∀ k, k < vsz w (fr i).1 → bt (w (2238 + (fr i).1)) k → ∀ q, (fr' i).2.2.2.2.2 k = some q → q.1 ≤ i ∧ q.2 < vsz w (fr q.1).1 ∧ ¬ bt (w (2238 + (fr q.1).1)) q.2) : Ifr w ps t n fr' := by
  obtain ⟨g1, g2, g3, g4, g5, g6⟩ := hg
  refine ⟨fun i hi => ?_, ?_, fun i hi => ?_, fun i hi => ?_, fun i hi => ?_, fun i hi k hk hb q hq' => ?_⟩
  · rw [(h i).1]; exact g1 i hi
  · rw [(h 0).2.2.2]; exact g2
  · have := g3 i hi
    unfold vbk at this ⊢
    rw [(h (i + 1)).2.2.2, (h i).1, (h (i + 1)).1]
    exact this
  · have := g4 i hi
    unfold vcv at this ⊢
    rw [(h i).2.2.2, (h (i + 1)).2.2.2]
    exact this
  · have := g5 i hi
    unfold vcv at this ⊢
    rw [(h i).2.2.2, (h i).1, (h i).2.2.1, (h i).2.1]
    exact this
  · rw [(h i).1] at hk hb
    rw [(h q.1).1]
    exact hq i hi k hk hb q hq'
theorem vfr_2 {i j : Nat} {F : vF} (h : j ≠ i) : (vfr V t i F).2.2.2 t j = V.2.2.2 t j := by
  show (if t = t then mj_upd (V.2.2.2 t) i F else V.2.2.2 t) j = _
  rw [if_pos rfl, mj_upd_ne h]
theorem vi_fr {i : Nat} {F : vF} (hI : VI lim B V) (ht : t < 6) (h1 : F.1 = (V.2.2.2 t i).1) (h2 : F.2.1 = (V.2.2.2 t i).2.1) (h3 : F.2.2.1 = (V.2.2.2 t i).2.2.1) (h4 : F.2.2.2.1 = (V.2.2.2 t i).2.2.2.1)
    (hq : ∀ k, k < vsz V.1 (V.2.2.2 t i).1 → bt (V.1 (2238 + (V.2.2.2 t i).1)) k → ∀ q, F.2.2.2.2.2 k = some q → (V.2.2.2 t i).2.2.2.2.2 k = some q ∨ (q.1 ≤ i ∧ q.2 < vsz V.1 (V.2.2.2 t q.1).1 ∧ ¬ bt (V.1 (2238 + (V.2.2.2 t q.1).1)) q.2)) : VI lim B (vfr V t i F) := by
  have hsf : vsf (V.2.2.2 t) ((vfr V t i F).2.2.2 t) := fun j => by
    by_cases e : j = i
    · subst e
      rw [vfr_at]
      exact ⟨h1, h2, h3, h4⟩
    · rw [vfr_2 e]
      exact ⟨rfl, rfl, rfl, rfl⟩
  refine hI.ot (B' := B) (OT.fr (i := i) (F := F)) ht hI.2.2.1 hI.2.2.2.1 hI.2.2.2.2.1 ?_
  rcases hI.2.2.2.2.2 t ht with ⟨b1, b2⟩ | b
  · refine Or.inl ⟨b1, ?_⟩
    obtain ⟨n, np, c1, c2, c3, c4, c5, c6, c7, c8, c9, c10, c11, c12, c13, c14, c15, c16, c17⟩ := b2
    have c92 := c9.2.2.2.2.2
    refine ⟨n, np, c1, c2, c3, c4, c5, c6, c7.sf hsf, (hsf n).2.1.trans c8, c9.sf hsf (fun j hj k hk hb q hq' => ?_), ?_, ?_, ?_, c13, ?_, ?_, ?_, c17⟩
    · by_cases e : j = i
      · subst e
        rw [vfr_at] at hq'
        rcases hq k hk hb q hq' with g | g
        · exact c92 j hj k hk hb q g
        · exact g
      · rw [vfr_2 e] at hq'
        exact c92 j hj k hk hb q hq'
    · rw [vus_sf hsf]; exact c10
    · show V.1 (3982 + t) = nI (vat V.2.1 t ((vfr V t i F).2.2.2 t n).2.1 + ((vfr V t i F).2.2.2 t n).2.2.1)
      rw [(hsf n).2.1, (hsf n).2.2.1]; exact c11
    · rw [(hsf n).1]; exact c12
    · rw [vos_sf hsf]; exact c14
    · rw [vos_sf hsf]; exact c15
    · rw [vos_sf hsf]; exact c16
  · exact Or.inr b
theorem vi_nu {i k : Nat} {v : Int32} (hI : VI lim B V) (ht : t < 6) : VI lim B (vnu V t i k v) :=
  vi_fr hI ht rfl rfl rfl rfl (fun _ _ _ _ h => Or.inl h)
theorem vi_po {i k : Nat} {p : Nat × Nat} (hI : VI lim B V) (ht : t < 6) (h1 : p.1 ≤ i) (h2 : p.2 < vsz V.1 (V.2.2.2 t p.1).1) (h3 : ¬ bt (V.1 (2238 + (V.2.2.2 t p.1).1)) p.2) : VI lim B (vpo V t i k (some p)) := by
  refine vi_fr hI ht rfl rfl rfl rfl (fun k' _ _ q h => ?_)
  by_cases e : k' = k
  · subst e
    have h : mj_upd (V.2.2.2 t i).2.2.2.2.2 k' (some p) k' = some q := h
    rw [mj_upd_self] at h
    cases h
    exact Or.inr ⟨h1, h2, h3⟩
  · have h : mj_upd (V.2.2.2 t i).2.2.2.2.2 k (some p) k' = some q := h
    rw [mj_upd_ne e] at h
    exact Or.inl h
end
end
section
/-! ===== a frame comes: what always holds is kept ===== -/
section
variable {lim B t : Nat} {V : vV} {w : Nat → Int32} {ps : List vP} {np n : Nat} {fr : Nat → vF} {F : vF}
theorem Geo.psh (hg : 0 < n → Geo w ps t np n fr ∧ ((fr (n - 1)).2.1 + 1 = np ∨ (fr (n - 1)).2.1 + 2 = np)) (h0 : n = 0 → np ≤ 2) (hnp : 1 ≤ np) (hF1 : F.2.1 = np - 1) (hF2 : F.2.2.1 = vud w fr (np - 1) n) (hr : vud w fr (np - 1) n + vwd w F.1 ≤ vln ps t (np - 1)) : Geo w ps t np (n + 1) (mj_upd fr n F) := by
  refine ⟨fun i hi => ?_, ?_, fun i hi => ?_⟩
  · by_cases e : i = n
    · subst e
      rw [mj_upd_self]
      exact ⟨by omega, by rw [hF1, hF2]; exact hr⟩
    · rw [mj_upd_ne e]
      exact (hg (by omega)).1.1 i (by omega)
  · by_cases e : n = 0
    · subst e
      rw [mj_upd_self]
      exact ⟨by rw [hF2]; rfl, by have := h0 rfl; omega⟩
    · rw [mj_upd_ne (by omega)]
      exact (hg (by omega)).1.2.1
  · by_cases e : i + 1 = n
    · subst e
      rw [mj_upd_self, mj_upd_ne (by omega)]
      obtain ⟨g, l⟩ := hg (by omega)
      rw [Nat.add_sub_cancel] at l
      rcases l with l | l
      · refine Or.inl ⟨by omega, ?_⟩
        rw [hF2, show np - 1 = (fr i).2.1 by omega, g.ud i (by omega)]
      · refine Or.inr ⟨by omega, ?_⟩
        rw [hF2, vud_zero (fun j hj => ?_)]
        have := g.mono (i := j) (j := i) (by omega) (by omega)
        omega
    · rw [mj_upd_ne e, mj_upd_ne (by omega)]
      exact (hg (by omega)).1.2.2 i (by omega)
theorem Ifr.psh (hg : 0 < n → Ifr w ps t n fr) (hF : F.1 < 10 ∧ 1 ≤ vsz w F.1) (hb0 : n = 0 → F.2.2.2.1 = 0 ∨ F.2.2.2.1 = 1024) (hb : 0 < n → vbk w F (fr (n - 1)) ∧ (vcv (fr (n - 1)) → vcv F)) (hcv : vcv F → ∃ d, vdp w 10 F.1 = some d ∧ d ≤ (w 2051).toInt.toNat ∧ F.2.2.1 + d ≤ vln ps t F.2.1)
    (hq : ∀ k, k < vsz w F.1 → bt (w (2238 + F.1)) k → ∀ q, F.2.2.2.2.2 k = some q → q.1 < n ∧ q.2 < vsz w (fr q.1).1 ∧ ¬ bt (w (2238 + (fr q.1).1)) q.2) : Ifr w ps t (n + 1) (mj_upd fr n F) := by
  refine ⟨fun i hi => ?_, ?_, fun i hi => ?_, fun i hi => ?_, fun i hi => ?_, fun i hi k hk hbk q hq' => ?_⟩
  · by_cases e : i = n
    · subst e; rw [mj_upd_self]; exact hF
    · rw [mj_upd_ne e]; exact (hg (by omega)).1 i (by omega)
  · by_cases e : n = 0
    · subst e; rw [mj_upd_self]; exact hb0 rfl
    · rw [mj_upd_ne (by omega)]; exact (hg (by omega)).2.1
  · by_cases e : i + 1 = n
    · subst e
      rw [mj_upd_self, mj_upd_ne (by omega)]
      exact (hb (by omega)).1
    · rw [mj_upd_ne e, mj_upd_ne (by omega)]
      exact (hg (by omega)).2.2.1 i (by omega)
  · by_cases e : i + 1 = n
    · subst e
      rw [mj_upd_self, mj_upd_ne (by omega)]
      exact (hb (by omega)).2
    · rw [mj_upd_ne e, mj_upd_ne (by omega)]
      exact (hg (by omega)).2.2.2.1 i (by omega)
  · by_cases e : i = n
    · subst e; rw [mj_upd_self]; exact hcv
    · rw [mj_upd_ne e]; exact (hg (by omega)).2.2.2.2.1 i (by omega)
  · by_cases e : i = n
    · subst e
      rw [mj_upd_self] at hk hbk hq'
      obtain ⟨g1, g2, g3⟩ := hq k hk hbk q hq'
      rw [mj_upd_ne (by omega)]
      exact ⟨by omega, g2, g3⟩
    · rw [mj_upd_ne e] at hk hbk hq'
      obtain ⟨g1, g2, g3⟩ := (hg (by omega)).2.2.2.2.2 i (by omega) k hk hbk q hq'
      rw [mj_upd_ne (by omega)]
      exact ⟨g1, g2, g3⟩
theorem vus_psh : vus w (mj_upd fr n F) (n + 1) = vus w fr n + vwd w F.1 := by
  have : ∀ m, m ≤ n → vus w (mj_upd fr n F) m = vus w fr m := by
    intro m
    induction m with
    | zero => intro _; rfl
    | succ m ih =>
      intro hm
      unfold vus
      rw [ih (by omega), mj_upd_ne (by omega)]
  show vus w (mj_upd fr n F) n + vwd w (mj_upd fr n F n).1 = _
  rw [this n (Nat.le_refl _), mj_upd_self]
theorem vos_psh : vos w (mj_upd fr n F) (n + 1) = vos w fr n + vfo w F := by
  have : ∀ m, m ≤ n → vos w (mj_upd fr n F) m = vos w fr m := by
    intro m
    induction m with
    | zero => intro _; rfl
    | succ m ih =>
      intro hm
      unfold vos
      rw [ih (by omega), mj_upd_ne (by omega)]
  show vos w (mj_upd fr n F) n + vfo w (mj_upd fr n F n) = _
  rw [this n (Nat.le_refl _), mj_upd_self]
end
section
variable {lim t f bk : Nat} {V : vV} {a : Int32} {q : Option (Nat × Nat)}
theorem vpu_2 : (vpu V t f bk a q).2 = (V.2.1, mj_upd V.2.2.1 t (V.2.2.1 t + 1), (vfr V t (V.2.2.1 t) (vfn V t f bk a q)).2.2.2) := by
  unfold vpu
  dsimp only
  split <;> rfl
theorem vpu_w : (∀ i, i ≠ 3982 + t → i ≠ 3975 + t → i ≠ 3968 + t → i ≠ 3954 + t → i ≠ 3961 + t → i ≠ 4045 + t → (vpu V t f bk a q).1 i = V.1 i) ∧ (vpu V t f bk a q).1 (3982 + t) = nI (vat V.2.1 t (vnp V t - 1) + vud V.1 (V.2.2.2 t) (vnp V t - 1) (V.2.2.1 t)) ∧ (vpu V t f bk a q).1 (3975 + t) = nI f ∧ (vpu V t f bk a q).1 (3968 + t) = 0 ∧ (vpu V t f bk a q).1 (3954 + t) = V.1 (3954 + t) + 1 ∧ (vpu V t f bk a q).1 (3961 + t) = V.1 (3961 + t) + (V.1 (2228 + f) + 2) := by
  have key : ∃ x : Int32, ∀ i, i ≠ 4045 + t → (vpu V t f bk a q).1 i = mj_upd (mj_upd (mj_upd (mj_upd (mj_upd V.1 (3982 + t) (nI (vat V.2.1 t (vnp V t - 1) + vud V.1 (V.2.2.2 t) (vnp V t - 1) (V.2.2.1 t)))) (3975 + t) (nI f)) (3968 + t) 0) (3954 + t) (V.1 (3954 + t) + 1)) (3961 + t) (V.1 (3961 + t) + (V.1 (2228 + f) + 2)) i := by
    have e4 : (mj_upd (mj_upd (mj_upd V.1 (3982 + t) (nI (vat V.2.1 t (vnp V t - 1) + vud V.1 (V.2.2.2 t) (vnp V t - 1) (V.2.2.1 t)))) (3975 + t) (nI f)) (3968 + t) 0) (3954 + t) = V.1 (3954 + t) := by
      rw [mj_upd_ne (by omega), mj_upd_ne (by omega), mj_upd_ne (by omega)]
    refine ⟨0, fun i hi => ?_⟩
    rw [← e4]
    unfold vpu
    dsimp only
    split
    · rfl
    · rw [vs_ne hi]; rfl
  obtain ⟨-, key⟩ := key
  refine ⟨fun i h1 h2 h3 h4 h5 h6 => ?_, ?_, ?_, ?_, ?_, ?_⟩
  · rw [key i h6, mj_upd_ne h5, mj_upd_ne h4, mj_upd_ne h3, mj_upd_ne h2, mj_upd_ne h1]
  · rw [key _ (by omega), mj_upd_ne (by omega), mj_upd_ne (by omega), mj_upd_ne (by omega), mj_upd_ne (by omega), mj_upd_self]
  · rw [key _ (by omega), mj_upd_ne (by omega), mj_upd_ne (by omega), mj_upd_ne (by omega), mj_upd_self]
  · rw [key _ (by omega), mj_upd_ne (by omega), mj_upd_ne (by omega), mj_upd_self]
  · rw [key _ (by omega), mj_upd_ne (by omega), mj_upd_self]
  · rw [key _ (by omega), mj_upd_self]
end
end
section
/-! ===== a frame comes: VI ===== -/
section
variable {lim B B' t f bk np : Nat} {V V0 : vV} {a : Int32} {q : Option (Nat × Nat)}
theorem OT.pu (ht : t < 6) : OT t V (vpu V t f bk a q) := by
  obtain ⟨w1, -⟩ := vpu_w (V := V) (t := t) (f := f) (bk := bk) (a := a) (q := q)
  refine ⟨fun i hi => w1 i (by omega) (by omega) (by omega) (by omega) (by omega) (by omega), fun i h1 h2 => w1 i (by omega) (by omega) (by omega) (by omega) (by omega) (by omega), fun t' ht' hne => ⟨fun j hj => w1 _ (by omega) (by omega) (by omega) (by omega) (by omega) (by omega), by rw [vpu_2]; exact mj_upd_ne hne, by rw [vpu_2]; exact if_neg hne⟩, fun p _ => by rw [vpu_2], fun t' n _ => by rw [vpu_2], fun k hk t' ht' hne => by rw [w1 _ (by omega) (by omega) (by omega) (by omega) (by omega) (by omega)]⟩
theorem vi_pu (hI : VI lim B V0) (hO : OT t V0 V) (ht : t < 6) (hj : VJ lim V) (hz : ∀ q ∈ V.2.1, (V0.1 2048).toInt.toNat ≤ q.2.1) (hsd : Isd V.1) (hlg : ∃ k, k ≤ B' ∧ V.1 2067 = nI k) (hc : Icn V t np) (hr : vud V.1 (V.2.2.2 t) (np - 1) (V.2.2.1 t) + vwd V.1 f ≤ vln V.2.1 t (np - 1)) (hbz : vbz V.1 t) (htl : tld V.1 (V.1 (4052 + t))) (hf : f < 10) (hs1 : 1 ≤ vsz V.1 f)
    (hos : V.1 (3996 + t) = nI (vos V.1 (V.2.2.2 t) (V.2.2.1 t) + vfo V.1 (vfn V t f bk a q))) (hoB : vos V.1 (V.2.2.2 t) (V.2.2.1 t) + vfo V.1 (vfn V t f bk a q) ≤ 1000000)
    (hsi : (V.1 (3989 + t) = -1 ∧ vos V.1 (V.2.2.2 t) (V.2.2.1 t) + vfo V.1 (vfn V t f bk a q) = 0) ∨ ∃ k, k < 3 ∧ V.1 (3989 + t) = nI k ∧ V.1 (3923 + k) = nI t ∧ 1 ≤ vos V.1 (V.2.2.2 t) (V.2.2.1 t) + vfo V.1 (vfn V t f bk a q))
    (hb0 : V.2.2.1 t = 0 → bk = 0 ∨ bk = 1024) (hb : 0 < V.2.2.1 t → vbk V.1 (vfn V t f bk a q) (V.2.2.2 t (V.2.2.1 t - 1)) ∧ (vcv (V.2.2.2 t (V.2.2.1 t - 1)) → vcv (vfn V t f bk a q)))
    (hcv : vcv (vfn V t f bk a q) → ∃ d, vdp V.1 10 f = some d ∧ d ≤ (V.1 2051).toInt.toNat ∧ vud V.1 (V.2.2.2 t) (np - 1) (V.2.2.1 t) + d ≤ vln V.2.1 t (np - 1))
    (hq : bt (V.1 (2238 + f)) 0 → ∀ p, q = some p → p.1 < V.2.2.1 t ∧ p.2 < vsz V.1 (V.2.2.2 t p.1).1 ∧ ¬ bt (V.1 (2238 + (V.2.2.2 t p.1).1)) p.2) : VI lim B' (vpu V t f bk a q) := by
  obtain ⟨c1, c2, c3, c4, c5, c6, c7, c8⟩ := hc
  have hnp : vnp V t = np := vnp_of c2 c3.2
  obtain ⟨w1, w2, w3, w4, w5, w6⟩ := vpu_w (V := V) (t := t) (f := f) (bk := bk) (a := a) (q := q)
  have hOp : OT t V (vpu V t f bk a q) := OT.pu ht
  have hw := hOp.1
  have h2 := vpu_2 (V := V) (t := t) (f := f) (bk := bk) (a := a) (q := q)
  have hfr : (vpu V t f bk a q).2.2.2 t = mj_upd (V.2.2.2 t) (V.2.2.1 t) (vfn V t f bk a q) := by
    rw [h2]
    exact if_pos rfl
  have hF1 : (vfn V t f bk a q).2.1 = np - 1 := by rw [← hnp]; rfl
  have hF2 : (vfn V t f bk a q).2.2.1 = vud V.1 (V.2.2.2 t) (np - 1) (V.2.2.1 t) := by rw [← hnp]; rfl
  have hG : Geo V.1 V.2.1 t np (V.2.2.1 t + 1) (mj_upd (V.2.2.2 t) (V.2.2.1 t) (vfn V t f bk a q)) := Geo.psh (fun h => ⟨(c7 h).1, (c7 h).2.1⟩) (fun h => (c8 h).1) c3.1 hF1 hF2 hr
  have hE : Ifr V.1 V.2.1 t (V.2.2.1 t + 1) (mj_upd (V.2.2.2 t) (V.2.2.1 t) (vfn V t f bk a q)) := by
    refine Ifr.psh (fun h => (c7 h).2.2.1) ⟨hf, hs1⟩ hb0 hb (fun h => ?_) (fun k hk hbk p hp => ?_)
    · rw [hF1, hF2]; exact hcv h
    · have hp : (if k = 0 then q else none) = some p := hp
      by_cases e : k = 0
      · rw [if_pos e] at hp
        subst e
        exact hq hbk p hp
      · rw [if_neg e] at hp
        cases hp
  have hlt : ∀ j, j < V.2.2.1 t + 1 → (mj_upd (V.2.2.2 t) (V.2.2.1 t) (vfn V t f bk a q) j).1 < 10 := fun j hj' => (hE.1 j hj').1
  have hvo := vos_w hw hj.1 hE _ (Nat.le_refl _)
  have hsz := hj.1.sz hf
  refine hI.ot (B' := B') (hO.trans hOp) ht ?_ ?_ ?_ (Or.inl ⟨?_, V.2.2.1 t, np, ?_, ?_, ?_, c3, ?_, ?_, ?_, ?_, ?_, ?_, ?_, ?_, ⟨0, by omega, ?_⟩, ?_, ?_, ?_, ?_⟩)
  · rw [h2]
    exact ⟨hj.2.1, hj.2.2.1, hz⟩
  · intro k hk
    rw [w1 _ (by omega) (by omega) (by omega) (by omega) (by omega) (by omega)]
    rcases hsd k hk with e | ⟨t', g1, g2, g3⟩
    · exact Or.inl e
    · exact Or.inr ⟨t', g1, g2, (w1 _ (by omega) (by omega) (by omega) (by omega) (by omega) (by omega)).trans g3⟩
  · rw [w1 _ (by omega) (by omega) (by omega) (by omega) (by omega) (by omega)]
    exact hlg
  · unfold vbz at hbz ⊢
    rw [w1 _ (by omega) (by omega) (by omega) (by omega) (by omega) (by omega)]
    exact hbz
  · rw [h2]; exact mj_upd_self
  · rw [w5, c1, nI_1]
  · rw [w1 _ (by omega) (by omega) (by omega) (by omega) (by omega) (by omega)]; exact c2
  · rw [h2]; exact c4
  · rw [w1 _ (by omega) (by omega) (by omega) (by omega) (by omega) (by omega), h2]; exact c5
  · rw [hfr, h2]; exact hG.ww hw hlt
  · rw [hfr, mj_upd_self]; exact hF1
  · rw [hfr, h2]; exact hE.ww hw hj.1
  · rw [hfr, w6, (hw.us (k := 0) hlt).1, vus_psh, c6, hsz.1, li_add2, nI_add]
    rfl
  · have : vpl (vpu V t f bk a q) t (V.2.2.1 t) = vat V.2.1 t (vnp V t - 1) + vud V.1 (V.2.2.2 t) (vnp V t - 1) (V.2.2.1 t) := by
      unfold vpl
      rw [hfr, mj_upd_self, h2]
      rfl
    rw [w2, this]
  · rw [hfr, mj_upd_self, w3]
    rfl
  · rw [w4]; rfl
  · rw [hfr, hvo, vos_psh, w1 _ (by omega) (by omega) (by omega) (by omega) (by omega) (by omega)]
    exact hos
  · rw [hfr, hvo, vos_psh]; exact hoB
  · rw [hfr, hvo, vos_psh, w1 _ (by omega) (by omega) (by omega) (by omega) (by omega) (by omega)]
    rcases hsi with e | ⟨k, k1, k2, k3, k4⟩
    · exact Or.inl e
    · exact Or.inr ⟨k, k1, k2, (w1 _ (by omega) (by omega) (by omega) (by omega) (by omega) (by omega)).trans k3, k4⟩
  · rw [w1 _ (by omega) (by omega) (by omega) (by omega) (by omega) (by omega)]
    exact hw.tl.mpr htl
end
end
section
/-! ===== a task is out, from a state between ===== -/
section
variable {lim B B' t : Nat} {V V' V0 : vV}
theorem OT.idl2 (hs : ∀ k, k < 3 → V.1 (3989 + t) = nI k → V.1 (3923 + k) = nI t) (ht : t < 6) (h2 : V'.2 = (V.2.1.filter (fun q => decide (q.2.2.1 ≠ t)), mj_upd V.2.2.1 t 0, V.2.2.2)) (hw : ∀ i, (2048 ≤ i ∧ i ≤ 2053) ∨ (2228 ≤ i ∧ i < 2898) ∨ (3926 ≤ i ∧ i < 4073 ∧ (i - 3926) % 7 ≠ t) → V'.1 i = V.1 i) (hsd : ∀ k, k < 3 → V'.1 (3923 + k) = if V.1 (3989 + t) = nI k then -1 else V.1 (3923 + k)) : OT t V V' := by
  refine ⟨fun i hi => hw i (by omega), fun i h3 h4 => hw i (by omega), fun t' ht' hne => ⟨fun j hj => hw _ (by omega), by rw [h2]; exact mj_upd_ne hne, by rw [h2]⟩, fun q hq => ?_, fun t' n hne => ?_, fun k hk t' ht' hne => ?_⟩
  · rw [h2]
    exact ⟨fun h => (List.mem_filter.mp h).1, fun h => List.mem_filter.mpr ⟨h, decide_eq_true hq⟩⟩
  · rw [h2]
    refine vfind_filter (fun q _ hk => decide_eq_true ?_)
    have hk : q.2.2.1 = t' ∧ q.2.2.2 = n := by simpa [vkey] using hk
    omega
  · rw [hsd k hk]
    by_cases e : V.1 (3989 + t) = nI k
    · rw [if_pos e, hs k hk e]
      constructor
      · intro g
        exact absurd g.symm (nI_m1 (by omega))
      · intro g
        exact absurd ((nI_inj (by omega) (by omega)).mp g).symm hne
    · rw [if_neg e]
theorem vi_out2 (hI : VI lim B V0) (hO : OT t V0 V) (ht : t < 6) (hj : VJ lim V) (hz : ∀ q ∈ V.2.1, (V0.1 2048).toInt.toNat ≤ q.2.1) (hsd : Isd V.1) (hlg : ∃ k, k + 1 ≤ B' ∧ V.1 2067 = nI k) (hs : V.1 (3989 + t) = -1 ∨ ∃ k, k < 3 ∧ V.1 (3989 + t) = nI k ∧ V.1 (3923 + k) = nI t) : VI lim B' (vot V t) := by
  have hs1 : V.1 (3989 + t) = -1 ∨ ∃ k, k < 3 ∧ V.1 (3989 + t) = nI k := by
    rcases hs with e | ⟨k, k1, k2, -⟩
    · exact Or.inl e
    · exact Or.inr ⟨k, k1, k2⟩
  have hs2 : ∀ k, k < 3 → V.1 (3989 + t) = nI k → V.1 (3923 + k) = nI t := fun k hk e => by
    rcases hs with g | ⟨k', k1, k2, k3⟩
    · rw [e] at g
      exact absurd g (nI_m1 (by omega))
    · rw [e] at k2
      have := (nI_inj (by omega) (by omega)).mp k2
      subst this
      exact k3
  obtain ⟨g1, g2⟩ := vga_is hs1 ht
  have hne : ∀ i, i ≠ 2067 → i ≠ 2055 → i ≠ 3926 + t → (vot V t).1 i = (vga V t).1 i := fun i h1 h2 h3 => by
    unfold vot vlg1
    rw [vs_ne h1, vcn_ne (by omega), vs_ne h3]
  have h2 : (vot V t).2 = (V.2.1.filter (fun q => decide (q.2.2.1 ≠ t)), mj_upd V.2.2.1 t 0, V.2.2.2) := vga_2 (V := V)
  have hw : ∀ i, (2048 ≤ i ∧ i ≤ 2053) ∨ (2228 ≤ i ∧ i < 2898) ∨ (3926 ≤ i ∧ i < 4073 ∧ (i - 3926) % 7 ≠ t) → (vot V t).1 i = V.1 i := fun i hi => by
    rw [hne i (by omega) (by omega) (by omega), g1 i (by omega)]
  have hsd2 : ∀ k, k < 3 → (vot V t).1 (3923 + k) = if V.1 (3989 + t) = nI k then -1 else V.1 (3923 + k) := fun k hk => by
    rw [hne _ (by omega) (by omega) (by omega), g2 k hk]
  refine hI.ot (hO.trans (OT.idl2 hs2 ht h2 hw hsd2)) ht ?_ ?_ ?_ (Or.inr ⟨?_, ?_, ?_, ?_, ?_, ?_, ?_, Or.inr (Or.inr ?_), ?_⟩)
  · rw [h2]
    exact ⟨vo_sub hj.2.1 List.filter_sublist, hj.2.2.1.sublist List.filter_sublist, fun q hq => hz q (List.mem_filter.mp hq).1⟩
  · intro k hk
    rw [hsd2 k hk]
    by_cases e : V.1 (3989 + t) = nI k
    · rw [if_pos e]; exact Or.inl rfl
    · rw [if_neg e]
      rcases hsd k hk with g | ⟨t', x1, x2, x3⟩
      · exact Or.inl g
      · refine Or.inr ⟨t', x1, x2, ?_⟩
        rw [hw _ ?_]
        · exact x3
        · have : t' ≠ t := fun g => by subst g; exact e x3
          omega
  · obtain ⟨k, k1, k2⟩ := hlg
    refine ⟨k + 1, k1, ?_⟩
    show mj_upd (vcn (vs (vga V t) (3926 + t) 4) 1 1).1 2067 ((vcn (vs (vga V t) (3926 + t) 4) 1 1).1 2067 + 1) 2067 = _
    rw [mj_upd_self, vcn_ne (by omega), vs_ne (by omega), g1 _ (by omega), k2, nI_1]
  · rw [h2]; exact mj_upd_self
  · rw [hne _ (by omega) (by omega) (by omega), vga_1, mj_upd_ne (by omega), mj_upd_ne (by omega), mj_upd_self]
  · rw [hne _ (by omega) (by omega) (by omega), vga_1, mj_upd_ne (by omega), mj_upd_ne (by omega), mj_upd_ne (by omega), mj_upd_self]
  · rw [hne _ (by omega) (by omega) (by omega), vga_1, mj_upd_ne (by omega), mj_upd_self]
  · rw [hne _ (by omega) (by omega) (by omega), vga_1, mj_upd_self]
  · rw [hne _ (by omega) (by omega) (by omega), vga_1, mj_upd_ne (by omega), mj_upd_ne (by omega), mj_upd_ne (by omega), mj_upd_ne (by omega), mj_upd_ne (by omega), mj_upd_self]
  · rw [hne _ (by omega) (by omega) (by omega), vga_1, mj_upd_ne (by omega), mj_upd_ne (by omega), mj_upd_ne (by omega), mj_upd_ne (by omega), mj_upd_self]
  · unfold vot vlg1
    rw [vs_ne (by omega), vcn_ne (by omega)]
    exact mj_upd_self
  · intro q hq
    rw [h2] at hq
    exact of_decide_eq_true (List.mem_filter.mp hq).2
end
end
section
/-! ===== a frame comes behind room that was made ===== -/
section
variable {w w' : Nat → Int32} {F F' G : vF}
theorem vbk_up (hw : vpe w w') (hp : Ipr w) (hG : G.1 < 10) (h1 : F'.1 = F.1) (hB : F.2.2.2.1 < 1024 ∨ (2048 ≤ F.2.2.2.1 ∧ F.2.2.2.1 < 3072)) (h2 : F'.2.2.2.1 = F.2.2.2.1 ∨ F'.2.2.2.1 = F.2.2.2.1 + 1024) (h : vbk w F G) : vbk w' F' G := by
  obtain ⟨d1, d2, d3, d4, d5⟩ := h
  have hl := (hp.li hG).2
  have e1 : F'.2.2.2.1 % 1024 = F.2.2.2.1 % 1024 := by omega
  have e2 : F'.2.2.2.1 % 32 = F.2.2.2.1 % 32 := by omega
  unfold vbk
  rw [h1, e1, e2, (hw.sz hG).2.2.1, hw.co0 hG (by omega), hw.co (j := 1) hG (by omega) (by omega), hw.co (j := 2) hG (by omega) (by omega)]
  refine ⟨by omega, d2, d3, d4, ?_⟩
  rcases d5 with ⟨x, y⟩ | ⟨x, y⟩
  · exact Or.inl ⟨by omega, y⟩
  · exact Or.inr ⟨by omega, y⟩
theorem vfo_up (hw : vpe w w') (hB : F.2.2.2.1 < 1024 ∨ (2048 ≤ F.2.2.2.1 ∧ F.2.2.2.1 < 3072)) (h2 : F'.2.2.2.1 = F.2.2.2.1 ∨ F'.2.2.2.1 = F.2.2.2.1 + 1024) (hv : 2048 ≤ F.2.2.2.1 → F.2.2.2.1 % 1024 / 32 < 10 ∧ F.2.2.2.1 % 32 - 1 < 16) : vfo w' F' = vfo w F := by
  have e1 : F'.2.2.2.1 % 1024 = F.2.2.2.1 % 1024 := by omega
  have e2 : F'.2.2.2.1 % 32 = F.2.2.2.1 % 32 := by omega
  unfold vfo
  rw [e1, e2]
  by_cases c : 2048 ≤ F.2.2.2.1
  · obtain ⟨x, y⟩ := hv c
    rw [if_pos c, if_pos (by omega), hw.co x y (by omega)]
  · rw [if_neg c, if_neg (by omega)]
end
theorem bk_a {bk b' : Nat} (h : bk = 0) (hbb : b' = bk ∨ b' = bk + 1024) : b' = 0 ∨ b' = 1024 := by omega
theorem bk_b {bk b' : Nat} (hB : bk < 1024 ∨ (2048 ≤ bk ∧ bk < 3072)) (h : b' = bk + 1024) : b' / 1024 % 2 = 1 := by omega
theorem bk_c {bk b' : Nat} (hB : bk < 1024 ∨ (2048 ≤ bk ∧ bk < 3072)) (hbb : b' = bk ∨ b' = bk + 1024) (e : b' / 1024 % 2 = 1) : b' = bk + 1024 := by omega
section
variable {lim B B' t f bk b' np np1 z : Nat} {V V0 V1 : vV} {a : Int32} {q : Option (Nat × Nat)} {G : vF}
theorem vi_up (hI : VI lim B V0) (hO : OT t V0 V) (hP : Vpre lim V t np z) (hsd : Isd V.1) (hbz : vbz V.1 t) (htl : tld V.1 (V.1 (4052 + t))) (hf : f < 10) (hs1 : 1 ≤ vsz V.1 f) (hB : bk < 1024 ∨ (2048 ≤ bk ∧ bk < 3072)) (hG : G.1 = f ∧ G.2.2.2.1 = bk)
    (hos : V.1 (3996 + t) = nI (vos V.1 (V.2.2.2 t) (V.2.2.1 t) + vfo V.1 G)) (hoB : vos V.1 (V.2.2.2 t) (V.2.2.1 t) + vfo V.1 G ≤ 1000000)
    (hsi : (V.1 (3989 + t) = -1 ∧ vos V.1 (V.2.2.2 t) (V.2.2.1 t) + vfo V.1 G = 0) ∨ ∃ k, k < 3 ∧ V.1 (3989 + t) = nI k ∧ V.1 (3923 + k) = nI t ∧ 1 ≤ vos V.1 (V.2.2.2 t) (V.2.2.1 t) + vfo V.1 G)
    (hb0 : V.2.2.1 t = 0 → bk = 0) (hb : 0 < V.2.2.1 t → vbk V.1 G (V.2.2.2 t (V.2.2.1 t - 1)))
    (hq : bt (V.1 (2238 + f)) 0 → ∀ p, q = some p → p.1 < V.2.2.1 t ∧ p.2 < vsz V.1 (V.2.2.2 t p.1).1 ∧ ¬ bt (V.1 (2238 + (V.2.2.2 t p.1).1)) p.2)
    (hO1 : OT t V V1) (e22 : V1.2.2 = V.2.2) (hj1 : VJ lim V1) (hz1 : ∀ q ∈ V1.2.1, z ≤ q.2.1) (hlg1 : ∃ k, k ≤ B' ∧ V1.1 2067 = nI k) (hsc : ∀ i, (3923 ≤ i ∧ i < 3926) ∨ i = 3996 + t ∨ i = 3989 + t ∨ i = 3926 + t ∨ i = 4052 + t → V1.1 i = V.1 i) (hc1 : Icn V1 t np1) (hr1 : vud V.1 (V.2.2.2 t) (np1 - 1) (V.2.2.1 t) + vwd V.1 f ≤ vln V1.2.1 t (np1 - 1))
    (hbb : b' = bk ∨ b' = bk + 1024) (hcl : 0 < V.2.2.1 t → vcv (V.2.2.2 t (V.2.2.1 t - 1)) → b' = bk + 1024) (hcv : b' = bk + 1024 → ∃ d, vdp V.1 10 f = some d ∧ d ≤ (V.1 2051).toInt.toNat ∧ vud V.1 (V.2.2.2 t) (np1 - 1) (V.2.2.1 t) + d ≤ vln V1.2.1 t (np1 - 1)) : VI lim B' (vpu V1 t f b' a q) := by
  obtain ⟨hj, hc, ht, hz, h8, hzl, hl, hl2, hqz⟩ := hP
  obtain ⟨g1, g2⟩ := hG
  have hw := hO1.1
  have en : V1.2.2.1 = V.2.2.1 := by rw [e22]
  have ef : V1.2.2.2 = V.2.2.2 := by rw [e22]
  have hff : ∀ i, i < V.2.2.1 t → (V.2.2.2 t i).1 < 10 := fun i hi => (hj.fit ht hi).1
  have hvos : vos V1.1 (V.2.2.2 t) (V.2.2.1 t) = vos V.1 (V.2.2.2 t) (V.2.2.1 t) := by
    by_cases c : V.2.2.1 t = 0
    · rw [c]; rfl
    · exact vos_w hw hj.1 (hc.2.2.2.2.2.2.1 (by omega)).2.2.1 _ (Nat.le_refl _)
  have hfo : vfo V1.1 (vfn V1 t f b' a q) = vfo V.1 G := by
    refine vfo_up hw (by rw [g2]; exact hB) (by rw [g2]; exact hbb) (fun c => ?_)
    have hn : 0 < V.2.2.1 t := by
      rcases Nat.eq_zero_or_pos (V.2.2.1 t) with e | e
      · have := hb0 e
        omega
      · exact e
    obtain ⟨-, x2, -, x4, -⟩ := hb hn
    have hfl := hff _ (show V.2.2.1 t - 1 < V.2.2.1 t by omega)
    have := (hj.1.li hfl).2
    exact ⟨by rw [x2]; exact hfl, by omega⟩
  have hz0 : (V0.1 2048).toInt.toNat = z := by
    rw [← hO.2.1 2048 (by omega) (by omega), hz, nI_int (by omega)]; rfl
  refine vi_pu hI (hO.trans hO1) ht hj1 (by rw [hz0]; exact hz1) ?_ hlg1 hc1 ?_ ?_ ?_ hf (by rw [(hw.sz hf).1]; exact hs1) ?_ ?_ ?_ (fun e => ?_) (fun e => ⟨?_, fun e2 => ?_⟩) (fun e => ?_) (fun e p hp => ?_)
  · intro k hk
    rw [hsc _ (by omega)]
    rcases hsd k hk with e | ⟨t', x1, x2, x3⟩
    · exact Or.inl e
    · refine Or.inr ⟨t', x1, x2, ?_⟩
      by_cases c : t' = t
      · subst c
        rw [hsc _ (by omega)]; exact x3
      · have := (hO1.2.2.1 t' x1 c).1 9 (by omega)
        exact Eq.trans this x3
  · rw [en, ef, (hw.us hff).2, (hw.sz hf).2.1]; exact hr1
  · unfold vbz at hbz ⊢
    rw [hsc _ (by omega)]; exact hbz
  · rw [hsc _ (by omega)]; exact hw.tl.mpr htl
  · rw [hfo, en, ef, hvos, hsc _ (by omega)]; exact hos
  · rw [hfo, en, ef, hvos]; exact hoB
  · rw [hfo, en, ef, hvos, hsc _ (by omega)]
    rcases hsi with e | ⟨k, k1, k2, k3, k4⟩
    · exact Or.inl e
    · exact Or.inr ⟨k, k1, k2, (hsc _ (by omega)).trans k3, k4⟩
  · rw [en] at e
    exact bk_a (hb0 e) hbb
  · rw [en] at e ⊢
    rw [ef]
    exact vbk_up hw hj.1 (hff _ (by omega)) g1.symm (by rw [g2]; exact hB) (by rw [g2]; exact hbb) (hb e)
  · rw [en, ef] at e2
    rw [en] at e
    exact bk_b hB (hcl e e2)
  · have e : b' / 1024 % 2 = 1 := e
    obtain ⟨d, d1, d2, d3⟩ := hcv (bk_c hB hbb e)
    refine ⟨d, by rw [hw.dp hj.1 10 f hf]; exact d1, by rw [hw 2051 (Or.inr (Or.inr rfl))]; exact d2, ?_⟩
    rw [en, ef, (hw.us hff).2]; exact d3
  · rw [(hw.sz hf).2.2.2] at e
    obtain ⟨x1, x2, x3⟩ := hq e p hp
    have := hff _ x1
    rw [en, ef, (hw.sz this).1, (hw.sz this).2.2.2]
    exact ⟨x1, x2, x3⟩
end
end
