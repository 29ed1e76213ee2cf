/-! ===== the class: a frame has come ===== -/
/-- what pushFrame leaves -/
def PUs (b t : Nat) (s s1 : wt_S) (V : vV) (f id : Nat) (bw : Int32) : Prop := (∀ c, c ≠ b + 15 → c ≠ b + 5 → c ≠ b + 17 + 2 * t → s1 c = s c) ∧ s1 (b + 5) = mj_upd (s (b + 5)) id (s (b + 5) id + nI (vwd V.1 f)) ∧
      s1 (b + 15) (vnx V t) = s (b + 17 + 2 * t) 11 ∧ s1 (b + 15) (vnx V t + 1) = bw ∧ (∀ k, k < vsz V.1 f → s1 (b + 15) (vnx V t + 2 + k) = vdf V.1 f k) ∧ (∀ x, ¬ (vnx V t ≤ x ∧ x < vnx V t + vwd V.1 f) → s1 (b + 15) x = s (b + 15) x) ∧
      s1 (b + 17 + 2 * t) 4 = s (b + 17 + 2 * t) 4 + 1 ∧ s1 (b + 17 + 2 * t) 5 = s (b + 17 + 2 * t) 5 + nI (vwd V.1 f) ∧ s1 (b + 17 + 2 * t) 6 = (if (s (b + 17 + 2 * t) 6).toInt < (s (b + 17 + 2 * t) 5 + nI (vwd V.1 f)).toInt then s (b + 17 + 2 * t) 5 + nI (vwd V.1 f) else s (b + 17 + 2 * t) 6) ∧ s1 (b + 17 + 2 * t) 11 = nI (vnx V t) ∧ s1 (b + 17 + 2 * t) 9 = nI f ∧ s1 (b + 17 + 2 * t) 10 = 0 ∧ ∀ j, j ≠ 4 → j ≠ 5 → j ≠ 6 → j ≠ 9 → j ≠ 10 → j ≠ 11 → s1 (b + 17 + 2 * t) j = s (b + 17 + 2 * t) j
section
variable {b lim : Nat} {s s1 s2 : wt_S} {V V' : vV} {zs zs' : List (vP × Nat)} {fr fr' : List Nat} {t np z need k f bk id : Nat} {a : Int32} {q : Option (Nat × Nat)}
theorem c_pushP (h : RC b lim s V zs fr) (hx : CX b lim) (hj : VJ lim V) (hc : Icn V t np) (ht : t < 6) (hf : f < 10) (hr : vud V.1 (V.2.2.2 t) (np - 1) (V.2.2.1 t) + vwd V.1 f ≤ vln V.2.1 t (np - 1)) {bw : Int32} : ∃ s1 id, id < 256 ∧ gX2_pushFrame b (b + 17 + 2 * t) s (nI f) bw = some ((), s1) ∧ (∃ y ∈ zs, y.2 = id ∧ y.1.2.2.1 = t ∧ y.1.2.2.2 = np - 1) ∧ PUs b t s s1 V f id bw := c_push h hx hj hc ht hf hr
theorem vpu_m : (vpu V t f bk a q).1 (4045 + t) = if (V.1 (3961 + t) + (V.1 (2228 + f) + 2)).toInt ≤ (V.1 (4045 + t)).toInt then V.1 (4045 + t) else V.1 (3961 + t) + (V.1 (2228 + f) + 2) := by
  unfold vpu
  dsimp only
  rw [vs_at]
  have e : (vs (vnf (vinc (vs (vs (vs (vfr V t (V.2.2.1 t) (vfn V t f bk a q)) (3982 + t) (nI (vat V.2.1 t (vfn V t f bk a q).2.1 + (vfn V t f bk a q).2.2.1))) (3975 + t) (nI f)) (3968 + t) 0) (3954 + t)) t (V.2.2.1 t + 1)) (3961 + t) (V.1 (3961 + t) + (V.1 (2228 + f) + 2))).1 (4045 + t) = V.1 (4045 + t) := by
    rw [vs_ne (by omega)]
    show (vinc (vs (vs (vs (vfr V t (V.2.2.1 t) (vfn V t f bk a q)) (3982 + t) _) (3975 + t) (nI f)) (3968 + t) 0) (3954 + t)).1 (4045 + t) = _
    rw [vinc_ne (by omega), vs_ne (by omega), vs_ne (by omega), vs_ne (by omega)]
    rfl
  rw [e]
  split
  · exact e
  · exact vs_at
theorem c_pu (h : RC b lim s V zs fr) (hx : CX b lim) (hj : VJ lim V) (hc : Icn V t np) (ht : t < 6) (hf : f < 10) (hs1 : 1 ≤ vsz V.1 f) (hr : vud V.1 (V.2.2.2 t) (np - 1) (V.2.2.1 t) + vwd V.1 f ≤ vln V.2.1 t (np - 1)) (hy : ∃ y ∈ zs, y.2 = id ∧ y.1.2.2.1 = t ∧ y.1.2.2.2 = np - 1) (hp : PUs b t s s1 V f id (nI bk)) (hs2 : ∀ c, c ≠ b + 15 → s2 c = s1 c) (hm2 : ∀ x, x ≠ vnx V t + 2 → s2 (b + 15) x = s1 (b + 15) x) (h0 : s2 (b + 15) (vnx V t + 2) = vsw V.1 (vpl V t) (vfn V t f bk a q) 0) (hq : ∀ p, q = some p → p.1 < V.2.2.1 t) : RC b lim s2 (vpu V t f bk a q) zs fr ∧ TO b t s s2 := by
  have hb := hx.b
  obtain ⟨p1, p2, p3, p4, p5, p6, p7, p8, p9, p10, p11, p12, p13⟩ := hp
  obtain ⟨y, y1, y2, y3, y4⟩ := hy
  have hnp := vnp_of hc.2.1 hc.2.2.1.2
  have hsz := hj.1.sz hf
  have hwd := hj.1.wd hf
  obtain ⟨w1, w2, w3, w4, w5, w6⟩ := vpu_w (V := V) (t := t) (f := f) (bk := bk) (a := a) (q := q)
  have w7 := vpu_m (V := V) (t := t) (f := f) (bk := bk) (a := a) (q := q)
  rw [hwd.1] at w6 w7
  have h22 := vpu_2 (V := V) (t := t) (f := f) (bk := bk) (a := a) (q := q)
  obtain ⟨k1, k2, k3, k4, k5, k6⟩ := h.2.2.2.1 t ht
  have g2 : ∀ c, c ≠ b + 15 → c ≠ b + 5 → c ≠ b + 17 + 2 * t → s2 c = s c := fun c h1 h2 h3 => by rw [hs2 c h1, p1 c h1 h2 h3]
  have gT : s2 (b + 17 + 2 * t) = s1 (b + 17 + 2 * t) := hs2 _ (by omega)
  have g5 : s2 (b + 5) = mj_upd (s (b + 5)) id (s (b + 5) id + nI (vwd V.1 f)) := by rw [hs2 _ (by omega), p2]
  have hto : TO b t s s2 := ⟨fun k hk hne => ⟨g2 _ (by omega) (by omega) (by omega), g2 _ (by omega) (by omega) (by omega)⟩, fun c hc => g2 c (by omega) (by omega) (by omega)⟩
  have hot : OT t V (vpu V t f bk a q) := OT.pu ht
  have e4 := k1.2.1 (4, 3954) (by decide)
  have e5 := k1.2.1 (5, 3961) (by decide)
  have e6 := k1.2.1 (6, 4045) (by decide)
  have n22 : (vpu V t f bk a q).2.2.1 t = V.2.2.1 t + 1 := by rw [h22]; exact mj_upd_self
  have f22 : (vpu V t f bk a q).2.2.2 t = mj_upd (V.2.2.2 t) (V.2.2.1 t) (vfn V t f bk a q) := by rw [h22]; exact if_pos rfl
  have ps22 : (vpu V t f bk a q).2.1 = V.2.1 := by rw [h22]
  have hF1 : (vfn V t f bk a q).1 = f := rfl
  have hF2 : (vfn V t f bk a q).2.1 = np - 1 := by show vnp V t - 1 = _; rw [hnp]
  have hvn : vat V.2.1 t (vfn V t f bk a q).2.1 + (vfn V t f bk a q).2.2.1 = vnx V t := rfl
  have hfree := hc.free (f := f) hj ht hr
  refine ⟨h.op hx hj.1 hot ht hto hj.vfr (fun z _ => Iff.rfl) (fun z hz hzt => ?_) (by rw [ps22]; exact h.1) (h.2.1.eq (fun c hc' => g2 c (by omega) (by omega) (by omega))) ⟨fun j hj' => ?_, fun j hj' => ?_⟩ ⟨⟨?_, fun e he => ?_, fun e he => ?_⟩, ⟨fun hz => by omega, fun _ => ?_⟩, ⟨?_, fun z hz hzt => ?_⟩, ⟨fun z hz hzt hzn => ?_, fun hz => ?_⟩, ?_, fun z hz hzt => ?_⟩ ?_, hto⟩
  · have hne : z.2 ≠ id := fun e => hzt (by rw [h.2.1.inj hz y1 (e.trans y2.symm)]; exact y3)
    rw [g5, mj_upd_ne hne, g2 (b + 6) (by omega) (by omega) (by omega)]
    exact ⟨rfl, rfl⟩
  · rw [g2 _ (by omega) (by omega) (by omega), w1 _ (by omega) (by omega) (by omega) (by omega) (by omega) (by omega)]; exact h.2.2.1.1 j hj'
  · rw [g2 _ (by omega) (by omega) (by omega), w1 _ (by omega) (by omega) (by omega) (by omega) (by omega) (by omega)]; exact h.2.2.1.2 j hj'
  · rw [gT, p13 _ (by omega) (by omega) (by omega) (by omega) (by omega) (by omega)]; exact k1.1
  · have hk := k1.2.1 e he
    rw [gT]
    simp only [tf, List.mem_cons, List.not_mem_nil, or_false] at he
    rcases he with rfl | rfl | rfl | rfl | rfl | rfl | rfl | rfl | rfl | rfl
    · rw [p13 _ (by omega) (by omega) (by omega) (by omega) (by omega) (by omega), w1 _ (by omega) (by omega) (by omega) (by omega) (by omega) (by omega)]; exact hk
    · rw [p13 _ (by omega) (by omega) (by omega) (by omega) (by omega) (by omega), w1 _ (by omega) (by omega) (by omega) (by omega) (by omega) (by omega)]; exact hk
    · rw [p13 _ (by omega) (by omega) (by omega) (by omega) (by omega) (by omega), w1 _ (by omega) (by omega) (by omega) (by omega) (by omega) (by omega)]; exact hk
    · show s1 (b + 17 + 2 * t) 4 = (vpu V t f bk a q).1 (3954 + t)
      rw [p7, w5, hk]
    · show s1 (b + 17 + 2 * t) 5 = (vpu V t f bk a q).1 (3961 + t)
      rw [p8, w6, hk]
    · show s1 (b + 17 + 2 * t) 6 = (vpu V t f bk a q).1 (4045 + t)
      rw [p9, w7, hk, e5]
      by_cases c : (V.1 (3961 + t) + nI (vwd V.1 f)).toInt ≤ (V.1 (4045 + t)).toInt
      · rw [if_neg (by show ¬ (V.1 (4045 + t)).toInt < (V.1 (3961 + t) + nI (vwd V.1 f)).toInt; omega), if_pos c]
      · rw [if_pos (by show (V.1 (4045 + t)).toInt < (V.1 (3961 + t) + nI (vwd V.1 f)).toInt; omega), if_neg c]
    · rw [p13 _ (by omega) (by omega) (by omega) (by omega) (by omega) (by omega), w1 _ (by omega) (by omega) (by omega) (by omega) (by omega) (by omega)]; exact hk
    · rw [p13 _ (by omega) (by omega) (by omega) (by omega) (by omega) (by omega), w1 _ (by omega) (by omega) (by omega) (by omega) (by omega) (by omega)]; exact hk
    · show s1 (b + 17 + 2 * t) 9 = (vpu V t f bk a q).1 (3975 + t)
      rw [p11, w3]
    · rw [p13 _ (by omega) (by omega) (by omega) (by omega) (by omega) (by omega), w1 _ (by omega) (by omega) (by omega) (by omega) (by omega) (by omega)]; exact hk
  · have hk := k1.2.2 e he
    have ep := ts_p e he
    have hne : ∀ e ∈ ts, e.2 ≠ 3982 ∧ e.2 ≠ 3975 ∧ e.2 ≠ 3968 ∧ e.2 ≠ 3954 ∧ e.2 ≠ 3961 ∧ e.2 ≠ 4045 := by decide
    have := hne e he
    rw [g2 _ (by omega) (by omega) (by omega), w1 _ (by omega) (by omega) (by omega) (by omega) (by omega) (by omega)]; exact hk
  · rw [gT, p12, p10, w4, n22]
    refine ⟨rfl, ?_⟩
    unfold vpl
    rw [f22, ps22, Nat.add_sub_cancel, mj_upd_self, hvn]
  · rw [gT, p13 _ (by omega) (by omega) (by omega) (by omega) (by omega) (by omega), w1 _ (by omega) (by omega) (by omega) (by omega) (by omega) (by omega)]; exact k3.1
  · rw [gT, p13 _ (by omega) (by omega) (by omega) (by omega) (by omega) (by omega), w1 _ (by omega) (by omega) (by omega) (by omega) (by omega) (by omega)]
    exact k3.2 z hz hzt
  · rw [gT, p13 _ (by omega) (by omega) (by omega) (by omega) (by omega) (by omega)]; exact k4.1 z hz hzt hzn
  · rw [gT, p13 _ (by omega) (by omega) (by omega) (by omega) (by omega) (by omega)]
    rw [ps22] at hz
    exact k4.2 hz
  · unfold Kg
    rw [gT, p13 _ (by omega) (by omega) (by omega) (by omega) (by omega) (by omega), w1 _ (by omega) (by omega) (by omega) (by omega) (by omega) (by omega), w1 _ (by omega) (by omega) (by omega) (by omega) (by omega) (by omega)]; exact k5
  · obtain ⟨u1, u2, u3⟩ := k6 z hz hzt
    rw [g2 (b + 6) (by omega) (by omega) (by omega), n22, f22]
    refine ⟨?_, u2, u3⟩
    show s2 (b + 5) z.2 = nI (vud (vpu V t f bk a q).1 (mj_upd (V.2.2.2 t) (V.2.2.1 t) (vfn V t f bk a q)) z.1.2.2.2 (V.2.2.1 t) + if (mj_upd (V.2.2.2 t) (V.2.2.1 t) (vfn V t f bk a q) (V.2.2.1 t)).2.1 = z.1.2.2.2 then vwd (vpu V t f bk a q).1 (mj_upd (V.2.2.2 t) (V.2.2.1 t) (vfn V t f bk a q) (V.2.2.1 t)).1 else 0)
    have hvu : ∀ (w : Nat → Int32) n, n ≤ V.2.2.1 t → vud w (mj_upd (V.2.2.2 t) (V.2.2.1 t) (vfn V t f bk a q)) z.1.2.2.2 n = vud w (V.2.2.2 t) z.1.2.2.2 n := fun w n => by
      induction n with
      | zero => intro _; rfl
      | succ n ih =>
        intro hn
        show vud w _ z.1.2.2.2 n + _ = vud w _ z.1.2.2.2 n + _
        rw [ih (by omega), mj_upd_ne (by omega)]
    rw [hvu _ _ (Nat.le_refl _), vud_pe hot.1 (hj.vfr t ht), mj_upd_self, hF1, hF2, (hot.1.sz hf).2.1, g5]
    by_cases c : np - 1 = z.1.2.2.2
    · rw [if_pos c]
      have : z = y := zuniq h.1 hj.2.2.1 hz y1 (hzt.trans y3.symm) (c.symm.trans y4.symm)
      rw [this, y2, mj_upd_self, ← y2, ← this, u1, nI_add]
    · rw [if_neg c, Nat.add_zero]
      have hne : z.2 ≠ id := fun e => c (by rw [h.2.1.inj hz y1 (e.trans y2.symm)]; exact y4.symm)
      rw [mj_upd_ne hne]; exact u1
  · -- the words
    have hin : ∀ x, ¬ (vnx V t ≤ x ∧ x < vnx V t + vwd V.1 f) → s2 (b + 15) x = s (b + 15) x := fun x hx => by
      have hw2 : vwd V.1 f = vsz V.1 f + 2 := rfl
      rw [hm2 x (by omega), p6 x hx]
    have hV : VM (s2 (b + 15)) V := fun k hk => (h.2.2.2.2.1 k hk).mem (fun i hi j hj2 => by
      refine hin _ (fun hc' => ?_)
      have := hfree.2 (vpl V k i + j) hc'.1 hc'.2 k hk i hi
      omega)
    have hpush := hV.push (F := vfn V t f bk a q) hj ht hf (by
      rw [hvn, hm2 _ (by omega), p3]
      by_cases c : V.2.2.1 t = 0
      · rw [if_pos c]; exact (k2.1 c).2
      · rw [if_neg c]; exact (k2.2 (by omega)).2) (by rw [hvn, hm2 _ (by omega), p4]; rfl) (fun j hj2 => by
      rw [hvn]
      by_cases c : j = 0
      · subst c; exact h0
      · rw [hm2 _ (by omega), p5 j hj2]
        unfold vsw vdf
        rw [hF1]
        by_cases cb : bt (V.1 (2238 + f)) j
        · rw [if_pos cb, if_pos cb]
          show _ = (match (if j = 0 then q else none) with
            | none => (-1 : Int32)
            | some q => nI (vpl V t q.1 + 2 + q.2))
          rw [if_neg c]
        · rw [if_neg cb, if_neg cb]
          show _ = (if j = 0 then a else 0)
          rw [if_neg c]) (fun j hj2 hb2 p hp2 => by
      by_cases c : j = 0
      · subst c; exact hq p hp2
      · have : (if j = 0 then q else none) = some p := hp2
        rw [if_neg c] at this
        cases this)
    intro k hk
    have := hpush k hk
    have e1 : (vpu V t f bk a q).2.2.1 = mj_upd V.2.2.1 t (V.2.2.1 t + 1) := by rw [h22]
    have e2 : (vpu V t f bk a q).2.2.2 = (vfr V t (V.2.2.1 t) (vfn V t f bk a q)).2.2.2 := by rw [h22]
    have e3 : vpl (vpu V t f bk a q) k = vpl (vnf (vfr V t (V.2.2.1 t) (vfn V t f bk a q)) t (V.2.2.1 t + 1)) k := by
      funext i
      unfold vpl
      rw [ps22, e2]
      rfl
    rw [e1, e2, e3]
    exact MR_w (fun i i1 i2 => hot.1 i (Or.inl (by omega))) this
end
