/-! ===== a frame comes ===== -/
theorem vud_mono {w : Nat → Int32} {fr : Nat → vF} {k a b : Nat} (h : a ≤ b) : vud w fr k a ≤ vud w fr k b := by
  induction h with
  | refl => exact Nat.le_refl _
  | step _ ih => exact Nat.le_trans ih (Nat.le_add_right _ _)
/-- a place that no frame has -/
def vfree (V : vV) (x : Nat) : Prop := ∀ t, t < 6 → ∀ i, i < V.2.2.1 t → x < vpl V t i ∨ vpl V t i + vwd V.1 (V.2.2.2 t i).1 ≤ x
theorem VM.free {V : vV} {mm : Nat → Int32} {x : Nat} {v : Int32} (h : VM mm V) (hx : vfree V x) : VM (mj_upd mm x v) V := by
  intro t ht i hi
  obtain ⟨a1, a2, a3, a4⟩ := h t ht i hi
  have := hx t ht i hi
  unfold vwd at this
  exact ⟨a1, by rw [mj_upd_ne (by omega)]; exact a2, by rw [mj_upd_ne (by omega)]; exact a3, fun k hk => by rw [mj_upd_ne (by omega)]; exact a4 k hk⟩
theorem RS.free {s : wt_S} {V : vV} {x : Nat} {v : Int32} (h : RS s V) (hx : vfree V x) (hl : x < 2048) : RS (wt_u s 111 x v) V := by
  refine h.uf ?_
  obtain ⟨g1, g2, mm, g3, g4⟩ := h.2
  refine ⟨fun i hi => ?_, vr_P_upd (Or.inl (by omega)) g2, mj_upd mm x v, fun p hp => ?_, g4.free hx⟩
  · rw [mj_upd_ne (by have := (vtr_out hi).2; omega)]; exact g1 i hi
  · exact mj_upd_eq2 (Or.inr (g3 p hp))
/-- the next frame's words are free -/
theorem Icn.free {lim : Nat} {V : vV} {t np f : Nat} (hj : VJ lim V) (hc : Icn V t np) (ht : t < 6) (hr : vud V.1 (V.2.2.2 t) (np - 1) (V.2.2.1 t) + vwd V.1 f ≤ vln V.2.1 t (np - 1)) : vnx V t + vwd V.1 f ≤ lim ∧ ∀ x, vnx V t ≤ x → x < vnx V t + vwd V.1 f → vfree V x := by
  have hnp := vnp_of hc.2.1 hc.2.2.1.2
  obtain ⟨q, q1, q2, q3, q4, q5, -⟩ := vget (hc.2.2.2.1.1 (np - 1) (by have := hc.2.2.1; omega))
  have hq := hj.2.1.2 q q1
  unfold vnx
  rw [hnp, q4]
  rw [q5] at hr
  refine ⟨by omega, fun x h1 h2 t' ht' i hi => ?_⟩
  obtain ⟨np', a1, a2, a3⟩ := hj.geo ht' (by omega)
  obtain ⟨p, p1, p2, p3, p4, p5⟩ := a2.pc a1 hi
  unfold vpl
  rw [p4]
  by_cases e : p = q
  · subst e
    have et : t' = t := p2.symm.trans q2
    subst et
    have h3 := a2.ud i hi
    have h4 := vud_mono (w := V.1) (fr := V.2.2.2 t') (k := np - 1) (show i + 1 ≤ V.2.2.1 t' by omega)
    rw [show (V.2.2.2 t' i).2.1 = np - 1 by omega] at h3
    omega
  · rcases vdisj hj.2.1 p p1 q q1 e with h | h <;> omega
theorem VM.push {lim : Nat} {V : vV} {mm : Nat → Int32} {t : Nat} {F : vF} (hj : VJ lim V) (h : VM mm V) (ht : t < 6) (hf : F.1 < 10) (h1 : mm (vat V.2.1 t F.2.1 + F.2.2.1) = (if V.2.2.1 t = 0 then -1 else nI (vpl V t (V.2.2.1 t - 1)))) (h2 : mm (vat V.2.1 t F.2.1 + F.2.2.1 + 1) = nI F.2.2.2.1) (h3 : ∀ k, k < vsz V.1 F.1 → mm (vat V.2.1 t F.2.1 + F.2.2.1 + 2 + k) = vsw V.1 (vpl V t) F k) (h4 : ∀ k, k < vsz V.1 F.1 → bt (V.1 (2238 + F.1)) k → ∀ q, F.2.2.2.2.2 k = some q → q.1 < V.2.2.1 t) : VM mm (vnf (vfr V t (V.2.2.1 t) F) t (V.2.2.1 t + 1)) := by
  have hpl : ∀ t' i, ¬ (t' = t ∧ i = V.2.2.1 t) → vpl (vnf (vfr V t (V.2.2.1 t) F) t (V.2.2.1 t + 1)) t' i = vpl V t' i := fun t' i hne => by
    unfold vpl
    show vat V.2.1 t' ((vfr V t (V.2.2.1 t) F).2.2.2 t' i).2.1 + ((vfr V t (V.2.2.1 t) F).2.2.2 t' i).2.2.1 = _
    rw [vfr_ne hne]
  have hpl2 : vpl (vnf (vfr V t (V.2.2.1 t) F) t (V.2.2.1 t + 1)) t (V.2.2.1 t) = vat V.2.1 t F.2.1 + F.2.2.1 := by
    unfold vpl
    show vat V.2.1 t ((vfr V t (V.2.2.1 t) F).2.2.2 t (V.2.2.1 t)).2.1 + ((vfr V t (V.2.2.1 t) F).2.2.2 t (V.2.2.1 t)).2.2.1 = _
    rw [vfr_at]
  intro t' ht'
  by_cases et : t' = t
  · subst et
    intro i hi
    have hi : i < mj_upd V.2.2.1 t' (V.2.2.1 t' + 1) t' := hi
    rw [mj_upd_self] at hi
    show ((vfr V t' (V.2.2.1 t') F).2.2.2 t' i).1 < 10 ∧ _ ∧ mm (_ + 1) = nI ((vfr V t' (V.2.2.1 t') F).2.2.2 t' i).2.2.2.1 ∧ ∀ k, k < vsz V.1 ((vfr V t' (V.2.2.1 t') F).2.2.2 t' i).1 → mm (_ + 2 + k) = vsw V.1 _ ((vfr V t' (V.2.2.1 t') F).2.2.2 t' i) k
    by_cases ei : i = V.2.2.1 t'
    · subst ei
      rw [vfr_at, hpl2]
      refine ⟨hf, ?_, h2, fun k hk => ?_⟩
      · rw [h1]
        by_cases e0 : V.2.2.1 t' = 0
        · rw [if_pos e0, if_pos e0]
        · rw [if_neg e0, if_neg e0, hpl t' _ (by omega)]
      · rw [h3 k hk]
        unfold vsw
        by_cases cb : bt (V.1 (2238 + F.1)) k
        · rw [if_pos cb, if_pos cb]
          cases eq : F.2.2.2.2.2 k with
          | none => rfl
          | some q =>
            have := h4 k hk cb q eq
            show nI (vpl V t' q.1 + 2 + q.2) = nI (vpl (vnf (vfr V t' (V.2.2.1 t') F) t' (V.2.2.1 t' + 1)) t' q.1 + 2 + q.2)
            rw [hpl t' _ (by omega)]
        · rw [if_neg cb, if_neg cb]
    · have hi2 : i < V.2.2.1 t' := by omega
      obtain ⟨a1, a2, a3, a4⟩ := h t' ht' i hi2
      rw [vfr_ne (by omega), hpl t' i (by omega)]
      refine ⟨a1, ?_, a3, fun k hk => ?_⟩
      · rw [a2]
        by_cases e0 : i = 0
        · rw [if_pos e0, if_pos e0]
        · rw [if_neg e0, if_neg e0, hpl t' _ (by omega)]
      · rw [a4 k hk]
        unfold vsw
        by_cases cb : bt (V.1 (2238 + (V.2.2.2 t' i).1)) k
        · rw [if_pos cb, if_pos cb]
          cases eq : (V.2.2.2 t' i).2.2.2.2.2 k with
          | none => rfl
          | some q =>
            obtain ⟨np, -, -, b3⟩ := hj.geo ht' (by omega)
            have := (b3.2.2.2.2.2 i hi2 k hk cb q eq).1
            show nI (vpl V t' q.1 + 2 + q.2) = nI (vpl (vnf (vfr V t' (V.2.2.1 t') F) t' (V.2.2.1 t' + 1)) t' q.1 + 2 + q.2)
            rw [hpl t' _ (by omega)]
        · rw [if_neg cb, if_neg cb]
  · have e1 : (vnf (vfr V t (V.2.2.1 t) F) t (V.2.2.1 t + 1)).2.2.1 t' = V.2.2.1 t' := mj_upd_ne et
    have e2 : (vnf (vfr V t (V.2.2.1 t) F) t (V.2.2.1 t + 1)).2.2.2 t' = V.2.2.2 t' := if_neg et
    have e3 : vpl (vnf (vfr V t (V.2.2.1 t) F) t (V.2.2.1 t + 1)) t' = vpl V t' := by funext i; exact hpl t' i (fun e => et e.1)
    rw [e1, e2, e3]
    exact h t' ht'
/-! ### the reference writes a frame -/
section
variable {s : wt_S} {V : vV} {t np f : Nat}
/-- the words of a new frame without what is handed over -/
def vdf (w : Nat → Int32) (f k : Nat) : Int32 := if bt (w (2238 + f)) k then -1 else 0
theorem q_calls_185 {p : Nat} {iP v : Int32} (hf : f < 10) (hs1 : 1 ≤ vsz V.1 f) (hp : Ipr V.1) (hfit : p + vwd V.1 f ≤ 2048) (hfree : ∀ x, p ≤ x → x < p + vwd V.1 f → vfree V x) : ∀ (m k fu : Nat) (s : wt_S), k + m = vsz V.1 f → m < fu → RS s V → (∀ j, j < k → s 111 (p + 2 + j) = vdf V.1 f j) →
    ∃ s', gX11_calls_185 fu s (nI t) (nI f) (nI p) iP v (nI k) = (if rb (bt (V.1 (2238 + f)) 0) ≠ iP then gX11_calls_269 s' (nI t) (nI f) (nI p) else gX11_calls_269 (wt_u s' 111 (p + 2) v) (nI t) (nI f) (nI p)) ∧ RS s' V ∧ RF s s' ∧ (∀ j, j < vsz V.1 f → s' 111 (p + 2 + j) = vdf V.1 f j) ∧ s' 111 p = s 111 p ∧ s' 111 (p + 1) = s 111 (p + 1) := by
  have hz := hp.sz hf
  unfold vwd at hfit
  intro m
  induction m with
  | zero =>
    intro k fu s hk hfu h hw
    obtain ⟨fu, rfl⟩ : ∃ m, fu = m + 1 := ⟨fu - 1, by omega⟩
    obtain rfl : k = vsz V.1 f := by omega
    refine ⟨s, ?_, h, RF.refl, hw, rfl, rfl⟩
    rw [gX11_calls_185, li_add, ix_nI (by omega) (by omega), h.pr (by omega), hz.1, if_pos (Int.le_refl _), li_add, ix_nI (by omega) (by omega), h.pr (by omega), q_has0, cl_some, li_add2, q_lays0 h.1 (by omega), cl_some]
  | succ m ih =>
    intro k fu s hk hfu h hw
    obtain ⟨fu, rfl⟩ : ∃ m, fu = m + 1 := ⟨fu - 1, by omega⟩
    have h1 : RS (wt_u s 111 (p + 2 + k) (vdf V.1 f k)) V := h.free (hfree _ (by omega) (by unfold vwd; omega)) (by omega)
    obtain ⟨s', a1, a2, a3, a4, a5, a6⟩ := ih (k + 1) fu (wt_u s 111 (p + 2 + k) (vdf V.1 f k)) (by omega) (by omega) h1 (fun j hj => by
      by_cases e : j = k
      · subst e; rw [wt_u_self]
      · rw [wt_u_nk (by omega)]; exact hw j (by omega))
    refine ⟨s', ?_, a2, RF.trans (RF.uf (Or.inl rfl)) a3, a4, by rw [a5, wt_u_nk (by omega)], by rw [a6, wt_u_nk (by omega)]⟩
    rw [← a1, gX11_calls_185, li_add, ix_nI (by omega) (by omega), h.pr (by omega), hz.1, nI_int (by omega), nI_int (by omega), if_neg (by omega), li_add, ix_nI (by omega) (by omega), h.pr (by omega), q_has, cl_some, if_rb]
    unfold gX11_calls_231
    rw [li_add2, nI_add, nI_1, q_lays0 h.1 (by omega), cl_some, q_lays0 h.1 (by omega), cl_some]
    unfold vdf
    by_cases c : bt (V.1 (2238 + f)) k
    · rw [if_pos c, if_pos c]
    · rw [if_neg c, if_neg c]
theorem q_calls_269 {F : vF} (h : RS s V) (hj : VJ 2048 V) (hc : Icn V t np) (ht : t < 6) (hf : f < 10) (hF : F = vfn V t f F.2.2.2.1 (F.2.2.2.2.1 0) (F.2.2.2.2.2 0)) (hr : vud V.1 (V.2.2.2 t) (np - 1) (V.2.2.1 t) + vwd V.1 f ≤ vln V.2.1 t (np - 1)) (h1 : s 111 (vnx V t) = (if V.2.2.1 t = 0 then -1 else nI (vpl V t (V.2.2.1 t - 1)))) (h2 : s 111 (vnx V t + 1) = nI F.2.2.2.1) (h3 : ∀ k, k < vsz V.1 f → s 111 (vnx V t + 2 + k) = vsw V.1 (vpl V t) F k) (h4 : ∀ q, F.2.2.2.2.2 0 = some q → q.1 < V.2.2.1 t) : ∃ s', gX11_calls_269 s (nI t) (nI f) (nI (vnx V t)) = some ((), s') ∧ RS s' (vpu V t f F.2.2.2.1 (F.2.2.2.2.1 0) (F.2.2.2.2.2 0)) ∧ RF s s' := by
  have hnp := vnp_of hc.2.1 hc.2.2.1.2
  have hF1 : F.1 = f := by rw [hF]; rfl
  have hF2 : F.2.1 = vnp V t - 1 := by rw [hF]; rfl
  have hF3 : F.2.2.1 = vud V.1 (V.2.2.2 t) (vnp V t - 1) (V.2.2.1 t) := by rw [hF]; rfl
  have hpl : vat V.2.1 t F.2.1 + F.2.2.1 = vnx V t := by rw [hF2, hF3]; rfl
  have hfit := (hc.free (f := f) hj ht hr).1
  unfold vwd at hfit
  have hRS0 : RS s (vnf (vfr V t (V.2.2.1 t) F) t (V.2.2.1 t + 1)) := by
    obtain ⟨g1, g2, mm, g3, g4⟩ := h.2
    refine ⟨h.1, g1, g2, mm, g3, ?_⟩
    refine g4.push hj ht (by omega) ?_ ?_ (fun k hk => ?_) (fun k hk hb q hq => ?_)
    · rw [hpl, ← g3 _ (by omega)]; exact h1
    · rw [hpl, ← g3 _ (by omega)]; exact h2
    · rw [hF1] at hk
      rw [hpl, ← g3 _ (by omega)]; exact h3 k hk
    · by_cases ek : k = 0
      · subst ek; exact h4 q hq
      · have : F.2.2.2.2.2 k = none := by rw [hF]; exact if_neg ek
        rw [this] at hq
        cases hq
  have r1 := hRS0.u (i := 3982 + t) (v := nI (vnx V t)) (vtt (by omega) ht) (Or.inr (by omega))
  have r2 := r1.u (i := 3975 + t) (v := nI f) (vtt (by omega) ht) (Or.inr (by omega))
  have r3 := r2.u (i := 3968 + t) (v := 0) (vtt (by omega) ht) (Or.inr (by omega))
  have r4 := q_inc (i := 3954 + t) r3 (vtt (by omega) ht) (Or.inr (by omega))
  have r5 := r4.u (i := 3961 + t) (v := V.1 (3961 + t) + (V.1 (2228 + f) + 2)) (vtt (by omega) ht) (Or.inr (by omega))
  have e61 : (wt_u (wt_u (wt_u (wt_u s 111 (3982 + t) (nI (vnx V t))) 111 (3975 + t) (nI f)) 111 (3968 + t) 0) 111 (3954 + t) ((wt_u (wt_u (wt_u s 111 (3982 + t) (nI (vnx V t))) 111 (3975 + t) (nI f)) 111 (3968 + t) 0) 111 (3954 + t) + 1)) 111 (3961 + t) = V.1 (3961 + t) := by
    rw [wt_u_nk (by omega), wt_u_nk (by omega), wt_u_nk (by omega), wt_u_nk (by omega), h.tk (c := 3961) (by omega) ht]
  have e61b := r5.tk (t := t) (c := 3961) (by omega) ht
  have e45 := r5.tk (t := t) (c := 4045) (by omega) ht
  have hV3 : ∀ X, vpu V t f F.2.2.2.1 (F.2.2.2.2.1 0) (F.2.2.2.2.2 0) = X ↔ (if ((vs (vinc (vs (vs (vs (vnf (vfr V t (V.2.2.1 t) F) t (V.2.2.1 t + 1)) (3982 + t) (nI (vnx V t))) (3975 + t) (nI f)) (3968 + t) 0) (3954 + t)) (3961 + t) (V.1 (3961 + t) + (V.1 (2228 + f) + 2))).1 (3961 + t)).toInt ≤ ((vs (vinc (vs (vs (vs (vnf (vfr V t (V.2.2.1 t) F) t (V.2.2.1 t + 1)) (3982 + t) (nI (vnx V t))) (3975 + t) (nI f)) (3968 + t) 0) (3954 + t)) (3961 + t) (V.1 (3961 + t) + (V.1 (2228 + f) + 2))).1 (4045 + t)).toInt then (vs (vinc (vs (vs (vs (vnf (vfr V t (V.2.2.1 t) F) t (V.2.2.1 t + 1)) (3982 + t) (nI (vnx V t))) (3975 + t) (nI f)) (3968 + t) 0) (3954 + t)) (3961 + t) (V.1 (3961 + t) + (V.1 (2228 + f) + 2))) else vs (vs (vinc (vs (vs (vs (vnf (vfr V t (V.2.2.1 t) F) t (V.2.2.1 t + 1)) (3982 + t) (nI (vnx V t))) (3975 + t) (nI f)) (3968 + t) 0) (3954 + t)) (3961 + t) (V.1 (3961 + t) + (V.1 (2228 + f) + 2))) (4045 + t) ((vs (vinc (vs (vs (vs (vnf (vfr V t (V.2.2.1 t) F) t (V.2.2.1 t + 1)) (3982 + t) (nI (vnx V t))) (3975 + t) (nI f)) (3968 + t) 0) (3954 + t)) (3961 + t) (V.1 (3961 + t) + (V.1 (2228 + f) + 2))).1 (3961 + t))) = X := by
    intro X
    unfold vpu
    rw [← hF]
    dsimp only
    rw [hpl]
    exact Iff.rfl
  unfold gX11_calls_269
  simp only [wr_eq]
  rw [li_add, ix_nI (by omega) (by omega), li_add, ix_nI (by omega) (by omega), li_add, ix_nI (by omega) (by omega), li_add, ix_nI (by omega) (by omega), ix_nI (by omega) (by omega), li_add, ix_nI (by omega) (by omega), q_frameOf hf, cl_some, ix_nI (by omega) (by omega), r4.pr (c := 2228 + f) (by omega), e61, ix_nI (by omega) (by omega), li_add, ix_nI (by omega) (by omega)]
  have e28 : (vinc (vs (vs (vs (vnf (vfr V t (V.2.2.1 t) F) t (V.2.2.1 t + 1)) (3982 + t) (nI (vnx V t))) (3975 + t) (nI f)) (3968 + t) 0) (3954 + t)).1 (2228 + f) = V.1 (2228 + f) := by
    rw [vinc_ne (by omega), vs_ne (by omega), vs_ne (by omega), vs_ne (by omega)]
    rfl
  rw [e28, e61b, e45, ix_nI (by omega) (by omega), ix_nI (by omega) (by omega), e61b]
  have hF5 : RF s (wt_u (wt_u (wt_u (wt_u (wt_u s 111 (3982 + t) (nI (vnx V t))) 111 (3975 + t) (nI f)) 111 (3968 + t) 0) 111 (3954 + t) ((wt_u (wt_u (wt_u s 111 (3982 + t) (nI (vnx V t))) 111 (3975 + t) (nI f)) 111 (3968 + t) 0) 111 (3954 + t) + 1)) 111 (3961 + t) (V.1 (3961 + t) + (V.1 (2228 + f) + 2))) := RF.trans (RF.uf (Or.inl rfl)) (RF.trans (RF.uf (Or.inl rfl)) (RF.trans (RF.uf (Or.inl rfl)) (RF.trans (RF.uf (Or.inl rfl)) (RF.uf (Or.inl rfl)))))
  rw [(hV3 _).mpr rfl]
  split
  · exact ⟨_, rfl, r5, hF5⟩
  · exact ⟨_, rfl, r5.u (vtt (by omega) ht) (Or.inr (by omega)), RF.trans hF5 (RF.uf (Or.inl rfl))⟩
end
