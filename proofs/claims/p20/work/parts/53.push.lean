section
/-! ===== a frame comes ===== -/
theorem vud_mono {w : Nat → Int32} {fr : Nat → vF} {k a b : Nat} (h : a ≤ b) : vud w fr k a ≤ vud w fr k b := by
  induction h with
  | refl => exact Nat.le_refl _
  | step _ ih => exact Nat.le_trans ih (Nat.le_add_right _ _)
/-- a place that no frame has -/
def vfree (V : vV) (x : Nat) : Prop := ∀ t, t < 6 → ∀ i, i < V.2.2.1 t → x < vpl V t i ∨ vpl V t i + vwd V.1 (V.2.2.2 t i).1 ≤ x
theorem VM.free {V : vV} {mm : Nat → Int32} {x : Nat} {v : Int32} (h : VM mm V) (hx : vfree V x) : VM (mj_upd mm x v) V := by
  intro t ht i hi
  obtain ⟨a1, a2, a3, a4⟩ := h t ht i hi
  have := hx t ht i hi
  unfold vwd at this
  exact ⟨a1, by rw [mj_upd_ne (by omega)]; exact a2, by rw [mj_upd_ne (by omega)]; exact a3, fun k hk => by rw [mj_upd_ne (by omega)]; exact a4 k hk⟩
theorem RS.free {s : wt_S} {V : vV} {x : Nat} {v : Int32} (h : RS s V) (hx : vfree V x) (hl : x < 2048) : RS (wt_u s 111 x v) V := by
  refine h.uf ?_
  obtain ⟨g1, g2, mm, g3, g4⟩ := h.2
  refine ⟨fun i hi => ?_, vr_P_upd (Or.inl (by omega)) g2, mj_upd mm x v, fun p hp => ?_, g4.free hx⟩
  · rw [mj_upd_ne (by have := (vtr_out hi).2; omega)]; exact g1 i hi
  · exact mj_upd_eq2 (Or.inr (g3 p hp))
/-- the next frame's words are free -/
theorem Icn.free {lim : Nat} {V : vV} {t np f : Nat} (hj : VJ lim V) (hc : Icn V t np) (ht : t < 6) (hr : vud V.1 (V.2.2.2 t) (np - 1) (V.2.2.1 t) + vwd V.1 f ≤ vln V.2.1 t (np - 1)) : vnx V t + vwd V.1 f ≤ lim ∧ ∀ x, vnx V t ≤ x → x < vnx V t + vwd V.1 f → vfree V x := by
  have hnp := vnp_of hc.2.1 hc.2.2.1.2
  obtain ⟨q, q1, q2, q3, q4, q5, -⟩ := vget (hc.2.2.2.1.1 (np - 1) (by have := hc.2.2.1; omega))
  have hq := hj.2.1.2 q q1
  unfold vnx
  rw [hnp, q4]
  rw [q5] at hr
  refine ⟨by omega, fun x h1 h2 t' ht' i hi => ?_⟩
  obtain ⟨np', a1, a2, a3⟩ := hj.geo ht' (by omega)
  obtain ⟨p, p1, p2, p3, p4, p5⟩ := a2.pc a1 hi
  unfold vpl
  rw [p4]
  by_cases e : p = q
  · subst e
    have et : t' = t := p2.symm.trans q2
    subst et
    have h3 := a2.ud i hi
    have h4 := vud_mono (w := V.1) (fr := V.2.2.2 t') (k := np - 1) (show i + 1 ≤ V.2.2.1 t' by omega)
    rw [show (V.2.2.2 t' i).2.1 = np - 1 by omega] at h3
    omega
  · rcases vdisj hj.2.1 p p1 q q1 e with h | h <;> omega
theorem VM.push {lim : Nat} {V : vV} {mm : Nat → Int32} {t : Nat} {F : vF} (hj : VJ lim V) (h : VM mm V) (ht : t < 6) (hf : F.1 < 10) (h1 : mm (vat V.2.1 t F.2.1 + F.2.2.1) = (if V.2.2.1 t = 0 then -1 else nI (vpl V t (V.2.2.1 t - 1)))) (h2 : mm (vat V.2.1 t F.2.1 + F.2.2.1 + 1) = nI F.2.2.2.1) (h3 : ∀ k, k < vsz V.1 F.1 → mm (vat V.2.1 t F.2.1 + F.2.2.1 + 2 + k) = vsw V.1 (vpl V t) F k) (h4 : ∀ k, k < vsz V.1 F.1 → bt (V.1 (2238 + F.1)) k → ∀ q, F.2.2.2.2.2 k = some q → q.1 < V.2.2.1 t) : VM mm (vnf (vfr V t (V.2.2.1 t) F) t (V.2.2.1 t + 1)) := by
  have hpl : ∀ t' i, ¬ (t' = t ∧ i = V.2.2.1 t) → vpl (vnf (vfr V t (V.2.2.1 t) F) t (V.2.2.1 t + 1)) t' i = vpl V t' i := fun t' i hne => by
    unfold vpl
    show vat V.2.1 t' ((vfr V t (V.2.2.1 t) F).2.2.2 t' i).2.1 + ((vfr V t (V.2.2.1 t) F).2.2.2 t' i).2.2.1 = _
    rw [vfr_ne hne]
  have hpl2 : vpl (vnf (vfr V t (V.2.2.1 t) F) t (V.2.2.1 t + 1)) t (V.2.2.1 t) = vat V.2.1 t F.2.1 + F.2.2.1 := by
    unfold vpl
    show vat V.2.1 t ((vfr V t (V.2.2.1 t) F).2.2.2 t (V.2.2.1 t)).2.1 + ((vfr V t (V.2.2.1 t) F).2.2.2 t (V.2.2.1 t)).2.2.1 = _
    rw [vfr_at]
  intro t' ht'
  by_cases et : t' = t
  · subst et
    intro i hi
    have hi : i < mj_upd V.2.2.1 t' (V.2.2.1 t' + 1) t' := hi
    rw [mj_upd_self] at hi
    show ((vfr V t' (V.2.2.1 t') F).2.2.2 t' i).1 < 10 ∧ _ ∧ mm (_ + 1) = nI ((vfr V t' (V.2.2.1 t') F).2.2.2 t' i).2.2.2.1 ∧ ∀ k, k < vsz V.1 ((vfr V t' (V.2.2.1 t') F).2.2.2 t' i).1 → mm (_ + 2 + k) = vsw V.1 _ ((vfr V t' (V.2.2.1 t') F).2.2.2 t' i) k
    by_cases ei : i = V.2.2.1 t'
    · subst ei
      rw [vfr_at, hpl2]
      refine ⟨hf, ?_, h2, fun k hk => ?_⟩
      · rw [h1]
        by_cases e0 : V.2.2.1 t' = 0
        · rw [if_pos e0, if_pos e0]
        · rw [if_neg e0, if_neg e0, hpl t' _ (by omega)]
      · rw [h3 k hk]
        unfold vsw
        by_cases cb : bt (V.1 (2238 + F.1)) k
        · rw [if_pos cb, if_pos cb]
          cases eq : F.2.2.2.2.2 k with
          | none => rfl
          | some q =>
            have := h4 k hk cb q eq
            show nI (vpl V t' q.1 + 2 + q.2) = nI (vpl (vnf (vfr V t' (V.2.2.1 t') F) t' (V.2.2.1 t' + 1)) t' q.1 + 2 + q.2)
            rw [hpl t' _ (by omega)]
        · rw [if_neg cb, if_neg cb]
    · have hi2 : i < V.2.2.1 t' := by omega
      obtain ⟨a1, a2, a3, a4⟩ := h t' ht' i hi2
      rw [vfr_ne (by omega), hpl t' i (by omega)]
      refine ⟨a1, ?_, a3, fun k hk => ?_⟩
      · rw [a2]
        by_cases e0 : i = 0
        · rw [if_pos e0, if_pos e0]
        · rw [if_neg e0, if_neg e0, hpl t' _ (by omega)]
      · rw [a4 k hk]
        unfold vsw
        by_cases cb : bt (V.1 (2238 + (V.2.2.2 t' i).1)) k
        · rw [if_pos cb, if_pos cb]
          cases eq : (V.2.2.2 t' i).2.2.2.2.2 k with
          | none => rfl
          | some q =>
            obtain ⟨np, -, -, b3⟩ := hj.geo ht' (by omega)
            have := (b3.2.2.2.2.2 i hi2 k hk cb q eq).1
            show nI (vpl V t' q.1 + 2 + q.2) = nI (vpl (vnf (vfr V t' (V.2.2.1 t') F) t' (V.2.2.1 t' + 1)) t' q.1 + 2 + q.2)
            rw [hpl t' _ (by omega)]
        · rw [if_neg cb, if_neg cb]
  · have e1 : (vnf (vfr V t (V.2.2.1 t) F) t (V.2.2.1 t + 1)).2.2.1 t' = V.2.2.1 t' := mj_upd_ne et
    have e2 : (vnf (vfr V t (V.2.2.1 t) F) t (V.2.2.1 t + 1)).2.2.2 t' = V.2.2.2 t' := if_neg et
    have e3 : vpl (vnf (vfr V t (V.2.2.1 t) F) t (V.2.2.1 t + 1)) t' = vpl V t' := by funext i; exact hpl t' i (fun e => et e.1)
    rw [e1, e2, e3]
    exact h t' ht'
/-! ### the reference writes a frame -/
section
variable {s : wt_S} {V : vV} {t np f : Nat}
/-- the words of a new frame without what is handed over -/
def vdf (w : Nat → Int32) (f k : Nat) : Int32 := if bt (w (2238 + f)) k then -1 else 0
theorem q_calls_185 {p : Nat} {iP v : Int32} (hf : f < 10) (hs1 : 1 ≤ vsz V.1 f) (hp : Ipr V.1) (hfit : p + vwd V.1 f ≤ 2048) (hfree : ∀ x, p ≤ x → x < p + vwd V.1 f → vfree V x) : ∀ (m k fu : Nat) (s : wt_S), k + m = vsz V.1 f → m < fu → RS s V → (∀ j, j < k → s 111 (p + 2 + j) = vdf V.1 f j) →
    ∃ s', gX11_calls_185 fu s (nI t) (nI f) (nI p) iP v (nI k) = (if rb (bt (V.1 (2238 + f)) 0) ≠ iP then gX11_calls_269 s' (nI t) (nI f) (nI p) else gX11_calls_269 (wt_u s' 111 (p + 2) v) (nI t) (nI f) (nI p)) ∧ RS s' V ∧ RF s s' ∧ (∀ j, j < vsz V.1 f → s' 111 (p + 2 + j) = vdf V.1 f j) ∧ s' 111 p = s 111 p ∧ s' 111 (p + 1) = s 111 (p + 1) := by
  have hz := hp.sz hf
  unfold vwd at hfit
  intro m
  induction m with
  | zero =>
    intro k fu s hk hfu h hw
    obtain ⟨fu, rfl⟩ : ∃ m, fu = m + 1 := ⟨fu - 1, by omega⟩
    obtain rfl : k = vsz V.1 f := by omega
    refine ⟨s, ?_, h, RF.refl, hw, rfl, rfl⟩
    rw [gX11_calls_185, li_add, ix_nI (by omega) (by omega), h.pr (by omega), hz.1, if_pos (Int.le_refl _), li_add, ix_nI (by omega) (by omega), h.pr (by omega), q_has0, cl_some, li_add2, q_lays0 h.1 (by omega), cl_some]
  | succ m ih =>
    intro k fu s hk hfu h hw
    obtain ⟨fu, rfl⟩ : ∃ m, fu = m + 1 := ⟨fu - 1, by omega⟩
    have h1 : RS (wt_u s 111 (p + 2 + k) (vdf V.1 f k)) V := h.free (hfree _ (by omega) (by unfold vwd; omega)) (by omega)
    obtain ⟨s', a1, a2, a3, a4, a5, a6⟩ := ih (k + 1) fu (wt_u s 111 (p + 2 + k) (vdf V.1 f k)) (by omega) (by omega) h1 (fun j hj => by
      by_cases e : j = k
      · subst e; rw [wt_u_self]
      · rw [wt_u_nk (by omega)]; exact hw j (by omega))
    refine ⟨s', ?_, a2, RF.trans (RF.uf (Or.inl rfl)) a3, a4, by rw [a5, wt_u_nk (by omega)], by rw [a6, wt_u_nk (by omega)]⟩
    rw [← a1, gX11_calls_185, li_add, ix_nI (by omega) (by omega), h.pr (by omega), hz.1, nI_int (by omega), nI_int (by omega), if_neg (by omega), li_add, ix_nI (by omega) (by omega), h.pr (by omega), q_has, cl_some, if_rb]
    unfold gX11_calls_231
    rw [li_add2, nI_add, nI_1, q_lays0 h.1 (by omega), cl_some, q_lays0 h.1 (by omega), cl_some]
    unfold vdf
    by_cases c : bt (V.1 (2238 + f)) k
    · rw [if_pos c, if_pos c]
    · rw [if_neg c, if_neg c]
theorem q_calls_269 {F : vF} (h : RS s V) (hj : VJ 2048 V) (hc : Icn V t np) (ht : t < 6) (hf : f < 10) (hF : F = vfn V t f F.2.2.2.1 (F.2.2.2.2.1 0) (F.2.2.2.2.2 0)) (hr : vud V.1 (V.2.2.2 t) (np - 1) (V.2.2.1 t) + vwd V.1 f ≤ vln V.2.1 t (np - 1)) (h1 : s 111 (vnx V t) = (if V.2.2.1 t = 0 then -1 else nI (vpl V t (V.2.2.1 t - 1)))) (h2 : s 111 (vnx V t + 1) = nI F.2.2.2.1) (h3 : ∀ k, k < vsz V.1 f → s 111 (vnx V t + 2 + k) = vsw V.1 (vpl V t) F k) (h4 : ∀ q, F.2.2.2.2.2 0 = some q → q.1 < V.2.2.1 t) : ∃ s', gX11_calls_269 s (nI t) (nI f) (nI (vnx V t)) = some ((), s') ∧ RS s' (vpu V t f F.2.2.2.1 (F.2.2.2.2.1 0) (F.2.2.2.2.2 0)) ∧ RF s s' := by
  have hnp := vnp_of hc.2.1 hc.2.2.1.2
  have hF1 : F.1 = f := by rw [hF]; rfl
  have hF2 : F.2.1 = vnp V t - 1 := by rw [hF]; rfl
  have hF3 : F.2.2.1 = vud V.1 (V.2.2.2 t) (vnp V t - 1) (V.2.2.1 t) := by rw [hF]; rfl
  have hpl : vat V.2.1 t F.2.1 + F.2.2.1 = vnx V t := by rw [hF2, hF3]; rfl
  have hfit := (hc.free (f := f) hj ht hr).1
  unfold vwd at hfit
  have hRS0 : RS s (vnf (vfr V t (V.2.2.1 t) F) t (V.2.2.1 t + 1)) := by
    obtain ⟨g1, g2, mm, g3, g4⟩ := h.2
    refine ⟨h.1, g1, g2, mm, g3, ?_⟩
    refine g4.push hj ht (by omega) ?_ ?_ (fun k hk => ?_) (fun k hk hb q hq => ?_)
    · rw [hpl, ← g3 _ (by omega)]; exact h1
    · rw [hpl, ← g3 _ (by omega)]; exact h2
    · rw [hF1] at hk
      rw [hpl, ← g3 _ (by omega)]; exact h3 k hk
    · by_cases ek : k = 0
      · subst ek; exact h4 q hq
      · have : F.2.2.2.2.2 k = none := by rw [hF]; exact if_neg ek
        rw [this] at hq
        cases hq
  have r1 := hRS0.u (i := 3982 + t) (v := nI (vnx V t)) (vtt (by omega) ht) (Or.inr (by omega))
  have r2 := r1.u (i := 3975 + t) (v := nI f) (vtt (by omega) ht) (Or.inr (by omega))
  have r3 := r2.u (i := 3968 + t) (v := 0) (vtt (by omega) ht) (Or.inr (by omega))
  have r4 := q_inc (i := 3954 + t) r3 (vtt (by omega) ht) (Or.inr (by omega))
  have r5 := r4.u (i := 3961 + t) (v := V.1 (3961 + t) + (V.1 (2228 + f) + 2)) (vtt (by omega) ht) (Or.inr (by omega))
  have e61 : (wt_u (wt_u (wt_u (wt_u s 111 (3982 + t) (nI (vnx V t))) 111 (3975 + t) (nI f)) 111 (3968 + t) 0) 111 (3954 + t) ((wt_u (wt_u (wt_u s 111 (3982 + t) (nI (vnx V t))) 111 (3975 + t) (nI f)) 111 (3968 + t) 0) 111 (3954 + t) + 1)) 111 (3961 + t) = V.1 (3961 + t) := by
    rw [wt_u_nk (by omega), wt_u_nk (by omega), wt_u_nk (by omega), wt_u_nk (by omega), h.tk (c := 3961) (by omega) ht]
  have e61b := r5.tk (t := t) (c := 3961) (by omega) ht
  have e45 := r5.tk (t := t) (c := 4045) (by omega) ht
  have hV3 : ∀ X, vpu V t f F.2.2.2.1 (F.2.2.2.2.1 0) (F.2.2.2.2.2 0) = X ↔ (if ((vs (vinc (vs (vs (vs (vnf (vfr V t (V.2.2.1 t) F) t (V.2.2.1 t + 1)) (3982 + t) (nI (vnx V t))) (3975 + t) (nI f)) (3968 + t) 0) (3954 + t)) (3961 + t) (V.1 (3961 + t) + (V.1 (2228 + f) + 2))).1 (3961 + t)).toInt ≤ ((vs (vinc (vs (vs (vs (vnf (vfr V t (V.2.2.1 t) F) t (V.2.2.1 t + 1)) (3982 + t) (nI (vnx V t))) (3975 + t) (nI f)) (3968 + t) 0) (3954 + t)) (3961 + t) (V.1 (3961 + t) + (V.1 (2228 + f) + 2))).1 (4045 + t)).toInt then (vs (vinc (vs (vs (vs (vnf (vfr V t (V.2.2.1 t) F) t (V.2.2.1 t + 1)) (3982 + t) (nI (vnx V t))) (3975 + t) (nI f)) (3968 + t) 0) (3954 + t)) (3961 + t) (V.1 (3961 + t) + (V.1 (2228 + f) + 2))) else vs (vs (vinc (vs (vs (vs (vnf (vfr V t (V.2.2.1 t) F) t (V.2.2.1 t + 1)) (3982 + t) (nI (vnx V t))) (3975 + t) (nI f)) (3968 + t) 0) (3954 + t)) (3961 + t) (V.1 (3961 + t) + (V.1 (2228 + f) + 2))) (4045 + t) ((vs (vinc (vs (vs (vs (vnf (vfr V t (V.2.2.1 t) F) t (V.2.2.1 t + 1)) (3982 + t) (nI (vnx V t))) (3975 + t) (nI f)) (3968 + t) 0) (3954 + t)) (3961 + t) (V.1 (3961 + t) + (V.1 (2228 + f) + 2))).1 (3961 + t))) = X := by
    intro X
    unfold vpu
    rw [← hF]
    dsimp only
    rw [hpl]
    exact Iff.rfl
  unfold gX11_calls_269
  simp only [wr_eq]
  rw [li_add, ix_nI (by omega) (by omega), li_add, ix_nI (by omega) (by omega), li_add, ix_nI (by omega) (by omega), li_add, ix_nI (by omega) (by omega), ix_nI (by omega) (by omega), li_add, ix_nI (by omega) (by omega), q_frameOf hf, cl_some, ix_nI (by omega) (by omega), r4.pr (c := 2228 + f) (by omega), e61, ix_nI (by omega) (by omega), li_add, ix_nI (by omega) (by omega)]
  have e28 : (vinc (vs (vs (vs (vnf (vfr V t (V.2.2.1 t) F) t (V.2.2.1 t + 1)) (3982 + t) (nI (vnx V t))) (3975 + t) (nI f)) (3968 + t) 0) (3954 + t)).1 (2228 + f) = V.1 (2228 + f) := by
    rw [vinc_ne (by omega), vs_ne (by omega), vs_ne (by omega), vs_ne (by omega)]
    rfl
  rw [e28, e61b, e45, ix_nI (by omega) (by omega), ix_nI (by omega) (by omega), e61b]
  have hF5 : RF s (wt_u (wt_u (wt_u (wt_u (wt_u s 111 (3982 + t) (nI (vnx V t))) 111 (3975 + t) (nI f)) 111 (3968 + t) 0) 111 (3954 + t) ((wt_u (wt_u (wt_u s 111 (3982 + t) (nI (vnx V t))) 111 (3975 + t) (nI f)) 111 (3968 + t) 0) 111 (3954 + t) + 1)) 111 (3961 + t) (V.1 (3961 + t) + (V.1 (2228 + f) + 2))) := RF.trans (RF.uf (Or.inl rfl)) (RF.trans (RF.uf (Or.inl rfl)) (RF.trans (RF.uf (Or.inl rfl)) (RF.trans (RF.uf (Or.inl rfl)) (RF.uf (Or.inl rfl)))))
  rw [(hV3 _).mpr rfl]
  split
  · exact ⟨_, rfl, r5, hF5⟩
  · exact ⟨_, rfl, r5.u (vtt (by omega) ht) (Or.inr (by omega)), RF.trans hF5 (RF.uf (Or.inl rfl))⟩
end
end
section
/-! ===== room keeps what holds ===== -/
def vrs (t i : Nat) : Prop := vgs t i ∨ i = 4003 + t
section
variable {lim z t np k : Nat} {V : vV}
theorem vnd_ge {w : Nat → Int32} {f : Nat} (hp : Ipr w) (hf : f < 10) : vwd w f ≤ vnd w f := by
  unfold vnd
  split
  · rename_i c
    unfold vmg at c
    cases e : vdp w 10 f with
    | none => rw [e] at c; simp at c
    | some d => exact (vdp_le hp hf e).1
  · exact Nat.le_refl _
theorem vnd_le {w : Nat → Int32} {f : Nat} (hp : Ipr w) (hf : f < 10) : vnd w f ≤ 100 := by
  unfold vnd
  split
  · cases e : vdp w 10 f with
    | none => exact Nat.zero_le _
    | some d => exact (vdp_le hp hf e).2
  · have := (hp.wd hf).2; omega
/-- what room leaves -/
def Rout (lim : Nat) (V V1 : vV) (t z k need : Nat) : Prop := VJ lim V1 ∧ V1.2.2 = V.2.2 ∧ (∀ q ∈ V1.2.1, z ≤ q.2.1) ∧ (∃ k', k' ≤ k + 2 ∧ V1.1 2067 = nI k') ∧ (∀ i, ¬ vrs t i → V1.1 i = V.1 i) ∧ ∃ np2, Icn V1 t np2 ∧ vud V.1 (V.2.2.2 t) (np2 - 1) (V.2.2.1 t) + need ≤ vln V1.2.1 t (np2 - 1)
theorem vrm_inv {f : Nat} (hP : Vpre lim V t np z) (hf : f < 10) (hs1 : 1 ≤ vsz V.1 f) (hk : V.1 2067 = nI k) (hnc : ∀ i, i < V.2.2.1 t → ¬ vcv (V.2.2.2 t i)) :
    ((vrm lim V t f).1 = true → Rout lim V (vrm lim V t f).2 t z k (vnd V.1 f)) ∧ ((vrm lim V t f).1 = false → ∃ V2, (vrm lim V t f).2 = vot V2 t ∧ VJ lim V2 ∧ V2.2.2 = V.2.2 ∧ (∀ q ∈ V2.2.1, z ≤ q.2.1) ∧ (∃ k', k' ≤ k + 2 ∧ V2.1 2067 = nI k') ∧ (∀ i, ¬ vrs t i → V2.1 i = V.1 i) ∧ OT t V V2) ∧ OT t V (if (vrm lim V t f).1 then (vrm lim V t f).2 else V) := by
  have hP0 := hP
  obtain ⟨hj, hc, ht, hz, h8, hzl, hl, hl2, hq⟩ := hP
  have hP1 : Vpre lim (vcn (vinc V (4003 + t)) 3 1) t np z := Vpre.vs (V := vinc V (4003 + t)) (Vpre.vs hP0 (by omega) (by omega)) (by omega) (by omega)
  have hw1 : vpe V.1 (vcn (vinc V (4003 + t)) 3 1).1 := (vpe.upd (by omega)).trans (vpe.upd (by omega))
  have hkk : (vcn (vinc V (4003 + t)) 3 1).1 2067 = nI k := by rw [vcn_ne (by omega), vinc_ne (by omega)]; exact hk
  have hsc : ∀ i, ¬ vrs t i → (vcn (vinc V (4003 + t)) 3 1).1 i = V.1 i := fun i hi => by
    rw [vcn_ne (fun e => hi (Or.inl (by unfold vgs; omega))), vinc_ne (fun e => hi (Or.inr e))]
  have hOT1 : OT t V (vcn (vinc V (4003 + t)) 3 1) := (OT.inc ht (vown_t (c := 4003) (by omega))).trans (OT.cn ht (by omega))
  have hnp := vnp_of hc.2.1 hc.2.2.1.2
  have hnd := vnd_le (w := V.1) hj.1 hf
  have hnd2 := vnd_ge (w := V.1) hj.1 hf
  unfold vwd at hnd2
  unfold vrm
  dsimp only
  by_cases c : vtop V t + vnd V.1 f ≤ vend V t
  · rw [if_pos c]
    refine ⟨fun _ => ⟨hP1.1, rfl, hq, ⟨k, by omega, hkk⟩, hsc, np, hP1.2.1.n', ?_⟩, fun h => (by cases h), hOT1⟩
    rw [hc.top] at c
    unfold vend at c
    rw [hnp] at c
    show vud V.1 (V.2.2.2 t) (np - 1) (V.2.2.1 t) + vnd V.1 f ≤ vln V.2.1 t (np - 1)
    omega
  · rw [if_neg c]
    obtain ⟨v1, v2, v3, v4, v5, np2, v6, v7⟩ := vgr_inv (need := vnd V.1 f) hP1 ⟨by omega, hnd⟩ hkk hnc
    have hOT2 := hOT1.trans (OT.gr (lim := lim) (need := vnd V.1 f) (V := vcn (vinc V (4003 + t)) 3 1) ht)
    generalize hres : vgr lim (vcn (vinc V (4003 + t)) 3 1) t (vnd V.1 f) = res at *
    obtain ⟨b, V2⟩ := res
    have hsc2 : ∀ i, ¬ vrs t i → V2.1 i = V.1 i := fun i hi => by
      have := v5 i (fun h => hi (Or.inl h))
      exact this.trans (hsc i hi)
    cases b with
    | true =>
      refine ⟨fun _ => ⟨v1, v2, v3, v4, hsc2, np2, v6, ?_⟩, fun h => (by cases h), hOT2⟩
      have h1 := (v7 rfl).1
      have h2 : vud (vcn (vinc V (4003 + t)) 3 1).1 (V.2.2.2 t) (np2 - 1) (V.2.2.1 t) = vud V.1 (V.2.2.2 t) (np2 - 1) (V.2.2.1 t) := (hw1.us (fun i hi => (hj.fit ht hi).1)).2
      rw [← h2]
      exact h1
    | false =>
      refine ⟨fun h => (by cases h), fun _ => ⟨V2, rfl, v1, v2, v3, v4, hsc2, hOT2⟩, OT.refl⟩
end
/-! ### the reference calls -/
section
variable {s : wt_S} {V : vV} {t np f z k : Nat}
theorem q_calls_149 {bk z2 : Nat} {l6 iP v base a : Int32} {q : Option (Nat × Nat)} (h : RS s V) (hj : VJ 2048 V) (hc : Icn V t np) (ht : t < 6) (hf : f < 10) (hs1 : 1 ≤ vsz V.1 f) (hr2 : V.1 2051 = nI z2) (hz2 : z2 ≤ 80) (hr : vud V.1 (V.2.2.2 t) (np - 1) (V.2.2.1 t) + vwd V.1 f ≤ vln V.2.1 t (np - 1)) (hb : base = (if V.2.2.1 t = 0 then -1 else nI (vpl V t (V.2.2.1 t - 1))))
    (hv : (if rb (bt (V.1 (2238 + f)) 0) ≠ iP then vdf V.1 f 0 else v) = vsw V.1 (vpl V t) (vfn V t f (bk + if l6 ≠ 0 ∨ vmg V.1 f = true then 1024 else 0) a q) 0) (h4 : ∀ x, q = some x → x.1 < V.2.2.1 t) :
    ∃ s', gX11_calls_149 s (nI t) (nI f) (nI bk) l6 (nI (vnx V t)) iP v (nI (vnx V t)) base = some ((), s') ∧ RS s' (vpu V t f (bk + if l6 ≠ 0 ∨ vmg V.1 f = true then 1024 else 0) a q) ∧ RF s s' := by
  obtain ⟨hfit, hfree⟩ := hc.free hj ht hr
  have hfit0 := hfit
  unfold vwd at hfit
  have h1 : RS (wt_u s 111 (vnx V t) base) V := h.free (hfree _ (Nat.le_refl _) (by unfold vwd; omega)) (by omega)
  generalize hB : (bk + if l6 ≠ 0 ∨ vmg V.1 f = true then 1024 else 0) = B at *
  have h2 : RS (wt_u (wt_u s 111 (vnx V t) base) 111 (vnx V t + 1) (nI B)) V := h1.free (hfree _ (by omega) (by unfold vwd; omega)) (by omega)
  obtain ⟨s3, a1, a2, a3, a4, a5, a6⟩ := q_calls_185 (t := t) (iP := iP) (v := v) hf hs1 hj.1 hfit0 hfree (vsz V.1 f) 0 wt_N _ (by omega) (by have := (hj.1.sz hf).2; unfold wt_N; omega) h2 (fun j hj2 => absurd hj2 (by omega))
  rw [wt_u_nk (by omega), wt_u_self] at a5
  rw [wt_u_self] at a6
  have hvk : ∀ j, 0 < j → vsw V.1 (vpl V t) (vfn V t f B a q) j = vdf V.1 f j := fun j hj2 => by
    unfold vsw vdf
    show (if bt (V.1 (2238 + f)) j then (match (if j = 0 then q else none) with | none => (-1 : Int32) | some q => nI (vpl V t q.1 + 2 + q.2)) else (if j = 0 then a else 0)) = _
    rw [if_neg (show ¬ j = 0 by omega), if_neg (show ¬ j = 0 by omega)]
  have fin : ∀ s4, RS s4 V → s4 111 (vnx V t) = base → s4 111 (vnx V t + 1) = nI B → (∀ j, j < vsz V.1 f → s4 111 (vnx V t + 2 + j) = vsw V.1 (vpl V t) (vfn V t f B a q) j) → ∃ s', gX11_calls_269 s4 (nI t) (nI f) (nI (vnx V t)) = some ((), s') ∧ RS s' (vpu V t f B a q) ∧ RF s4 s' := fun s4 g1 g2 g3 g4 =>
    q_calls_269 (F := vfn V t f B a q) g1 hj hc ht hf rfl hr (g2.trans hb) g3 g4 h4
  have hend : ∃ s', (if rb (bt (V.1 (2238 + f)) 0) ≠ iP then gX11_calls_269 s3 (nI t) (nI f) (nI (vnx V t)) else gX11_calls_269 (wt_u s3 111 (vnx V t + 2) v) (nI t) (nI f) (nI (vnx V t))) = some ((), s') ∧ RS s' (vpu V t f B a q) ∧ RF s3 s' := by
    by_cases ci : rb (bt (V.1 (2238 + f)) 0) ≠ iP
    · rw [if_pos ci] at hv ⊢
      refine fin s3 a2 a5 a6 (fun j hj2 => ?_)
      rw [a4 j hj2]
      by_cases e : j = 0
      · subst e; exact hv
      · exact (hvk j (by omega)).symm
    · rw [if_neg ci] at hv ⊢
      obtain ⟨s', b1, b2, b3⟩ := fin (wt_u s3 111 (vnx V t + 2) v) (a2.free (hfree _ (by omega) (by unfold vwd; omega)) (by omega)) (by rw [wt_u_nk (by omega)]; exact a5) (by rw [wt_u_nk (by omega)]; exact a6) (fun j hj2 => by
        by_cases e : j = 0
        · subst e; rw [wt_u_self]; exact hv
        · rw [wt_u_nk (by omega), a4 j hj2]; exact (hvk j (by omega)).symm)
      exact ⟨s', b1, b2, RF.trans (RF.uf (Or.inl rfl)) b3⟩
  obtain ⟨s', b1, b2, b3⟩ := hend
  refine ⟨s', ?_, b2, RF.trans (RF.uf (Or.inl rfl)) (RF.trans (RF.uf (Or.inl rfl)) (RF.trans a3 b3))⟩
  unfold gX11_calls_149
  rw [q_lays0 h.1 (by omega), cl_some]
  have h178 : ∀ z3 : Int32, nI bk + z3 = nI B → gX11_calls_178 (wt_u s 111 (vnx V t) base) (nI t) (nI f) (nI (vnx V t)) iP v (nI (vnx V t) + 1) (nI bk) z3 = some ((), s') := fun z3 hz3 => by
    unfold gX11_calls_178
    rw [hz3, li_add2, q_lays0 h1.1 (by omega), cl_some, show (0 : Int32) = nI 0 from rfl]
    exact a1.trans b1
  by_cases c6 : l6 ≠ 0
  · rw [if_pos c6]
    unfold gX11_calls_171
    refine h178 1024 ?_
    rw [← hB, if_pos (Or.inl c6), li_add2]
  · rw [if_neg c6, q_merged h1 hj.1 hf hr2 hz2, cl_some, if_rb]
    by_cases cm : vmg V.1 f = true
    · rw [if_pos cm]
      unfold gX11_calls_171
      refine h178 1024 ?_
      rw [← hB, if_pos (Or.inr cm), li_add2]
    · rw [if_neg cm]
      refine h178 0 ?_
      rw [← hB, if_neg (fun e => e.elim c6 cm), Int32.add_zero, Nat.add_zero]
end
end
section
/-! ===== the reference calls a function ===== -/
theorem Ifr.cov {w : Nat → Int32} {ps : List vP} {t n : Nat} {fr : Nat → vF} (h : Ifr w ps t n fr) {i j : Nat} (hij : i ≤ j) (hj : j < n) (hc : vcv (fr i)) : vcv (fr j) := by
  induction hij with
  | refl => exact hc
  | step hij ih => exact h.2.2.2.1 _ hj (ih (by omega))
section
variable {s : wt_S} {V : vV} {t np f z k : Nat}
theorem vlc_iff {lim : Nat} (hj : VJ lim V) (hc : Ico V t np) : (vlc V t = false → ∀ i, i < V.2.2.1 t → ¬ vcv (V.2.2.2 t i)) ∧ (vlc V t = true → 0 < V.2.2.1 t ∧ vcv (V.2.2.2 t (V.2.2.1 t - 1))) := by
  constructor
  · intro h i hi hv
    obtain ⟨-, -, d3, -⟩ := hc.2.2.2.2.2.2.1 (by omega)
    have := d3.cov (j := V.2.2.1 t - 1) (by omega) (by omega) hv
    unfold vcv at this
    unfold vlc at h
    simp at h
    have := h (by omega)
    omega
  · intro h
    unfold vlc at h
    simp at h
    exact ⟨h.1, h.2⟩
/-- covered: the room is there -/
theorem vlc_room {lim : Nat} (hj : VJ lim V) (hc : Ico V t np) (ht : t < 6) (hv : vlc V t = true) (hE : vE V.1 (V.2.2.2 t (V.2.2.1 t - 1)).1 f) : ∃ d, vdp V.1 10 f = some d ∧ d ≤ (V.1 2051).toInt.toNat ∧ vud V.1 (V.2.2.2 t) (np - 1) (V.2.2.1 t) + d ≤ vln V.2.1 t (np - 1) := by
  obtain ⟨h0, hcv⟩ := (vlc_iff hj hc).2 hv
  obtain ⟨d1, d2, d3, -⟩ := hc.2.2.2.2.2.2.1 h0
  obtain ⟨d, e1, e2, e3⟩ := d3.2.2.2.2.1 (V.2.2.1 t - 1) (by omega) hcv
  obtain ⟨M, m1, m2, -⟩ := vdp_spec.2 d e1
  obtain ⟨d', x1, x2⟩ := m2 f hE
  have hud := d1.ud (V.2.2.1 t - 1) (by omega)
  rw [d2, show V.2.2.1 t - 1 + 1 = V.2.2.1 t by omega] at hud
  rw [d2] at e3
  exact ⟨d', vdp_mono x1, by omega, by omega⟩
theorem vha_word {W : Nat → Int32} {pl : Nat → Nat} {F0 : vF} {k0 x1 x2 x3 : Nat} : (if rb (bt (W (2238 + f)) 0) ≠ rb (bt (W (2238 + F0.1)) k0) then vdf W f 0 else vsw W pl F0 k0) = vsw W pl (f, x1, x2, x3, (fun k => if k = 0 then (vha W f F0 k0).1 else 0), (fun k => if k = 0 then (vha W f F0 k0).2 else none)) 0 := by
  show _ = (if bt (W (2238 + f)) 0 then (match (vha W f F0 k0).2 with | none => (-1 : Int32) | some q => nI (pl q.1 + 2 + q.2)) else (vha W f F0 k0).1)
  unfold vsw vdf vha
  by_cases cb : bt (W (2238 + F0.1)) k0
  · rw [rb_pos cb, if_pos cb, if_pos cb]
    by_cases cf : bt (W (2238 + f)) 0
    · rw [rb_pos cf, if_neg (by simp), if_pos cf]
      simp only [if_pos cf]
      cases F0.2.2.2.2.2 k0 <;> rfl
    · rw [rb_neg cf, if_pos (by decide), if_neg cf, if_neg cf]
  · rw [rb_neg cb, if_neg cb, if_neg cb]
    by_cases cf : bt (W (2238 + f)) 0
    · rw [rb_pos cf, if_pos (by decide), if_pos cf, if_pos cf]
    · rw [rb_neg cf, if_neg (by simp), if_neg cf]
      simp only [if_neg cf]
/-- behind the room -/
theorem q_calls_40 {V1 : vV} {np1 bk k0 z2 : Nat} {l5 l6 : Int32} (h : RS s V1) (hj : VJ 2048 V1) (hc : Icn V1 t np1) (ht : t < 6) (hf : f < 10) (hs1 : 1 ≤ vsz V1.1 f) (hr2 : V1.1 2051 = nI z2) (hz2 : z2 ≤ 80) (hr : vud V1.1 (V1.2.2.2 t) (np1 - 1) (V1.2.2.1 t) + vwd V1.1 f ≤ vln V1.2.1 t (np1 - 1)) (h0 : 0 < V1.2.2.1 t) (hk0 : k0 < vsz V1.1 (V1.2.2.2 t (V1.2.2.1 t - 1)).1) :
    ∃ s', gX11_calls_40 s (nI t) (nI f) (nI bk) (nI k0) l5 l6 (nI (vnx V1 t)) = some ((), s') ∧ RS s' (vpu V1 t f (bk + if l6 ≠ 0 ∨ vmg V1.1 f = true then 1024 else 0) (vha V1.1 f (V1.2.2.2 t (V1.2.2.1 t - 1)) k0).1 (vha V1.1 f (V1.2.2.2 t (V1.2.2.1 t - 1)) k0).2) ∧ RF s s' := by
  obtain ⟨hfit, -⟩ := hc.free hj ht hr
  obtain ⟨d1, d2, d3, d4, d5⟩ := hc.2.2.2.2.2.2.1 h0
  have hi : V1.2.2.1 t - 1 < V1.2.2.1 t := by omega
  have hft := (d3.1 _ hi).1
  have hfl := hj.fit ht hi
  have hz := hj.1.sz hft
  unfold vwd at hfl
  have hnn : V1.2.2.1 t ≤ 3334 := by
    obtain ⟨n, hn⟩ : ∃ n, V1.2.2.1 t = n + 1 := ⟨V1.2.2.1 t - 1, by omega⟩
    rw [hn] at d1 d3
    have h1 := d1.all hj.2.1
    have h2 := vus3 (fun i hi => (d3.1 i hi).2)
    omega
  have hword := (h.wd hj rfl ht hi).2.2 k0 hk0
  have hkne : ¬ nI k0 = -1 := nI_m1 (by omega)
  have htail : ∀ iP : Int32, iP = rb (bt (V1.1 (2238 + (V1.2.2.2 t (V1.2.2.1 t - 1)).1)) k0) → ∃ s', gX11_calls_85 s (nI t) (nI f) (nI bk) (nI k0) l5 l6 (nI (vnx V1 t)) iP = some ((), s') ∧ RS s' (vpu V1 t f (bk + if l6 ≠ 0 ∨ vmg V1.1 f = true then 1024 else 0) (vha V1.1 f (V1.2.2.2 t (V1.2.2.1 t - 1)) k0).1 (vha V1.1 f (V1.2.2.2 t (V1.2.2.1 t - 1)) k0).2) ∧ RF s s' := by
    intro iP hiP
    obtain ⟨s', e1, e2, e3⟩ := q_calls_149 (bk := bk) (l6 := l6) (iP := iP) (v := vsw V1.1 (vpl V1 t) (V1.2.2.2 t (V1.2.2.1 t - 1)) k0) (base := nI (vpl V1 t (V1.2.2.1 t - 1))) (a := (vha V1.1 f (V1.2.2.2 t (V1.2.2.1 t - 1)) k0).1) (q := (vha V1.1 f (V1.2.2.2 t (V1.2.2.1 t - 1)) k0).2) h hj hc ht hf hs1 hr2 hz2 hr (by rw [if_neg (by omega)]) (by
      rw [hiP]
      exact vha_word) (fun x hx => by
      unfold vha at hx
      by_cases cb : bt (V1.1 (2238 + (V1.2.2.2 t (V1.2.2.1 t - 1)).1)) k0
      · rw [if_pos cb] at hx
        by_cases cf : bt (V1.1 (2238 + f)) 0
        · simp only [if_pos cf] at hx
          have := (d3.2.2.2.2.2 _ hi k0 hk0 cb x hx).1
          omega
        · simp only [if_neg cf] at hx
          cases hx
      · rw [if_neg cb] at hx
        cases hx)
    refine ⟨s', ?_, e2, e3⟩
    unfold gX11_calls_85
    rw [if_pos hkne, li_add, ix_nI (by omega) (by omega), h.tk (c := 3982) (by omega) ht, d4, li_add2, nI_add, q_word0 h.1 (by omega), cl_some, hword]
    unfold gX11_calls_117
    rw [li_add, ix_nI (by omega) (by omega), h.tk (c := 3954) (by omega) ht, hc.1, if_pos (fun e => by
      have := (nI_inj (a := V1.2.2.1 t) (b := 0) (by omega) (by omega)).mp e
      omega), li_add, ix_nI (by omega) (by omega), h.tk (c := 3982) (by omega) ht, d4]
    exact e1
  unfold gX11_calls_40
  rw [if_pos (nI_m1 (by omega)), if_neg hkne, li_add, ix_nI (by omega) (by omega), h.tk (c := 3975) (by omega) ht, d5, li_add, ix_nI (by omega) (by omega), h.pr (by omega), q_has, cl_some, if_rb]
  unfold gX11_calls_84
  by_cases cb : bt (V1.1 (2238 + (V1.2.2.2 t (V1.2.2.1 t - 1)).1)) k0
  · rw [if_pos cb]
    exact htail 1 (rb_pos cb).symm
  · rw [if_neg cb]
    exact htail 0 (rb_neg cb).symm
theorem vnx_eq {lim : Nat} (hj : VJ lim V) (hc : Ico V t np) : vtop V t = vnx V t := by
  rw [hc.top]
  unfold vnx
  rw [vnp_of hc.2.1 hc.2.2.1.2]
/-- called out of a frame, with a slot of it -/
theorem q_calls {bk k0 z2 : Nat} {l5 : Int32} (h : RS s V) (hP : Vpre 2048 V t np z) (hf : f < 10) (hs1 : 1 ≤ vsz V.1 f) (hr2 : V.1 2051 = nI z2) (hz2 : z2 ≤ 80) (hk : V.1 2067 = nI k) (hk2 : k < 2147483300) (hs : V.1 (3989 + t) = -1 ∨ ∃ k, k < 3 ∧ V.1 (3989 + t) = nI k) (h0 : 0 < V.2.2.1 t) (hk0 : k0 < vsz V.1 (V.2.2.2 t (V.2.2.1 t - 1)).1) (hE : vE V.1 (V.2.2.2 t (V.2.2.1 t - 1)).1 f) :
    ∃ s', gX11_calls s (nI t) (nI f) (nI bk) (nI k0) l5 = some ((), s') ∧ RS s' (vcl 2048 V t f bk (vha V.1 f (V.2.2.2 t (V.2.2.1 t - 1)) k0)) ∧ RF s s' := by
  have hP0 := hP
  obtain ⟨hj, hc, ht, hz, h8, hzl, hl, hl2, hq⟩ := hP
  have hft := (hj.fit ht (show V.2.2.1 t - 1 < V.2.2.1 t by omega)).1
  unfold gX11_calls
  rw [q_isCovered h hj rfl hc ht, cl_some, if_rb]
  unfold vcl
  by_cases c : vlc V t = true
  · rw [if_pos c, if_pos c, q_topOf h hj rfl hc ht, cl_some]
    obtain ⟨d, x1, x2, x3⟩ := vlc_room hj hc ht c hE
    have hd := (vdp_le hj.1 hf x1).1
    obtain ⟨c1, c2⟩ := q_cnt (c := 11) (v := 1) h (by omega)
    have hw1 : vpe V.1 (vcn V 11 1).1 := vpe.upd (by omega)
    have hj1 : VJ 2048 (vcn V 11 1) := VJ.vs hj (by omega)
    have hc1 : Icn (vcn V 11 1) t np := (ico_vs hc hj.1 (by omega) (by omega)).n'
    have hff : ∀ i, i < V.2.2.1 t → (V.2.2.2 t i).1 < 10 := fun i hi => (hj.fit ht hi).1
    have hvnx : vnx (vcn V 11 1) t = vnx V t := by
      unfold vnx
      have : vnp (vcn V 11 1) t = vnp V t := by unfold vnp; rw [vcn_ne (by omega)]
      rw [this]
      show vat V.2.1 t _ + vud (vcn V 11 1).1 (V.2.2.2 t) _ (V.2.2.1 t) = _
      rw [(hw1.us hff).2]
    obtain ⟨s', e1, e2, e3⟩ := q_calls_40 (bk := bk) (l5 := l5) (l6 := rb (vlc V t = true)) c2 hj1 hc1 ht hf (by rw [(hw1.sz hf).1]; exact hs1) (by rw [vcn_ne (by omega)]; exact hr2) hz2 (by
      show vud (vcn V 11 1).1 (V.2.2.2 t) _ (V.2.2.1 t) + _ ≤ vln V.2.1 t (np - 1)
      rw [(hw1.us hff).2, (hw1.sz hf).2.1]
      omega) h0 (k0 := k0) (by show k0 < vsz (vcn V 11 1).1 (V.2.2.2 t (V.2.2.1 t - 1)).1; rw [(hw1.sz hft).1]; exact hk0)
    have hha : vha (vcn V 11 1).1 f (V.2.2.2 t (V.2.2.1 t - 1)) k0 = vha V.1 f (V.2.2.2 t (V.2.2.1 t - 1)) k0 := by
      unfold vha
      rw [(hw1.sz hft).2.2.2, (hw1.sz hf).2.2.2]
    rw [if_pos (Or.inl (by rw [rb_pos c]; decide))] at e2
    have e2 : RS s' (vpu (vcn V 11 1) t f (bk + 1024) (vha (vcn V 11 1).1 f (V.2.2.2 t (V.2.2.1 t - 1)) k0).1 (vha (vcn V 11 1).1 f (V.2.2.2 t (V.2.2.1 t - 1)) k0).2) := e2
    rw [hha] at e2
    refine ⟨s', ?_, e2, RF.trans (RF.uf (Or.inl rfl)) e3⟩
    unfold gX11_calls_26
    rw [if_neg (by rw [rb_pos c]; decide), show gX11_counts s 11 1 = _ from c1, cl_some, vnx_eq hj hc, ← hvnx]
    exact e1
  · have c' : vlc V t = false := by simpa using c
    rw [if_neg c, if_neg c]
    have hnc := (vlc_iff hj hc).1 c'
    obtain ⟨s1, r1, r2, r3⟩ := q_roomFor h hP0 hf hr2 hz2 hk hk2 hs hnc
    obtain ⟨v1, v2, -⟩ := vrm_inv (lim := 2048) hP0 hf hs1 hk hnc
    rw [r1, cl_some]
    generalize hres : vrm 2048 V t f = res at *
    obtain ⟨b, V1⟩ := res
    unfold gX11_calls_26
    rw [if_pos (rb_neg c)]
    cases b with
    | true =>
      obtain ⟨a1, a2, a3, a4, a5, np2, a6, a7⟩ := v1 rfl
      have hw1 : vpe V.1 V1.1 := fun i hi => a5 i (fun q => by unfold vrs vgs at q; omega)
      have e22 : V1.2.2 = V.2.2 := a2
      have en : V1.2.2.1 = V.2.2.1 := by rw [e22]
      have ef : V1.2.2.2 = V.2.2.2 := by rw [e22]
      have hff : ∀ i, i < V.2.2.1 t → (V.2.2.2 t i).1 < 10 := fun i hi => (hj.fit ht hi).1
      have hnd := vnd_ge (w := V.1) hj.1 hf
      obtain ⟨s', e1, e2, e3⟩ := q_calls_40 (bk := bk) (l5 := l5) (l6 := rb (vlc V t = true)) (k0 := k0) r2 a1 a6 ht hf (by rw [(hw1.sz hf).1]; exact hs1) (by rw [hw1 2051 (Or.inr (Or.inr rfl))]; exact hr2) hz2 (by
        rw [en, ef, (hw1.us hff).2, (hw1.sz hf).2.1]
        have a7 : vud V.1 (V.2.2.2 t) (np2 - 1) (V.2.2.1 t) + vnd V.1 f ≤ vln V1.2.1 t (np2 - 1) := a7
        omega) (by rw [en]; exact h0) (by rw [en, ef, (hw1.sz hft).1]; exact hk0)
      have hha : vha V1.1 f (V.2.2.2 t (V.2.2.1 t - 1)) k0 = vha V.1 f (V.2.2.2 t (V.2.2.1 t - 1)) k0 := by
        unfold vha
        rw [(hw1.sz hft).2.2.2, (hw1.sz hf).2.2.2]
      rw [en, ef, hha, (hw1.mg hj.1 hf).1] at e2
      refine ⟨s', e1, ?_, RF.trans r3 e3⟩
      by_cases cm : vmg V.1 f = true
      · rw [if_pos (Or.inr cm)] at e2
        show RS s' (vpu V1 t f (bk + if vmg V.1 f = true then 1024 else 0) _ _)
        rw [if_pos cm]
        exact e2
      · rw [if_neg (fun e => e.elim (fun q => q (rb_neg c)) cm)] at e2
        show RS s' (vpu V1 t f (bk + if vmg V.1 f = true then 1024 else 0) _ _)
        rw [if_neg cm]
        exact e2
    | false =>
      refine ⟨s1, ?_, r2, r3⟩
      show gX11_calls_40 s1 (nI t) (nI f) (nI bk) (nI k0) l5 _ (-1) = _
      unfold gX11_calls_40
      rw [if_neg (by simp)]
/-- a task's first call -/
theorem q_calls0 {z2 : Nat} {a : Int32} (h : RS s V) (hP : Vpre 2048 V t np z) (hf : f < 10) (hs1 : 1 ≤ vsz V.1 f) (hr2 : V.1 2051 = nI z2) (hz2 : z2 ≤ 80) (hk : V.1 2067 = nI k) (hk2 : k < 2147483300) (hs : V.1 (3989 + t) = -1 ∨ ∃ k, k < 3 ∧ V.1 (3989 + t) = nI k) (h0 : V.2.2.1 t = 0) :
    ∃ s', gX11_calls s (nI t) (nI f) 0 (-1) a = some ((), s') ∧ RS s' (vcl 2048 V t f 0 (if bt (V.1 (2238 + f)) 0 then 0 else a, none)) ∧ RF s s' := by
  have hP0 := hP
  obtain ⟨hj, hc, ht, hz, h8, hzl, hl, hl2, hq⟩ := hP
  have c : vlc V t = false := by unfold vlc; rw [h0]; rfl
  have c2 : ¬ vlc V t = true := by rw [c]; simp
  unfold gX11_calls
  rw [q_isCovered h hj rfl hc ht, cl_some, if_rb, if_neg c2]
  unfold vcl
  rw [if_neg c2]
  have hnc : ∀ i, i < V.2.2.1 t → ¬ vcv (V.2.2.2 t i) := fun i hi => absurd hi (by omega)
  obtain ⟨s1, r1, r2, r3⟩ := q_roomFor h hP0 hf hr2 hz2 hk hk2 hs hnc
  obtain ⟨v1, v2, -⟩ := vrm_inv (lim := 2048) hP0 hf hs1 hk hnc
  rw [r1, cl_some]
  generalize hres : vrm 2048 V t f = res at *
  obtain ⟨b, V1⟩ := res
  unfold gX11_calls_26
  rw [if_pos (rb_neg c2)]
  cases b with
  | true =>
    obtain ⟨a1, a2, a3, a4, a5, np2, a6, a7⟩ := v1 rfl
    have hw1 : vpe V.1 V1.1 := fun i hi => a5 i (fun q => by unfold vrs vgs at q; omega)
    have e22 : V1.2.2 = V.2.2 := a2
    have en : V1.2.2.1 = V.2.2.1 := by rw [e22]
    have ef : V1.2.2.2 = V.2.2.2 := by rw [e22]
    have hff : ∀ i, i < V.2.2.1 t → (V.2.2.2 t i).1 < 10 := fun i hi => (hj.fit ht hi).1
    have hnd := vnd_ge (w := V.1) hj.1 hf
    have hr : vud V1.1 (V1.2.2.2 t) (np2 - 1) (V1.2.2.1 t) + vwd V1.1 f ≤ vln V1.2.1 t (np2 - 1) := by
      rw [en, ef, (hw1.us hff).2, (hw1.sz hf).2.1]
      have a7 : vud V.1 (V.2.2.2 t) (np2 - 1) (V.2.2.1 t) + vnd V.1 f ≤ vln V1.2.1 t (np2 - 1) := a7
      omega
    have hfit : vnx V1 t + vwd V1.1 f ≤ 2048 := (a6.free a1 ht hr).1
    obtain ⟨s', e1, e2, e3⟩ := q_calls_149 (bk := 0) (l6 := rb (vlc V t = true)) (iP := 0) (v := a) (base := -1) (a := if bt (V.1 (2238 + f)) 0 then 0 else a) (q := none) r2 a1 a6 ht hf (by rw [(hw1.sz hf).1]; exact hs1) (by rw [hw1 2051 (Or.inr (Or.inr rfl))]; exact hr2) hz2 hr (by rw [en, if_pos h0]) (by
      unfold vsw vdf vfn
      show _ = (if bt (V1.1 (2238 + f)) 0 then _ else _)
      rw [(hw1.sz hf).2.2.2]
      by_cases cf : bt (V.1 (2238 + f)) 0
      · rw [rb_pos cf, if_pos (by decide), if_pos cf, if_pos cf]
        rfl
      · rw [rb_neg cf, if_neg (by simp), if_neg cf, if_neg cf]
        rfl) (fun x hx => by cases hx)
    rw [(hw1.mg hj.1 hf).1] at e2
    refine ⟨s', ?_, ?_, RF.trans r3 e3⟩
    · show gX11_calls_40 s1 (nI t) (nI f) 0 (-1) a _ (nI (vnx V1 t)) = _
      unfold gX11_calls_40
      rw [if_pos (nI_m1 (by omega)), if_pos rfl]
      unfold gX11_calls_84 gX11_calls_85
      rw [if_neg (by simp)]
      unfold gX11_calls_117
      rw [li_add, ix_nI (by omega) (by omega), r2.tk (c := 3954) (by omega) ht, a6.1, en, h0, if_neg (by decide)]
      exact e1
    · by_cases cm : vmg V.1 f = true
      · rw [if_pos (Or.inr cm)] at e2
        show RS s' (vpu V1 t f (0 + if vmg V.1 f = true then 1024 else 0) _ _)
        rw [if_pos cm]
        exact e2
      · rw [if_neg (fun e => e.elim (fun q => q (rb_neg c2)) cm)] at e2
        show RS s' (vpu V1 t f (0 + if vmg V.1 f = true then 1024 else 0) _ _)
        rw [if_neg cm]
        exact e2
  | false =>
    refine ⟨s1, ?_, r2, r3⟩
    show gX11_calls_40 s1 (nI t) (nI f) 0 (-1) a _ (-1) = _
    unfold gX11_calls_40
    rw [if_neg (by simp)]
end
end
section
/-! ===== the reference leaves a piece ===== -/
/-- pointers point to frames at or below -/
def vpt (V : vV) : Prop := ∀ t, t < 6 → ∀ i, i < V.2.2.1 t → (V.2.2.2 t i).1 < 10 ∧ ∀ k, k < vsz V.1 (V.2.2.2 t i).1 → bt (V.1 (2238 + (V.2.2.2 t i).1)) k → ∀ q, (V.2.2.2 t i).2.2.2.2.2 k = some q → q.1 ≤ i
theorem VJ.pt {lim : Nat} {V : vV} (hj : VJ lim V) : vpt V := fun t ht i hi => ⟨(hj.fit ht hi).1, fun k hk hb q hq => by
  obtain ⟨np, -, -, a3⟩ := hj.geo ht (by omega)
  exact (a3.2.2.2.2.2 i hi k hk hb q hq).1⟩
theorem vpt.w {V V' : vV} (h : vpt V) (hw : ∀ i, 2228 ≤ i → i < 2248 → V'.1 i = V.1 i) (h2 : V'.2.2 = V.2.2) : vpt V' := fun t ht i hi => by
  have e1 : V'.2.2.1 = V.2.2.1 := by rw [h2]
  have e2 : V'.2.2.2 = V.2.2.2 := by rw [h2]
  rw [e1] at hi
  rw [e2]
  obtain ⟨a1, a2⟩ := h t ht i hi
  refine ⟨a1, fun k hk hb q hq => a2 k ?_ ?_ q hq⟩
  · unfold vsz at hk ⊢
    rw [hw _ (by omega) (by omega)] at hk
    exact hk
  · rw [hw _ (by omega) (by omega)] at hb
    exact hb
theorem VM.ps2 {V V' : vV} {mm : Nat → Int32} (hI : vpt V) (h : VM mm V) (hw : ∀ i, 2228 ≤ i → i < 2248 → V'.1 i = V.1 i) (hf : ∀ t, t < 6 → V'.2.2.1 t ≤ V.2.2.1 t ∧ ∀ i, i < V'.2.2.1 t → V'.2.2.2 t i = V.2.2.2 t i ∧ vat V'.2.1 t (V.2.2.2 t i).2.1 = vat V.2.1 t (V.2.2.2 t i).2.1) : VM mm V' := by
  intro t ht
  obtain ⟨h1, h2⟩ := hf t ht
  refine MR_w hw ?_
  have hM : MR mm V.1 (V'.2.2.1 t) (V.2.2.2 t) (vpl V t) := fun i hi => h t ht i (by omega)
  have hM2 : MR mm V.1 (V'.2.2.1 t) (V.2.2.2 t) (vpl V' t) := by
    refine hM.pl (fun i hi => ?_) (fun i hi k hk hb q hq => (hI t ht i (by omega)).2 k hk hb q hq)
    unfold vpl
    rw [(h2 i hi).1, (h2 i hi).2]
  intro i hi
  rw [(h2 i hi).1]
  exact hM2 i hi
theorem RS.nf {s : wt_S} {V : vV} {t n : Nat} (h : RS s V) (hp : vpt V) (hn : n ≤ V.2.2.1 t) : RS s (vnf V t n) := by
  refine ⟨h.1, h.2.1, h.2.2.1, ?_⟩
  obtain ⟨mm, g3, g4⟩ := h.2.2.2
  refine ⟨mm, g3, g4.ps2 hp (fun _ _ _ => rfl) (fun t' ht' => ?_)⟩
  by_cases e : t' = t
  · subst e
    exact ⟨by show mj_upd V.2.2.1 t' n t' ≤ _; rw [mj_upd_self]; exact hn, fun i hi => ⟨rfl, rfl⟩⟩
  · exact ⟨by show mj_upd V.2.2.1 t n t' ≤ _; rw [mj_upd_ne e]; exact Nat.le_refl _, fun i hi => ⟨rfl, rfl⟩⟩
section
variable {s : wt_S} {V : vV} {t : Nat}
theorem q_spare2 {k : Nat} (h : RS s V) (ho : vo 2048 V.2.1) (hu : V.2.1.Pairwise (fun p q => ¬ (p.2.2.1 = q.2.2.1 ∧ p.2.2.2 = q.2.2.2))) (hp : vpt V) (ht : t < 6) (hn : vnof V t 1000) (hk : V.1 2067 = nI k) (hk2 : k < 2147483600) : ∃ s', gX11_givesSpare s (nI t) = some (rb ((V.2.1.find? (vkey t 1000)).isSome = true), s') ∧ RS s' (vsp V t) ∧ RF s s' := by
  have hpo := q_pieceOf (t := t) (number := 1000) h.2.2.1 ho ht (by omega)
  have hpo : gX11_pieceOf s (nI t) 1000 = _ := hpo
  unfold gX11_givesSpare
  rw [hpo, cl_some]
  cases e : vfi (vkey t 1000) V.2.1 0 with
  | none =>
    have hf := vfi_find.1.mp e
    refine ⟨s, ?_, ?_, RF.refl⟩
    · rw [oI_none, if_neg (by simp), rb_neg (by rw [hf]; simp)]
    · unfold vsp
      rw [if_neg (by rw [hf]; simp)]
      exact h
  | some x =>
    obtain ⟨-, h2, h3⟩ := vfi_find.2 x e
    rw [Nat.sub_zero] at h2 h3
    have hl256 := h.2.2.1.2.1
    have hsome : (V.2.1.find? (vkey t 1000)).isSome = true := by rw [h2, List.getElem?_eq_getElem h3]; rfl
    obtain ⟨s1, a1, a2, a3⟩ := q_log (a := 5) (b := nI t) (c := s 111 (2899 + x)) (d := s 111 (3155 + x)) h hk (by omega)
    obtain ⟨w2, b1, b2, b3⟩ := q_gives (s := s1) (ps := V.2.1) (k0 := x) a2.2.2.1 h3
    have hfe := vfi_erase hu e
    rw [Nat.sub_zero] at hfe
    rw [hfe] at b2
    refine ⟨wt_uf s1 111 w2, ?_, ?_, RF.trans a3 (RF.uf (Or.inl rfl))⟩
    · rw [oI_some, if_pos (nI_m1 (by omega)), li_add, ix_nI (by omega) (by omega), li_add, ix_nI (by omega) (by omega), a1, cl_some, b1, cl_some, rb_pos hsome]
    · unfold vsp
      rw [if_pos hsome]
      refine a2.uf (a2.2.ps b3 b2 (fun mm hm => ?_))
      exact hm.ps2 (V := vlg1 V) (hp.w (fun i h1 h2 => vlg1_ne (by omega)) rfl) (fun _ _ _ => rfl) (fun t' ht' => ⟨Nat.le_refl _, fun i hi => ⟨rfl, (vat_eq (vfind_filter (vnof_P hn t' ht' i hi))).1⟩⟩)
/-- numbers change twice -/
theorem vren_vren {n : Nat} {ps : List vP} (hn : n ≠ 1000) (h9 : ∀ q ∈ ps, ¬ (q.2.2.1 = t ∧ q.2.2.2 = 4294967295)) : vren t 4294967295 1000 ((vren t n 4294967295 ps).filter (fun q => !vkey t 1000 q)) = vren t n 1000 (ps.filter (fun q => !vkey t 1000 q)) := by
  induction ps with
  | nil => rfl
  | cons p ps ih =>
    have ih := ih (fun q hq => h9 q (List.mem_cons_of_mem _ hq))
    have hp := h9 p (List.mem_cons_self ..)
    show vren t 4294967295 1000 (((if vkey t n p then (p.1, p.2.1, p.2.2.1, 4294967295) else p) :: vren t n 4294967295 ps).filter (fun q => !vkey t 1000 q)) = _
    by_cases c : vkey t n p = true
    · have c' : p.2.2.1 = t ∧ p.2.2.2 = n := by simpa [vkey] using c
      rw [if_pos c, List.filter_cons_of_pos (by simp [vkey]), List.filter_cons_of_pos (by simp [vkey]; omega)]
      show (if vkey t 4294967295 (p.1, p.2.1, p.2.2.1, 4294967295) then _ else _) :: vren t 4294967295 1000 ((vren t n 4294967295 ps).filter (fun q => !vkey t 1000 q)) = (if vkey t n p then (p.1, p.2.1, p.2.2.1, 1000) else p) :: vren t n 1000 (ps.filter (fun q => !vkey t 1000 q))
      rw [ih, if_pos (by simp [vkey, c'.1]), if_pos c]
    · rw [if_neg c]
      by_cases c2 : vkey t 1000 p = true
      · rw [List.filter_cons_of_neg (by simp [c2]), List.filter_cons_of_neg (by simp [c2])]
        exact ih
      · rw [List.filter_cons_of_pos (by simp [c2]), List.filter_cons_of_pos (by simp [c2])]
        show (if vkey t 4294967295 p then _ else p) :: vren t 4294967295 1000 ((vren t n 4294967295 ps).filter (fun q => !vkey t 1000 q)) = (if vkey t n p then _ else p) :: vren t n 1000 (ps.filter (fun q => !vkey t 1000 q))
        rw [ih, if_neg (by simp [vkey]; omega), if_neg c]
theorem vfi_has {ps : List vP} (ho : vo 2048 ps) {q : vP} (hq : q ∈ ps) : ∃ x, vfi (vhas q.1) ps 0 = some x ∧ ps[x]? = some q ∧ x < ps.length := by
  cases e : vfi (vhas q.1) ps 0 with
  | none =>
    have := vfi_none e q hq
    have hb := ho.2 q hq
    simp [vhas] at this
    omega
  | some x =>
    obtain ⟨p, -, p1, p2⟩ := vfi_spec e
    rw [Nat.sub_zero] at p1
    have p2 : p.1 ≤ q.1 ∧ q.1 < p.1 + p.2.1 := by simpa [vhas] using p2
    have hpm := List.mem_of_getElem? p1
    have hpq : p = q := by
      apply Classical.byContradiction
      intro hne
      have hb := ho.2 q hq
      rcases vdisj ho p hpm q hq hne with h | h <;> omega
    subst hpq
    exact ⟨x, rfl, p1, (List.getElem?_eq_some_iff.mp p1).1⟩
/-- the frame F has been left; np is still the number of pieces -/
theorem q_leaves {np k : Nat} {F : vF} (h : RS s V) (ho : vo 2048 V.2.1) (hu : V.2.1.Pairwise (fun p q => ¬ (p.2.2.1 = q.2.2.1 ∧ p.2.2.2 = q.2.2.2))) (hp : vpt V) (ht : t < 6) (hnp : V.1 (4066 + t) = nI np) (hn : 1 ≤ np ∧ np ≤ 256) (hi : Itp V.2.1 t np) (hF : F.2.1 = np - 1) (hfit : F.2.2.1 < 2048) (hof : F.2.2.1 = 0 → np ≠ 1 → vnof V t (np - 1)) (hn1 : ∀ m, np ≤ m → vnof V t m) (hhot : V.1 2049 = 0 ∨ V.1 2049 = 1) (hk : V.1 2067 = nI k) (hk2 : k < 2147483500) : ∃ s', gX11_leaves s (nI t) (nI (vat V.2.1 t F.2.1 + F.2.2.1)) = some ((), s') ∧ RS s' (vlv V t F) ∧ RF s s' := by
  obtain ⟨x, q, e1, e2, e3, e4, e5, e6, e7, e8⟩ := vfi_some (hi.1 (np - 1) (by omega))
  have hl := h.2.2.1.2.1
  have hq := ho.2 q e4
  obtain ⟨r1, r2, r3, r4⟩ := h.2.2.1.2.2 x q e2
  have hlp : gX11_lastPiece s (nI t) = some (nI x, s) := by
    unfold gX11_lastPiece
    rw [li_add, ix_nI (by omega) (by omega), h.tk (c := 4066) (by omega) ht, hnp, li_sub (by omega), q_pieceOf h.2.2.1 ho ht (by omega), cl_some, e1]
    rfl
  unfold gX11_leaves
  rw [hlp, cl_some, li_add, ix_nI (by omega) (by omega), r1, hF, e7]
  unfold vlv
  by_cases c0 : F.2.2.1 = 0
  · rw [c0, Nat.add_zero, if_neg (by simp), li_add, ix_nI (by omega) (by omega), r4, e6, hF]
    by_cases c1 : np = 1
    · subst c1
      rw [if_neg (by decide), if_pos (Or.inr rfl)]
      exact ⟨s, rfl, h, RF.refl⟩
    · rw [if_pos (fun e => by have := (nI_inj (a := np - 1) (b := 0) (by omega) (by omega)).mp e; omega), if_neg (by omega), li_add, ix_nI (by omega) (by omega), ix_nI (by omega) (by omega), wr_eq, h.tk (c := 4066) (by omega) ht]
      have h1 := h.u (i := 4066 + t) (v := V.1 (4066 + t) - 1) (vtt (by omega) ht) (Or.inr (by omega))
      have hvn := hof c0 c1
      rw [h1.se (c := 2049) (by omega), vs_ne (by omega)]
      rcases hhot with hh | hh
      · -- given back
        rw [if_neg (by rw [hh]; simp), hh, if_pos rfl, li_add, ix_nI (by omega) (by omega)]
        obtain ⟨s2, a1, a2, a3⟩ := q_log (a := 5) (b := nI t) (c := nI q.1) (d := (wt_u s 111 (4066 + t) (V.1 (4066 + t) - 1)) 111 (3155 + x)) (k := k) h1 (by rw [vs_ne (by omega)]; exact hk) (by omega)
        obtain ⟨w3, b1, b2, b3⟩ := q_gives (s := s2) (ps := V.2.1) (k0 := x) a2.2.2.1 e3
        have hfe := vfi_erase hu e1
        rw [Nat.sub_zero] at hfe
        rw [hfe] at b2
        refine ⟨wt_uf s2 111 w3, by rw [a1, cl_some, b1, cl_some], ?_, RF.trans (RF.uf (Or.inl rfl)) (RF.trans a3 (RF.uf (Or.inl rfl)))⟩
        refine a2.uf (a2.2.ps b3 b2 (fun mm hm => ?_))
        exact hm.ps2 (V := vlg1 (vs V (4066 + t) (V.1 (4066 + t) - 1))) (hp.w (fun i h1 h2 => (vlg1_ne (by omega)).trans (vs_ne (by omega))) rfl) (fun _ _ _ => rfl) (fun t' ht' => ⟨Nat.le_refl _, fun i hi => ⟨rfl, (vat_eq (vfind_filter (vnof_P hvn t' ht' i hi))).1⟩⟩)
      · -- the spare
        have hh0 : ¬ V.1 2049 = 0 := by rw [hh]; decide
        rw [if_pos hh0, if_neg hh0, ix_nI (by omega) (by omega), wr_eq]
        generalize hV1 : vs V (4066 + t) (V.1 (4066 + t) - 1) = V1 at *
        have e21 : V1.2 = V.2 := by rw [← hV1]; rfl
        have e2p : V1.2.1 = V.2.1 := by rw [e21]
        have hw1 : ∀ i, 2228 ≤ i → i < 2248 → V1.1 i = V.1 i := fun i g1 g2 => by rw [← hV1]; exact vs_ne (by omega)
        have hp1 : vpt V1 := hp.w hw1 (by rw [e21])
        have hu1 : V1.2.1.Pairwise (fun p q => ¬ (p.2.2.1 = q.2.2.1 ∧ p.2.2.2 = q.2.2.2)) := by rw [e2p]; exact hu
        have h9 : ∀ q ∈ V.2.1, ¬ (q.2.2.1 = t ∧ q.2.2.2 = 4294967295) := fun q hq e => by
          rcases hi.2 q hq e.1 with g | g <;> omega
        have hno : ∀ m, vnof V t m → vnof V1 t m := fun m g i gi => by
          rw [e21] at gi ⊢
          exact g i gi
        -- no number
        have h2 : RS (wt_u (wt_u s 111 (4066 + t) (V.1 (4066 + t) - 1)) 111 (3667 + x) (-1)) (vps V1 (vren t (np - 1) 4294967295 V1.2.1)) := by
          refine h1.uf (h1.2.ps (fun i g => mj_upd_ne (by unfold vout at g; omega)) (vr_ren (n' := 4294967295) h1.2.2.1 hu1 (by rw [e2p]; exact e1)) (fun mm hm => ?_))
          exact hm.ps2 hp1 (fun _ _ _ => rfl) (fun t' ht' => ⟨Nat.le_refl _, fun i gi => ⟨rfl, (vat_eq (vfind_ren (fun e => by
            obtain ⟨rfl, e | e⟩ := e
            · exact hno _ hvn i gi e
            · exact hno _ (hn1 4294967295 (by omega)) i gi e))).1⟩⟩)
        have ho2 : vo 2048 (vren t (np - 1) 4294967295 V1.2.1) := by
          have hmap : ∀ p : vP, (if vkey t (np - 1) p then (p.1, p.2.1, p.2.2.1, 4294967295) else p).1 = p.1 ∧ (if vkey t (np - 1) p then (p.1, p.2.1, p.2.2.1, 4294967295) else p).2.1 = p.2.1 ∧ (if vkey t (np - 1) p then (p.1, p.2.1, p.2.2.1, 4294967295) else p).2.2.1 = p.2.2.1 := fun p => by split <;> exact ⟨rfl, rfl, rfl⟩
          rw [e2p]
          refine ⟨?_, fun p hp => ?_⟩
          · unfold vren
            rw [List.pairwise_map]
            refine ho.1.imp (fun {a b} g => ?_)
            rw [(hmap a).1, (hmap a).2.1, (hmap b).1]
            exact g
          · obtain ⟨p0, p1, rfl⟩ := List.mem_map.mp hp
            have := ho.2 p0 p1
            rw [(hmap p0).1, (hmap p0).2.1, (hmap p0).2.2]
            refine ⟨this.1, this.2.1, this.2.2.1, ?_⟩
            split
            · show 4294967295 < 4294967296; omega
            · exact this.2.2.2
        have hu2 : (vren t (np - 1) 4294967295 V1.2.1).Pairwise (fun p q => ¬ (p.2.2.1 = q.2.2.1 ∧ p.2.2.2 = q.2.2.2)) := by
          rw [e2p]
          unfold vren
          rw [List.pairwise_map]
          refine List.Pairwise.imp_of_mem (fun {a b} ha hb g e => ?_) hu
          have ka := h9 a ha
          have kb := h9 b hb
          by_cases ca : vkey t (np - 1) a = true
          · by_cases cb : vkey t (np - 1) b = true
            · have ca : a.2.2.1 = t ∧ a.2.2.2 = np - 1 := by simpa [vkey] using ca
              have cb : b.2.2.1 = t ∧ b.2.2.2 = np - 1 := by simpa [vkey] using cb
              exact g ⟨by omega, by omega⟩
            · rw [if_pos ca, if_neg cb] at e
              have ca : a.2.2.1 = t ∧ a.2.2.2 = np - 1 := by simpa [vkey] using ca
              have g1 : a.2.2.1 = b.2.2.1 := e.1
              have g2 : 4294967295 = b.2.2.2 := e.2
              exact kb ⟨by omega, g2.symm⟩
          · by_cases cb : vkey t (np - 1) b = true
            · rw [if_neg ca, if_pos cb] at e
              have cb : b.2.2.1 = t ∧ b.2.2.2 = np - 1 := by simpa [vkey] using cb
              have g1 : a.2.2.1 = b.2.2.1 := e.1
              have g2 : a.2.2.2 = 4294967295 := e.2
              exact ka ⟨by omega, g2⟩
            · rw [if_neg ca, if_neg cb] at e
              exact g e
        have hkV : (vps V1 (vren t (np - 1) 4294967295 V1.2.1)).1 2067 = nI k := by
          show V1.1 2067 = _
          rw [← hV1, vs_ne (by omega)]
          exact hk
        obtain ⟨s3, a1, a2, a3⟩ := q_spare2 (t := t) h2 ho2 hu2 (hp1.w (fun _ _ _ => rfl) rfl) ht (hno _ (hn1 1000 (by omega))) hkV (by omega)
        -- the pieces then
        have hvs : (vsp (vps V1 (vren t (np - 1) 4294967295 V1.2.1)) t) = vps (vsp V1 t) ((vren t (np - 1) 4294967295 V1.2.1).filter (fun q => !vkey t 1000 q)) := by
          unfold vsp
          have hfs : (vren t (np - 1) 4294967295 V1.2.1).find? (vkey t 1000) = V1.2.1.find? (vkey t 1000) := vfind_ren (fun e => by omega)
          show (if ((vren t (np - 1) 4294967295 V1.2.1).find? (vkey t 1000)).isSome = true then _ else _) = _
          rw [hfs]
          split
          · rfl
          · rename_i g
            have hnone : V1.2.1.find? (vkey t 1000) = none := by
              cases gg : V1.2.1.find? (vkey t 1000) with
              | none => rfl
              | some p => rw [gg] at g; exact absurd rfl g
            have hall : (vren t (np - 1) 4294967295 V1.2.1).filter (fun q => !vkey t 1000 q) = vren t (np - 1) 4294967295 V1.2.1 := by
              rw [List.filter_eq_self]
              intro p hp
              rw [hnone] at hfs
              have := List.find?_eq_none.mp hfs p hp
              simpa using this
            rw [hall]
        rw [hvs] at a2
        have hqin : q ∈ V1.2.1 := by rw [e2p]; exact e4
        have hq9 : (q.1, q.2.1, q.2.2.1, 4294967295) ∈ (vren t (np - 1) 4294967295 V1.2.1).filter (fun q => !vkey t 1000 q) := List.mem_filter.mpr ⟨List.mem_map.mpr ⟨q, hqin, if_pos (by simp [vkey, e5, e6])⟩, by simp [vkey]⟩
        have ho3 : vo 2048 ((vren t (np - 1) 4294967295 V1.2.1).filter (fun q => !vkey t 1000 q)) := vo_sub ho2 List.filter_sublist
        have hu3 := hu2.sublist (List.filter_sublist (p := fun q => !vkey t 1000 q) (l := vren t (np - 1) 4294967295 V1.2.1))
        obtain ⟨y, y1, y2, y3⟩ := vfi_has ho3 hq9
        have hy256 := a2.2.2.1.2.1
        have hy256 : ((vren t (np - 1) 4294967295 V1.2.1).filter (fun q => !vkey t 1000 q)).length ≤ 256 := hy256
        have hpa : gX11_pieceAt s3 (nI q.1) = some (oI (some y), s3) := by
          have := q_pieceAt (p := q.1) a2.2.2.1 ho3 (by omega)
          rw [show (vps (vsp V1 t) ((vren t (np - 1) 4294967295 V1.2.1).filter (fun q => !vkey t 1000 q))).2.1 = (vren t (np - 1) 4294967295 V1.2.1).filter (fun q => !vkey t 1000 q) from rfl, y1] at this
          exact this
        have hyk : vfi (vkey t 4294967295) ((vren t (np - 1) 4294967295 V1.2.1).filter (fun q => !vkey t 1000 q)) 0 = some y := by
          obtain ⟨y', q', z1, z2, z3, z4, z5, z6, -⟩ := vfi_some (t := t) (n := 4294967295) (ps := (vren t (np - 1) 4294967295 V1.2.1).filter (fun q => !vkey t 1000 q)) ⟨_, hq9, e5, rfl⟩
          have hqq : q' = (q.1, q.2.1, q.2.2.1, 4294967295) := vuniq hu3 q' z4 _ hq9 (z5.trans e5.symm) z6
          rw [z1]
          congr 1
          have hpw := List.pairwise_iff_getElem.mp ho3.1
          rw [List.getElem?_eq_getElem z3] at z2
          rw [List.getElem?_eq_getElem y3] at y2
          have g1 := Option.some.inj z2
          have g2 := Option.some.inj y2
          apply Classical.byContradiction
          intro hne
          have hb := ho3.2 _ hq9
          rcases Nat.lt_or_gt_of_ne hne with g | g
          · have := hpw y' y z3 y3 g
            rw [g1, g2, hqq] at this
            omega
          · have := hpw y y' y3 z3 g
            rw [g1, g2, hqq] at this
            omega
        have hp3 : vpt (vps (vsp V1 t) ((vren t (np - 1) 4294967295 V1.2.1).filter (fun q => !vkey t 1000 q))) := by
          refine hp1.w (fun i g1 g2 => ?_) ?_
          · show (vsp V1 t).1 i = V1.1 i
            unfold vsp
            split
            · exact vlg1_ne (by omega)
            · rfl
          · show (vsp V1 t).2.2 = V1.2.2
            unfold vsp
            split <;> rfl
        have h22 : (vsp V1 t).2.2 = V1.2.2 := by unfold vsp; split <;> rfl
        have hno3 : ∀ m, vnof V t m → vnof (vps (vsp V1 t) ((vren t (np - 1) 4294967295 V1.2.1).filter (fun q => !vkey t 1000 q))) t m := fun m g i gi => by
          have gi : i < (vsp V1 t).2.2.1 t := gi
          show ((vsp V1 t).2.2.2 t i).2.1 ≠ m
          rw [h22] at gi ⊢
          exact hno m g i gi
        have h4 : RS (wt_u s3 111 (3667 + y) 1000) (vps (vsp V1 t) (vren t (np - 1) 1000 (V1.2.1.filter (fun q => !vkey t 1000 q)))) := by
          rw [← vren_vren (t := t) (n := np - 1) (ps := V1.2.1) (by omega) (by rw [e2p]; exact h9)]
          refine a2.uf (a2.2.ps (fun i g => mj_upd_ne (by unfold vout at g; omega)) (vr_ren (n' := 1000) a2.2.2.1 hu3 hyk) (fun mm hm => ?_))
          exact hm.ps2 hp3 (fun _ _ _ => rfl) (fun t' ht' => ⟨Nat.le_refl _, fun i gi => ⟨rfl, (vat_eq (vfind_ren (fun e => by
            obtain ⟨rfl, e | e⟩ := e
            · exact hno3 _ (hn1 4294967295 (by omega)) i gi e
            · exact hno3 _ (hn1 1000 (by omega)) i gi e))).1⟩⟩)
        have hvp : (vsp V1 t).2.1 = V1.2.1.filter (fun q => !vkey t 1000 q) := by
          unfold vsp
          split
          · rfl
          · rename_i g
            symm
            rw [List.filter_eq_self]
            intro p hp
            have hnone : V1.2.1.find? (vkey t 1000) = none := by
              cases gg : V1.2.1.find? (vkey t 1000) with
              | none => rfl
              | some p => rw [gg] at g; exact absurd rfl g
            have := List.find?_eq_none.mp hnone p hp
            simpa using this
        have hlk : ∃ k', k' ≤ k + 1 ∧ (vsp V1 t).1 2067 = nI k' := by
          have hk1 : V1.1 2067 = nI k := by rw [← hV1, vs_ne (by omega)]; exact hk
          unfold vsp
          split
          · refine ⟨k + 1, Nat.le_refl _, ?_⟩
            show (vlg1 V1).1 2067 = _
            rw [vlg1_at, hk1, nI_1]
          · exact ⟨k, by omega, hk1⟩
        obtain ⟨k', g1, g2⟩ := hlk
        obtain ⟨s5, b1, b2, b3⟩ := q_log (a := 3) (b := nI t) (c := nI q.1) (d := (wt_u s3 111 (3667 + y) 1000) 111 (3155 + y)) (k := k') h4 g2 (by omega)
        refine ⟨s5, ?_, ?_, RF.trans (RF.uf (Or.inl rfl)) (RF.trans (RF.uf (Or.inl rfl)) (RF.trans a3 (RF.trans (RF.uf (Or.inl rfl)) b3)))⟩
        · rw [a1, cl_some, hpa, cl_some, oI_some, li_add, ix_nI (by omega) (by omega), wr_eq, li_add, ix_nI (by omega) (by omega), b1, cl_some]
        · rw [← hvp] at b2
          exact b2
  · rw [if_pos (fun e => by have := (nI_inj (a := q.1) (b := q.1 + F.2.2.1) (by omega) (by omega)).mp e; omega), if_pos (Or.inl c0)]
    exact ⟨s, rfl, h, RF.refl⟩
end
end
section
/-! ===== leaving keeps what holds ===== -/
section
variable {lim z t np k : Nat} {V : vV}
theorem VJ.nf {n : Nat} (hj : VJ lim V) (hn : n ≤ V.2.2.1 t) : VJ lim (vnf V t n) := by
  refine ⟨hj.1, hj.2.1, hj.2.2.1, fun t' ht' h0 => ?_⟩
  by_cases e : t' = t
  · subst e
    have h0 : 0 < mj_upd V.2.2.1 t' n t' := h0
    show ∃ np, Itp V.2.1 t' np ∧ Geo V.1 V.2.1 t' np (mj_upd V.2.2.1 t' n t') (V.2.2.2 t') ∧ Ifr V.1 V.2.1 t' (mj_upd V.2.2.1 t' n t') (V.2.2.2 t')
    rw [mj_upd_self] at h0 ⊢
    obtain ⟨np, a1, a2, a3⟩ := hj.geo ht' (by omega)
    exact ⟨np, a1, a2.less hn, a3.less hn⟩
  · have e1 : (vnf V t n).2.2.1 t' = V.2.2.1 t' := mj_upd_ne e
    rw [e1] at h0 ⊢
    exact hj.geo ht' h0
/-- pieces of the others as they were -/
theorem vsame_ot {ps' : List vP} {t' np' : Nat} (hne : t' ≠ t) (hm : ∀ q : vP, q.2.2.1 ≠ t → (q ∈ ps' ↔ q ∈ V.2.1)) (hf : ∀ t' n, t' ≠ t → ps'.find? (vkey t' n) = V.2.1.find? (vkey t' n)) (a1 : Itp V.2.1 t' np') (a2 : Geo V.1 V.2.1 t' np' (V.2.2.1 t') (V.2.2.2 t')) : vsame V ps' t' np' np' := by
  refine ⟨⟨fun k hk => ?_, fun q hq e => a1.2 q ((hm q (by omega)).mp hq) e⟩, fun i hi => ⟨(a2.1 i hi).1, vat_eq (hf t' _ hne)⟩⟩
  obtain ⟨q, q1, q2, q3⟩ := a1.1 k hk
  exact ⟨q, (hm q (by omega)).mpr q1, q2, q3⟩
theorem vlv_0 {F : vF} (h : F.2.2.1 ≠ 0 ∨ F.2.1 = 0) : vlv V t F = V := by
  unfold vlv
  rw [if_pos h]
theorem vlv_1 {F : vF} (h : ¬ (F.2.2.1 ≠ 0 ∨ F.2.1 = 0)) (h1 : V.1 2049 = 0) : vlv V t F = vps (vlg1 (vs V (4066 + t) (V.1 (4066 + t) - 1))) (V.2.1.filter (fun q => !vkey t F.2.1 q)) := by
  unfold vlv
  rw [if_neg h]
  dsimp only
  rw [if_pos h1]
theorem vlv_2 {F : vF} (h : ¬ (F.2.2.1 ≠ 0 ∨ F.2.1 = 0)) (h1 : ¬ V.1 2049 = 0) : vlv V t F = vlg1 (vps (vsp (vs V (4066 + t) (V.1 (4066 + t) - 1)) t) (vren t F.2.1 1000 (vsp (vs V (4066 + t) (V.1 (4066 + t) - 1)) t).2.1)) := by
  unfold vlv
  rw [if_neg h]
  dsimp only
  rw [if_neg h1]
  rfl
theorem vsp_ps : (vsp V t).2.1 = V.2.1.filter (fun q => !vkey t 1000 q) := by
  unfold vsp
  split
  · rfl
  · rename_i g
    symm
    rw [List.filter_eq_self]
    intro p hp
    have hnone : V.2.1.find? (vkey t 1000) = none := by
      cases gg : V.2.1.find? (vkey t 1000) with
      | none => rfl
      | some p => rw [gg] at g; exact absurd rfl g
    have := List.find?_eq_none.mp hnone p hp
    simpa using this
theorem vsp_22 : (vsp V t).2.2 = V.2.2 := by unfold vsp; split <;> rfl
theorem vsp_w {i : Nat} (hi : i ≠ 2067) : (vsp V t).1 i = V.1 i := by
  unfold vsp
  split
  · exact vlg1_ne hi
  · rfl
theorem vsp_lg (hk : V.1 2067 = nI k) : ∃ k', k' ≤ k + 1 ∧ (vsp V t).1 2067 = nI k' := by
  unfold vsp
  split
  · refine ⟨k + 1, Nat.le_refl _, ?_⟩
    show (vlg1 V).1 2067 = _
    rw [vlg1_at, hk, nI_1]
  · exact ⟨k, by omega, hk⟩
theorem OT.lv {F : vF} (ht : t < 6) : OT t V (vlv V t F) := by
  by_cases h : F.2.2.1 ≠ 0 ∨ F.2.1 = 0
  · rw [vlv_0 h]; exact OT.refl
  · by_cases h1 : V.1 2049 = 0
    · rw [vlv_1 h h1]
      exact OT.trans (OT.trans (OT.vs ht (vown_t (c := 4066) (by omega))) (OT.lg ht)) (OT.flt (V := vlg1 _))
    · rw [vlv_2 h h1]
      exact OT.trans (OT.trans (OT.trans (OT.vs ht (vown_t (c := 4066) (by omega))) (OT.sp ht)) OT.ren) (OT.lg ht)
theorem vlv_inv {F : vF} (hj : VJ lim V) (ht : t < 6) (hnp : V.1 (4066 + t) = nI np) (hn : 1 ≤ np ∧ np ≤ 256) (hi : Itp V.2.1 t np) (hF : F.2.1 = np - 1) (hof : F.2.2.1 = 0 → np ≠ 1 → vnof V t (np - 1)) (hn1 : ∀ i, i < V.2.2.1 t → (V.2.2.2 t i).2.1 < np) (hk : V.1 2067 = nI k) (hz : ∀ q ∈ V.2.1, z ≤ q.2.1) :
    VJ lim (vlv V t F) ∧ (vlv V t F).2.2 = V.2.2 ∧ (∀ q ∈ (vlv V t F).2.1, z ≤ q.2.1) ∧ (∃ k', k' ≤ k + 2 ∧ (vlv V t F).1 2067 = nI k') ∧ (∀ i, i ≠ 2067 → i ≠ 4066 + t → (vlv V t F).1 i = V.1 i) ∧ ∃ np2, np2 = (if F.2.2.1 ≠ 0 ∨ F.2.1 = 0 then np else np - 1) ∧ (vlv V t F).1 (4066 + t) = nI np2 ∧ vsame V (vlv V t F).2.1 t np np2 := by
  by_cases h : F.2.2.1 ≠ 0 ∨ F.2.1 = 0
  · rw [vlv_0 h, if_pos h]
    exact ⟨hj, rfl, hz, ⟨k, by omega, hk⟩, fun _ _ _ => rfl, np, rfl, hnp, hi, fun i gi => ⟨hn1 i gi, rfl, rfl⟩⟩
  · have h0 : F.2.2.1 = 0 := by omega
    have hnp1 : np ≠ 1 := by omega
    have hvn := hof h0 hnp1
    rw [if_neg h]
    have hlt : ∀ i, i < V.2.2.1 t → (V.2.2.2 t i).2.1 < np - 1 := fun i gi => by
      have g1 := hn1 i gi
      have g2 := hvn i gi
      omega
    by_cases h1 : V.1 2049 = 0
    · rw [vlv_1 h h1]
      have hs : vsame V (V.2.1.filter (fun q => !vkey t F.2.1 q)) t np (np - 1) := by
        rw [hF]
        refine ⟨⟨fun j hj2 => ?_, fun q hq e => ?_⟩, fun i gi => ⟨hlt i gi, vat_eq (vfind_filter (fun q _ hk => ?_))⟩⟩
        · obtain ⟨q, q1, q2, q3⟩ := hi.1 j (by omega)
          exact ⟨q, List.mem_filter.mpr ⟨q1, by simp [vkey]; omega⟩, q2, q3⟩
        · obtain ⟨q1, q2⟩ := List.mem_filter.mp hq
          simp [vkey] at q2
          rcases hi.2 q q1 e with g | g
          · exact Or.inl (by omega)
          · exact Or.inr g
        · have hk : q.2.2.1 = t ∧ q.2.2.2 = (V.2.2.2 t i).2.1 := by simpa [vkey] using hk
          have := hlt i gi
          simp [vkey]
          omega
      refine ⟨?_, rfl, fun q hq => hz q (List.mem_filter.mp hq).1, ⟨k + 1, by omega, ?_⟩, fun i g1 g2 => ?_, np - 1, rfl, ?_, hs⟩
      · have hjV : VJ lim (vlg1 (vs V (4066 + t) (V.1 (4066 + t) - 1))) := VJ.vs (VJ.vs hj (by omega)) (by omega)
        refine VJ.ps (V := vlg1 (vs V (4066 + t) (V.1 (4066 + t) - 1))) hjV (vo_sub hj.2.1 List.filter_sublist) (hj.2.2.1.sublist List.filter_sublist) (fun t' ht' h00 np' a1 a2 => ?_)
        by_cases e : t' = t
        · subst e; exact ⟨np - 1, hs⟩
        · have hO := OT.flt (t := t) (n := F.2.1) (V := V)
          exact ⟨np', vsame_ot (V := vlg1 (vs V (4066 + t) (V.1 (4066 + t) - 1))) e hO.2.2.2.1 hO.2.2.2.2.1 a1 a2⟩
      · show (vlg1 (vs V (4066 + t) (V.1 (4066 + t) - 1))).1 2067 = _
        rw [vlg1_at, vs_ne (by omega), hk, nI_1]
      · show (vlg1 (vs V (4066 + t) (V.1 (4066 + t) - 1))).1 i = _
        rw [vlg1_ne g1, vs_ne g2]
      · show (vlg1 (vs V (4066 + t) (V.1 (4066 + t) - 1))).1 (4066 + t) = _
        rw [vlg1_ne (by omega), vs_at, hnp, li_sub (by omega)]
    · rw [vlv_2 h h1]
      generalize hV1 : vs V (4066 + t) (V.1 (4066 + t) - 1) = V1 at *
      have e21 : V1.2 = V.2 := by rw [← hV1]; rfl
      have e2p : V1.2.1 = V.2.1 := by rw [e21]
      have hps : (vsp V1 t).2.1 = V.2.1.filter (fun q => !vkey t 1000 q) := by rw [vsp_ps, e2p]
      rw [hps]
      have hmem : ∀ p ∈ vren t F.2.1 1000 (V.2.1.filter (fun q => !vkey t 1000 q)), ∃ p0 ∈ V.2.1, ¬ (p0.2.2.1 = t ∧ p0.2.2.2 = 1000) ∧ p.1 = p0.1 ∧ p.2.1 = p0.2.1 ∧ p.2.2.1 = p0.2.2.1 ∧ (p.2.2.2 = p0.2.2.2 ∧ ¬ (p0.2.2.1 = t ∧ p0.2.2.2 = np - 1) ∨ (p0.2.2.1 = t ∧ p0.2.2.2 = np - 1) ∧ p.2.2.2 = 1000) := fun p hp => by
        obtain ⟨p0, a1, a2⟩ := List.mem_map.mp hp
        obtain ⟨b1, b2⟩ := List.mem_filter.mp a1
        refine ⟨p0, b1, fun e => by simp [vkey] at b2; omega, ?_⟩
        by_cases c : vkey t F.2.1 p0 = true
        · rw [if_pos c] at a2
          have c : p0.2.2.1 = t ∧ p0.2.2.2 = F.2.1 := by simpa [vkey] using c
          subst a2
          exact ⟨rfl, rfl, rfl, Or.inr ⟨⟨c.1, by omega⟩, rfl⟩⟩
        · rw [if_neg c] at a2
          subst a2
          exact ⟨rfl, rfl, rfl, Or.inl ⟨rfl, fun e => by simp [vkey] at c; omega⟩⟩
      have hs : vsame V (vren t F.2.1 1000 (V.2.1.filter (fun q => !vkey t 1000 q))) t np (np - 1) := by
        refine ⟨⟨fun j hj2 => ?_, fun q hq e => ?_⟩, fun i gi => ⟨hlt i gi, vat_eq ((vfind_ren (fun e => by have := hlt i gi; omega)).trans (vfind_filter (fun q _ hk => ?_)))⟩⟩
        · obtain ⟨q, q1, q2, q3⟩ := hi.1 j (by omega)
          exact ⟨q, List.mem_map.mpr ⟨q, List.mem_filter.mpr ⟨q1, by simp [vkey]; omega⟩, if_neg (by simp [vkey]; omega)⟩, q2, q3⟩
        · obtain ⟨p0, b1, b2, b3, b4, b5, b6⟩ := hmem q hq
          rcases b6 with ⟨b6, b7⟩ | ⟨b6, b7⟩
          · rcases hi.2 p0 b1 (by omega) with g | g
            · exact Or.inl (by omega)
            · exact Or.inr (by omega)
          · exact Or.inr b7
        · have hk : q.2.2.1 = t ∧ q.2.2.2 = (V.2.2.2 t i).2.1 := by simpa [vkey] using hk
          have := hlt i gi
          simp [vkey]
          omega
      have hk1 : V1.1 2067 = nI k := by rw [← hV1, vs_ne (by omega)]; exact hk
      obtain ⟨k', k1', k2'⟩ := vsp_lg (t := t) hk1
      have hOT : OT t V (vlg1 (vps (vsp V1 t) (vren t F.2.1 1000 (V.2.1.filter (fun q => !vkey t 1000 q))))) := by
        have := OT.lv (V := V) (t := t) (F := F) ht
        rw [vlv_2 h h1, hV1, hps] at this
        exact this
      refine ⟨?_, ?_, fun q hq => ?_, ⟨k' + 1, by omega, ?_⟩, fun i g1 g2 => ?_, np - 1, rfl, ?_, hs⟩
      · have hjV : VJ lim (vsp V1 t) := by
          have hjV1 : VJ lim V1 := by rw [← hV1]; exact VJ.vs hj (by omega)
          unfold vsp
          split
          · refine VJ.flt (V := vlg1 V1) (VJ.vs hjV1 (by omega)) (fun np2 g0 a1 a2 => Or.inl ?_)
            apply Classical.byContradiction
            intro hgt
            have a1 : Itp V1.2.1 t np2 := a1
            rw [e2p] at a1
            obtain ⟨q, q1, q2, q3⟩ := a1.1 999 (by omega)
            rcases hi.2 q q1 q2 with g | g <;> omega
          · exact hjV1
        refine VJ.vs ?_ (by omega)
        have hpsub : ((V.2.1.filter (fun q => !vkey t 1000 q))).Pairwise (fun p q => p.1 + p.2.1 ≤ q.1) := hj.2.1.1.sublist List.filter_sublist
        have hmap : ∀ p : vP, (if vkey t F.2.1 p then (p.1, p.2.1, p.2.2.1, 1000) else p).1 = p.1 ∧ (if vkey t F.2.1 p then (p.1, p.2.1, p.2.2.1, 1000) else p).2.1 = p.2.1 ∧ (if vkey t F.2.1 p then (p.1, p.2.1, p.2.2.1, 1000) else p).2.2.1 = p.2.2.1 := fun p => by split <;> exact ⟨rfl, rfl, rfl⟩
        refine VJ.ps (V := vsp V1 t) hjV ⟨?_, fun q hq => ?_⟩ ?_ (fun t' ht' h00 np' a1 a2 => ?_)
        · unfold vren
          rw [List.pairwise_map]
          refine hpsub.imp (fun {a b} g => ?_)
          rw [(hmap a).1, (hmap a).2.1, (hmap b).1]
          exact g
        · obtain ⟨p0, b1, b2, b3, b4, b5, b6⟩ := hmem q hq
          have := hj.2.1.2 p0 b1
          rw [b3, b4, b5]
          refine ⟨this.1, this.2.1, this.2.2.1, ?_⟩
          rcases b6 with ⟨b6, -⟩ | ⟨-, b6⟩ <;> omega
        · unfold vren
          rw [List.pairwise_map]
          refine List.Pairwise.imp_of_mem (fun {a b} ha hb g e => ?_) (hj.2.2.1.sublist (List.filter_sublist (p := fun q => !vkey t 1000 q)))
          obtain ⟨ha1, ha2⟩ := List.mem_filter.mp ha
          obtain ⟨hb1, hb2⟩ := List.mem_filter.mp hb
          simp [vkey] at ha2 hb2
          by_cases ca : vkey t F.2.1 a = true
          · by_cases cb : vkey t F.2.1 b = true
            · have ca : a.2.2.1 = t ∧ a.2.2.2 = F.2.1 := by simpa [vkey] using ca
              have cb : b.2.2.1 = t ∧ b.2.2.2 = F.2.1 := by simpa [vkey] using cb
              exact g ⟨by omega, by omega⟩
            · rw [if_pos ca, if_neg cb] at e
              have ca : a.2.2.1 = t ∧ a.2.2.2 = F.2.1 := by simpa [vkey] using ca
              have g1 : a.2.2.1 = b.2.2.1 := e.1
              have g2 : 1000 = b.2.2.2 := e.2
              omega
          · by_cases cb : vkey t F.2.1 b = true
            · rw [if_neg ca, if_pos cb] at e
              have cb : b.2.2.1 = t ∧ b.2.2.2 = F.2.1 := by simpa [vkey] using cb
              have g1 : a.2.2.1 = b.2.2.1 := e.1
              have g2 : a.2.2.2 = 1000 := e.2
              omega
            · rw [if_neg ca, if_neg cb] at e
              exact g e
        · have e22 : (vsp V1 t).2.2 = V.2.2 := by rw [vsp_22, e21]
          by_cases e : t' = t
          · subst e
            refine ⟨np - 1, hs.1, fun i gi => ?_⟩
            rw [show (vsp V1 t').2.2.1 = V.2.2.1 by rw [e22]] at gi
            rw [show (vsp V1 t').2.2.2 = V.2.2.2 by rw [e22]]
            refine ⟨(hs.2 i gi).1, vat_eq (vfind_ren (fun e => by have := hlt i gi; omega) |>.trans ?_)⟩
            rw [hps]
          · refine ⟨np', vsame_ot (V := vsp V1 t) e (fun q hq => ?_) (fun t2 n hne => ?_) a1 a2⟩
            · have g1 := hOT.2.2.2.1 q hq
              have g2 : q ∈ (vsp V1 t).2.1 ↔ q ∈ V.2.1 := by
                rw [hps, List.mem_filter]
                exact ⟨fun g => g.1, fun g => ⟨g, by simp [vkey]; omega⟩⟩
              exact g1.trans g2.symm
            · rw [hps]
              exact vfind_ren (fun e => hne e.1)
      · show (vsp V1 t).2.2 = V.2.2
        rw [vsp_22, e21]
      · obtain ⟨p0, b1, b2, b3, b4, b5, b6⟩ := hmem q hq
        rw [b4]
        exact hz p0 b1
      · rw [vlg1_at]
        show (vsp V1 t).1 2067 + 1 = _
        rw [k2', nI_1]
      · rw [vlg1_ne g1]
        show (vsp V1 t).1 i = _
        rw [vsp_w g1, ← hV1, vs_ne g2]
      · rw [vlg1_ne (by omega)]
        show (vsp V1 t).1 (4066 + t) = _
        rw [vsp_w (by omega), ← hV1, vs_at, hnp, li_sub (by omega)]
end
end
