/-! ===== room keeps what holds ===== -/
def vrs (t i : Nat) : Prop := vgs t i ∨ i = 4003 + t
section
variable {lim z t np k : Nat} {V : vV}
theorem vnd_ge {w : Nat → Int32} {f : Nat} (hp : Ipr w) (hf : f < 10) : vwd w f ≤ vnd w f := by
  unfold vnd
  split
  · rename_i c
    unfold vmg at c
    cases e : vdp w 10 f with
    | none => rw [e] at c; simp at c
    | some d => exact (vdp_le hp hf e).1
  · exact Nat.le_refl _
theorem vnd_le {w : Nat → Int32} {f : Nat} (hp : Ipr w) (hf : f < 10) : vnd w f ≤ 100 := by
  unfold vnd
  split
  · cases e : vdp w 10 f with
    | none => exact Nat.zero_le _
    | some d => exact (vdp_le hp hf e).2
  · have := (hp.wd hf).2; omega
/-- what room leaves -/
def Rout (lim : Nat) (V V1 : vV) (t z k need : Nat) : Prop := VJ lim V1 ∧ V1.2.2 = V.2.2 ∧ (∀ q ∈ V1.2.1, z ≤ q.2.1) ∧ (∃ k', k' ≤ k + 2 ∧ V1.1 2067 = nI k') ∧ (∀ i, ¬ vrs t i → V1.1 i = V.1 i) ∧ ∃ np2, Icn V1 t np2 ∧ vud V.1 (V.2.2.2 t) (np2 - 1) (V.2.2.1 t) + need ≤ vln V1.2.1 t (np2 - 1)
theorem vrm_inv {f : Nat} (hP : Vpre lim V t np z) (hf : f < 10) (hs1 : 1 ≤ vsz V.1 f) (hk : V.1 2067 = nI k) (hnc : ∀ i, i < V.2.2.1 t → ¬ vcv (V.2.2.2 t i)) :
    ((vrm lim V t f).1 = true → Rout lim V (vrm lim V t f).2 t z k (vnd V.1 f)) ∧ ((vrm lim V t f).1 = false → ∃ V2, (vrm lim V t f).2 = vot V2 t ∧ VJ lim V2 ∧ V2.2.2 = V.2.2 ∧ (∀ q ∈ V2.2.1, z ≤ q.2.1) ∧ (∃ k', k' ≤ k + 2 ∧ V2.1 2067 = nI k') ∧ (∀ i, ¬ vrs t i → V2.1 i = V.1 i) ∧ OT t V V2) ∧ OT t V (if (vrm lim V t f).1 then (vrm lim V t f).2 else V) := by
  have hP0 := hP
  obtain ⟨hj, hc, ht, hz, h8, hzl, hl, hl2, hq⟩ := hP
  have hP1 : Vpre lim (vcn (vinc V (4003 + t)) 3 1) t np z := Vpre.vs (V := vinc V (4003 + t)) (Vpre.vs hP0 (by omega) (by omega)) (by omega) (by omega)
  have hw1 : vpe V.1 (vcn (vinc V (4003 + t)) 3 1).1 := (vpe.upd (by omega)).trans (vpe.upd (by omega))
  have hkk : (vcn (vinc V (4003 + t)) 3 1).1 2067 = nI k := by rw [vcn_ne (by omega), vinc_ne (by omega)]; exact hk
  have hsc : ∀ i, ¬ vrs t i → (vcn (vinc V (4003 + t)) 3 1).1 i = V.1 i := fun i hi => by
    rw [vcn_ne (fun e => hi (Or.inl (by unfold vgs; omega))), vinc_ne (fun e => hi (Or.inr e))]
  have hOT1 : OT t V (vcn (vinc V (4003 + t)) 3 1) := (OT.inc ht (vown_t (c := 4003) (by omega))).trans (OT.cn ht (by omega))
  have hnp := vnp_of hc.2.1 hc.2.2.1.2
  have hnd := vnd_le (w := V.1) hj.1 hf
  have hnd2 := vnd_ge (w := V.1) hj.1 hf
  unfold vwd at hnd2
  unfold vrm
  dsimp only
  by_cases c : vtop V t + vnd V.1 f ≤ vend V t
  · rw [if_pos c]
    refine ⟨fun _ => ⟨hP1.1, rfl, hq, ⟨k, by omega, hkk⟩, hsc, np, hP1.2.1.n', ?_⟩, fun h => (by cases h), hOT1⟩
    rw [hc.top] at c
    unfold vend at c
    rw [hnp] at c
    show vud V.1 (V.2.2.2 t) (np - 1) (V.2.2.1 t) + vnd V.1 f ≤ vln V.2.1 t (np - 1)
    omega
  · rw [if_neg c]
    obtain ⟨v1, v2, v3, v4, v5, np2, v6, v7⟩ := vgr_inv (need := vnd V.1 f) hP1 ⟨by omega, hnd⟩ hkk hnc
    have hOT2 := hOT1.trans (OT.gr (lim := lim) (need := vnd V.1 f) (V := vcn (vinc V (4003 + t)) 3 1) ht)
    generalize hres : vgr lim (vcn (vinc V (4003 + t)) 3 1) t (vnd V.1 f) = res at *
    obtain ⟨b, V2⟩ := res
    have hsc2 : ∀ i, ¬ vrs t i → V2.1 i = V.1 i := fun i hi => by
      have := v5 i (fun h => hi (Or.inl h))
      exact this.trans (hsc i hi)
    cases b with
    | true =>
      refine ⟨fun _ => ⟨v1, v2, v3, v4, hsc2, np2, v6, ?_⟩, fun h => (by cases h), hOT2⟩
      have h1 := (v7 rfl).1
      have h2 : vud (vcn (vinc V (4003 + t)) 3 1).1 (V.2.2.2 t) (np2 - 1) (V.2.2.1 t) = vud V.1 (V.2.2.2 t) (np2 - 1) (V.2.2.1 t) := (hw1.us (fun i hi => (hj.fit ht hi).1)).2
      rw [← h2]
      exact h1
    | false =>
      refine ⟨fun h => (by cases h), fun _ => ⟨V2, rfl, v1, v2, v3, v4, hsc2, hOT2⟩, OT.refl⟩
end
/-! ### the reference calls -/
section
variable {s : wt_S} {V : vV} {t np f z k : Nat}
theorem q_calls_149 {bk z2 : Nat} {l6 iP v base a : Int32} {q : Option (Nat × Nat)} (h : RS s V) (hj : VJ 2048 V) (hc : Icn V t np) (ht : t < 6) (hf : f < 10) (hs1 : 1 ≤ vsz V.1 f) (hr2 : V.1 2051 = nI z2) (hz2 : z2 ≤ 80) (hr : vud V.1 (V.2.2.2 t) (np - 1) (V.2.2.1 t) + vwd V.1 f ≤ vln V.2.1 t (np - 1)) (hb : base = (if V.2.2.1 t = 0 then -1 else nI (vpl V t (V.2.2.1 t - 1))))
    (hv : (if rb (bt (V.1 (2238 + f)) 0) ≠ iP then vdf V.1 f 0 else v) = vsw V.1 (vpl V t) (vfn V t f (bk + if l6 ≠ 0 ∨ vmg V.1 f = true then 1024 else 0) a q) 0) (h4 : ∀ x, q = some x → x.1 < V.2.2.1 t) :
    ∃ s', gX11_calls_149 s (nI t) (nI f) (nI bk) l6 (nI (vnx V t)) iP v (nI (vnx V t)) base = some ((), s') ∧ RS s' (vpu V t f (bk + if l6 ≠ 0 ∨ vmg V.1 f = true then 1024 else 0) a q) ∧ RF s s' := by
  obtain ⟨hfit, hfree⟩ := hc.free hj ht hr
  have hfit0 := hfit
  unfold vwd at hfit
  have h1 : RS (wt_u s 111 (vnx V t) base) V := h.free (hfree _ (Nat.le_refl _) (by unfold vwd; omega)) (by omega)
  generalize hB : (bk + if l6 ≠ 0 ∨ vmg V.1 f = true then 1024 else 0) = B at *
  have h2 : RS (wt_u (wt_u s 111 (vnx V t) base) 111 (vnx V t + 1) (nI B)) V := h1.free (hfree _ (by omega) (by unfold vwd; omega)) (by omega)
  obtain ⟨s3, a1, a2, a3, a4, a5, a6⟩ := q_calls_185 (t := t) (iP := iP) (v := v) hf hs1 hj.1 hfit0 hfree (vsz V.1 f) 0 wt_N _ (by omega) (by have := (hj.1.sz hf).2; unfold wt_N; omega) h2 (fun j hj2 => absurd hj2 (by omega))
  rw [wt_u_nk (by omega), wt_u_self] at a5
  rw [wt_u_self] at a6
  have hvk : ∀ j, 0 < j → vsw V.1 (vpl V t) (vfn V t f B a q) j = vdf V.1 f j := fun j hj2 => by
    unfold vsw vdf
    show (if bt (V.1 (2238 + f)) j then (match (if j = 0 then q else none) with | none => (-1 : Int32) | some q => nI (vpl V t q.1 + 2 + q.2)) else (if j = 0 then a else 0)) = _
    rw [if_neg (show ¬ j = 0 by omega), if_neg (show ¬ j = 0 by omega)]
  have fin : ∀ s4, RS s4 V → s4 111 (vnx V t) = base → s4 111 (vnx V t + 1) = nI B → (∀ j, j < vsz V.1 f → s4 111 (vnx V t + 2 + j) = vsw V.1 (vpl V t) (vfn V t f B a q) j) → ∃ s', gX11_calls_269 s4 (nI t) (nI f) (nI (vnx V t)) = some ((), s') ∧ RS s' (vpu V t f B a q) ∧ RF s4 s' := fun s4 g1 g2 g3 g4 =>
    q_calls_269 (F := vfn V t f B a q) g1 hj hc ht hf rfl hr (g2.trans hb) g3 g4 h4
  have hend : ∃ s', (if rb (bt (V.1 (2238 + f)) 0) ≠ iP then gX11_calls_269 s3 (nI t) (nI f) (nI (vnx V t)) else gX11_calls_269 (wt_u s3 111 (vnx V t + 2) v) (nI t) (nI f) (nI (vnx V t))) = some ((), s') ∧ RS s' (vpu V t f B a q) ∧ RF s3 s' := by
    by_cases ci : rb (bt (V.1 (2238 + f)) 0) ≠ iP
    · rw [if_pos ci] at hv ⊢
      refine fin s3 a2 a5 a6 (fun j hj2 => ?_)
      rw [a4 j hj2]
      by_cases e : j = 0
      · subst e; exact hv
      · exact (hvk j (by omega)).symm
    · rw [if_neg ci] at hv ⊢
      obtain ⟨s', b1, b2, b3⟩ := fin (wt_u s3 111 (vnx V t + 2) v) (a2.free (hfree _ (by omega) (by unfold vwd; omega)) (by omega)) (by rw [wt_u_nk (by omega)]; exact a5) (by rw [wt_u_nk (by omega)]; exact a6) (fun j hj2 => by
        by_cases e : j = 0
        · subst e; rw [wt_u_self]; exact hv
        · rw [wt_u_nk (by omega), a4 j hj2]; exact (hvk j (by omega)).symm)
      exact ⟨s', b1, b2, RF.trans (RF.uf (Or.inl rfl)) b3⟩
  obtain ⟨s', b1, b2, b3⟩ := hend
  refine ⟨s', ?_, b2, RF.trans (RF.uf (Or.inl rfl)) (RF.trans (RF.uf (Or.inl rfl)) (RF.trans a3 b3))⟩
  unfold gX11_calls_149
  rw [q_lays0 h.1 (by omega), cl_some]
  have h178 : ∀ z3 : Int32, nI bk + z3 = nI B → gX11_calls_178 (wt_u s 111 (vnx V t) base) (nI t) (nI f) (nI (vnx V t)) iP v (nI (vnx V t) + 1) (nI bk) z3 = some ((), s') := fun z3 hz3 => by
    unfold gX11_calls_178
    rw [hz3, li_add2, q_lays0 h1.1 (by omega), cl_some, show (0 : Int32) = nI 0 from rfl]
    exact a1.trans b1
  by_cases c6 : l6 ≠ 0
  · rw [if_pos c6]
    unfold gX11_calls_171
    refine h178 1024 ?_
    rw [← hB, if_pos (Or.inl c6), li_add2]
  · rw [if_neg c6, q_merged h1 hj.1 hf hr2 hz2, cl_some, if_rb]
    by_cases cm : vmg V.1 f = true
    · rw [if_pos cm]
      unfold gX11_calls_171
      refine h178 1024 ?_
      rw [← hB, if_pos (Or.inr cm), li_add2]
    · rw [if_neg cm]
      refine h178 0 ?_
      rw [← hB, if_neg (fun e => e.elim c6 cm), Int32.add_zero, Nat.add_zero]
end
