/-! ===== a frame comes: VI ===== -/
section
variable {lim B B' t f bk np : Nat} {V V0 : vV} {a : Int32} {q : Option (Nat × Nat)}
theorem OT.pu (ht : t < 6) : OT t V (vpu V t f bk a q) := by
  obtain ⟨w1, -⟩ := vpu_w (V := V) (t := t) (f := f) (bk := bk) (a := a) (q := q)
  refine ⟨fun i hi => w1 i (by omega) (by omega) (by omega) (by omega) (by omega) (by omega), fun i h1 h2 => w1 i (by omega) (by omega) (by omega) (by omega) (by omega) (by omega), fun t' ht' hne => ⟨fun j hj => w1 _ (by omega) (by omega) (by omega) (by omega) (by omega) (by omega), by rw [vpu_2]; exact mj_upd_ne hne, by rw [vpu_2]; exact if_neg hne⟩, fun p _ => by rw [vpu_2], fun t' n _ => by rw [vpu_2], fun k hk t' ht' hne => by rw [w1 _ (by omega) (by omega) (by omega) (by omega) (by omega) (by omega)]⟩
theorem vi_pu (hI : VI lim B V0) (hO : OT t V0 V) (ht : t < 6) (hj : VJ lim V) (hz : ∀ q ∈ V.2.1, (V0.1 2048).toInt.toNat ≤ q.2.1) (hsd : Isd V.1) (hlg : ∃ k, k ≤ B' ∧ V.1 2067 = nI k) (hc : Icn V t np) (hr : vud V.1 (V.2.2.2 t) (np - 1) (V.2.2.1 t) + vwd V.1 f ≤ vln V.2.1 t (np - 1)) (hbz : vbz V.1 t) (htl : tld V.1 (V.1 (4052 + t))) (hf : f < 10) (hs1 : 1 ≤ vsz V.1 f)
    (hos : V.1 (3996 + t) = nI (vos V.1 (V.2.2.2 t) (V.2.2.1 t) + vfo V.1 (vfn V t f bk a q))) (hoB : vos V.1 (V.2.2.2 t) (V.2.2.1 t) + vfo V.1 (vfn V t f bk a q) ≤ 1000000)
    (hsi : (V.1 (3989 + t) = -1 ∧ vos V.1 (V.2.2.2 t) (V.2.2.1 t) + vfo V.1 (vfn V t f bk a q) = 0) ∨ ∃ k, k < 3 ∧ V.1 (3989 + t) = nI k ∧ V.1 (3923 + k) = nI t ∧ 1 ≤ vos V.1 (V.2.2.2 t) (V.2.2.1 t) + vfo V.1 (vfn V t f bk a q))
    (hb0 : V.2.2.1 t = 0 → bk = 0 ∨ bk = 1024) (hb : 0 < V.2.2.1 t → vbk V.1 (vfn V t f bk a q) (V.2.2.2 t (V.2.2.1 t - 1)) ∧ (vcv (V.2.2.2 t (V.2.2.1 t - 1)) → vcv (vfn V t f bk a q)))
    (hcv : vcv (vfn V t f bk a q) → ∃ d, vdp V.1 10 f = some d ∧ d ≤ (V.1 2051).toInt.toNat ∧ vud V.1 (V.2.2.2 t) (np - 1) (V.2.2.1 t) + d ≤ vln V.2.1 t (np - 1))
    (hq : bt (V.1 (2238 + f)) 0 → ∀ p, q = some p → p.1 < V.2.2.1 t ∧ p.2 < vsz V.1 (V.2.2.2 t p.1).1 ∧ ¬ bt (V.1 (2238 + (V.2.2.2 t p.1).1)) p.2) : VI lim B' (vpu V t f bk a q) := by
  obtain ⟨c1, c2, c3, c4, c5, c6, c7, c8⟩ := hc
  have hnp : vnp V t = np := vnp_of c2 c3.2
  obtain ⟨w1, w2, w3, w4, w5, w6⟩ := vpu_w (V := V) (t := t) (f := f) (bk := bk) (a := a) (q := q)
  have hOp : OT t V (vpu V t f bk a q) := OT.pu ht
  have hw := hOp.1
  have h2 := vpu_2 (V := V) (t := t) (f := f) (bk := bk) (a := a) (q := q)
  have hfr : (vpu V t f bk a q).2.2.2 t = mj_upd (V.2.2.2 t) (V.2.2.1 t) (vfn V t f bk a q) := by
    rw [h2]
    exact if_pos rfl
  have hF1 : (vfn V t f bk a q).2.1 = np - 1 := by rw [← hnp]; rfl
  have hF2 : (vfn V t f bk a q).2.2.1 = vud V.1 (V.2.2.2 t) (np - 1) (V.2.2.1 t) := by rw [← hnp]; rfl
  have hG : Geo V.1 V.2.1 t np (V.2.2.1 t + 1) (mj_upd (V.2.2.2 t) (V.2.2.1 t) (vfn V t f bk a q)) := Geo.psh (fun h => ⟨(c7 h).1, (c7 h).2.1⟩) (fun h => (c8 h).1) c3.1 hF1 hF2 hr
  have hE : Ifr V.1 V.2.1 t (V.2.2.1 t + 1) (mj_upd (V.2.2.2 t) (V.2.2.1 t) (vfn V t f bk a q)) := by
    refine Ifr.psh (fun h => (c7 h).2.2.1) ⟨hf, hs1⟩ hb0 hb (fun h => ?_) (fun k hk hbk p hp => ?_)
    · rw [hF1, hF2]; exact hcv h
    · have hp : (if k = 0 then q else none) = some p := hp
      by_cases e : k = 0
      · rw [if_pos e] at hp
        subst e
        exact hq hbk p hp
      · rw [if_neg e] at hp
        cases hp
  have hlt : ∀ j, j < V.2.2.1 t + 1 → (mj_upd (V.2.2.2 t) (V.2.2.1 t) (vfn V t f bk a q) j).1 < 10 := fun j hj' => (hE.1 j hj').1
  have hvo := vos_w hw hj.1 hE _ (Nat.le_refl _)
  have hsz := hj.1.sz hf
  refine hI.ot (B' := B') (hO.trans hOp) ht ?_ ?_ ?_ (Or.inl ⟨?_, V.2.2.1 t, np, ?_, ?_, ?_, c3, ?_, ?_, ?_, ?_, ?_, ?_, ?_, ?_, ⟨0, by omega, ?_⟩, ?_, ?_, ?_, ?_⟩)
  · rw [h2]
    exact ⟨hj.2.1, hj.2.2.1, hz⟩
  · intro k hk
    rw [w1 _ (by omega) (by omega) (by omega) (by omega) (by omega) (by omega)]
    rcases hsd k hk with e | ⟨t', g1, g2, g3⟩
    · exact Or.inl e
    · exact Or.inr ⟨t', g1, g2, (w1 _ (by omega) (by omega) (by omega) (by omega) (by omega) (by omega)).trans g3⟩
  · rw [w1 _ (by omega) (by omega) (by omega) (by omega) (by omega) (by omega)]
    exact hlg
  · unfold vbz at hbz ⊢
    rw [w1 _ (by omega) (by omega) (by omega) (by omega) (by omega) (by omega)]
    exact hbz
  · rw [h2]; exact mj_upd_self
  · rw [w5, c1, nI_1]
  · rw [w1 _ (by omega) (by omega) (by omega) (by omega) (by omega) (by omega)]; exact c2
  · rw [h2]; exact c4
  · rw [w1 _ (by omega) (by omega) (by omega) (by omega) (by omega) (by omega), h2]; exact c5
  · rw [hfr, h2]; exact hG.ww hw hlt
  · rw [hfr, mj_upd_self]; exact hF1
  · rw [hfr, h2]; exact hE.ww hw hj.1
  · rw [hfr, w6, (hw.us (k := 0) hlt).1, vus_psh, c6, hsz.1, li_add2, nI_add]
    rfl
  · have : vpl (vpu V t f bk a q) t (V.2.2.1 t) = vat V.2.1 t (vnp V t - 1) + vud V.1 (V.2.2.2 t) (vnp V t - 1) (V.2.2.1 t) := by
      unfold vpl
      rw [hfr, mj_upd_self, h2]
      rfl
    rw [w2, this]
  · rw [hfr, mj_upd_self, w3]
    rfl
  · rw [w4]; rfl
  · rw [hfr, hvo, vos_psh, w1 _ (by omega) (by omega) (by omega) (by omega) (by omega) (by omega)]
    exact hos
  · rw [hfr, hvo, vos_psh]; exact hoB
  · rw [hfr, hvo, vos_psh, w1 _ (by omega) (by omega) (by omega) (by omega) (by omega) (by omega)]
    rcases hsi with e | ⟨k, k1, k2, k3, k4⟩
    · exact Or.inl e
    · exact Or.inr ⟨k, k1, k2, (w1 _ (by omega) (by omega) (by omega) (by omega) (by omega) (by omega)).trans k3, k4⟩
  · rw [w1 _ (by omega) (by omega) (by omega) (by omega) (by omega) (by omega)]
    exact hw.tl.mpr htl
end
