/-! ===== a return keeps what always holds ===== -/
/-- a side is given back -/
theorem ot_sb {t k : Nat} {V : vV} (ht : t < 6) (hk : k < 3) (h : V.1 (3923 + k) = nI t) : OT t V (vs V (3923 + k) (-1)) := by
  refine ⟨vpe.upd (by omega), fun i h1 h2 => vs_ne (by omega), fun t' ht' hne => ⟨fun j hj => vs_ne (by omega), rfl, rfl⟩, fun _ _ => Iff.rfl, fun _ _ _ => rfl, fun k' hk' t' ht' hne => ?_⟩
  by_cases e : k' = k
  · subst e
    rw [vs_at, h]
    constructor
    · intro e; exact absurd e.symm (nI_m1 (by omega))
    · intro e; exact absurd ((nI_inj (by omega) (by omega)).mp e).symm hne
  · rw [vs_ne (by omega)]
theorem vos_1 {w : Nat → Int32} {fr : Nat → vF} {n : Nat} : vos w fr (n + 1) = vos w fr n + vfo w (fr n) := rfl
theorem vus_1 {w : Nat → Int32} {fr : Nat → vF} {n : Nat} : vus w fr (n + 1) = vus w fr n + vwd w (fr n).1 := rfl
section
variable {lim B B' t np2 m : Nat} {V V2 : vV} {v : Int32}
theorem rt_last {np np2 F1 F2 m1 m2 wd : Nat} (hnp2 : np2 = if F2 ≠ 0 ∨ F1 = 0 then np else np - 1) (hF : F1 = np - 1) (hm : m1 < np) (hw : 2 ≤ wd) (hg : (F1 = m1 ∧ F2 = m2 + wd) ∨ (F1 = m1 + 1 ∧ F2 = 0)) (hn : 1 ≤ np ∧ np ≤ 256) : m1 = np2 - 1 ∧ (1 ≤ np2 ∧ np2 ≤ 256) ∧ (np = 1 → np2 = 1) := by
  rw [hnp2]
  split <;> omega
/-- the last frame has gone, and what it left: before the slot comes and a foreign call is over -/
def vrb (V2 : vV) (t m : Nat) (F : vF) : vV := vs (vs (vs V2 (3982 + t) (nI (vpl V2 t m))) (3975 + t) (nI (F.2.2.2.1 % 1024 / 32))) (3968 + t) (nI (F.2.2.2.1 % 32))
theorem vfv_a {words : Int32} (h : 0 < (V.1 (3996 + t) - words).toInt) : vfv V t words = vs (vcn V 9 1) (3996 + t) (V.1 (3996 + t) - words) := by
  unfold vfv
  dsimp only
  rw [if_pos (by rw [vs_at]; exact h)]
theorem vfv_b {words : Int32} (h : ¬ 0 < (V.1 (3996 + t) - words).toInt) : vfv V t words = vs (vs (vs (vcn V 9 1) (3996 + t) (V.1 (3996 + t) - words)) (3923 + (V.1 (3989 + t)).toInt.toNat) (-1)) (3989 + t) (-1) := by
  unfold vfv
  dsimp only
  rw [if_neg (by rw [vs_at]; exact h)]
theorem vfv_nu {words : Int32} {i k : Nat} : vfv (vnu V t i k v) t words = vnu (vfv V t words) t i k v := by
  by_cases c : 0 < (V.1 (3996 + t) - words).toInt
  · rw [vfv_a (V := V) c, vfv_a (V := vnu V t i k v) c]
    rfl
  · rw [vfv_b (V := V) c, vfv_b (V := vnu V t i k v) c]
    rfl
theorem OT.rb {F : vF} (ht : t < 6) : OT t V2 (vrb V2 t m F) := OT.trans (OT.trans (OT.vs ht (vown_t (c := 3982) (by omega))) (OT.vs ht (vown_t (c := 3975) (by omega)))) (OT.vs ht (vown_t (c := 3968) (by omega)))
theorem vrb_ne {F : vF} {i : Nat} (h1 : i ≠ 3982 + t) (h2 : i ≠ 3975 + t) (h3 : i ≠ 3968 + t) : (vrb V2 t m F).1 i = V2.1 i := (vs_ne h3).trans ((vs_ne h2).trans (vs_ne h1))
theorem vrb_at {F : vF} : (vrb V2 t m F).1 (3982 + t) = nI (vpl V2 t m) ∧ (vrb V2 t m F).1 (3975 + t) = nI (F.2.2.2.1 % 1024 / 32) ∧ (vrb V2 t m F).1 (3968 + t) = nI (F.2.2.2.1 % 32) :=
  ⟨(vs_ne (by omega)).trans ((vs_ne (by omega)).trans vs_at), (vs_ne (by omega)).trans vs_at, vs_at⟩
end
section
variable {lim B t np np2 m k : Nat} {V V2 V5 : vV} {v : Int32}
/-- all of it but the sides -/
theorem vi_rb (hI : VI lim B V) (ht : t < 6) (hbz : vbz V.1 t) (hb : Ibz lim V t) (hn : V.2.2.1 t = m + 2) (hnp : V.1 (4066 + t) = nI np) (hn256 : np ≤ 256) (hO : OT t V V2) (hj2 : VJ lim V2) (e22 : V2.2.2.1 t = m + 1) (e23 : V2.2.2.2 t = V.2.2.2 t) (hz : ∀ q ∈ V2.2.1, (V.1 2048).toInt.toNat ≤ q.2.1) (hlg : ∃ k, k ≤ B + 2 ∧ V2.1 2067 = nI k)
    (hnp2 : np2 = (if (V.2.2.2 t (m + 1)).2.2.1 ≠ 0 ∨ (V.2.2.2 t (m + 1)).2.1 = 0 then np else np - 1)) (hn4 : V2.1 (4066 + t) = nI np2) (hsm : Itp V2.2.1 t np2 ∧ ∀ i, i < m + 1 → (V.2.2.2 t i).2.1 < np2 ∧ vat V2.2.1 t (V.2.2.2 t i).2.1 = vat V.2.1 t (V.2.2.2 t i).2.1 ∧ vln V2.2.1 t (V.2.2.2 t i).2.1 = vln V.2.1 t (V.2.2.2 t i).2.1)
    (hm0 : V.1 (3933 + t) = 0 → V2.2.1 = V.2.1) (hs : ∀ c, (c = 3933 ∨ c = 3926 ∨ c = 4052) → V2.1 (c + t) = V.1 (c + t)) (hs1 : V2.1 (3954 + t) = V.1 (3954 + t) - 1) (hs2 : V2.1 (3961 + t) = V.1 (3961 + t) - (V.1 (2228 + (V.2.2.2 t (m + 1)).1) + 2))
    (h52 : V5.2 = (vrb V2 t m (V.2.2.2 t (m + 1))).2) (h5w : ∀ c, (c = 3954 ∨ c = 4066 ∨ c = 3933 ∨ c = 3961 ∨ c = 3982 ∨ c = 3975 ∨ c = 3968 ∨ c = 3926 ∨ c = 4052) → V5.1 (c + t) = (vrb V2 t m (V.2.2.2 t (m + 1))).1 (c + t)) (h5l : V5.1 2067 = V2.1 2067) (hO5 : OT t V2 V5) (hsd : Isd V5.1)
    (h5a : V5.1 (3996 + t) = nI (vos V.1 (V.2.2.2 t) (m + 1))) (h5b : (V5.1 (3989 + t) = -1 ∧ vos V.1 (V.2.2.2 t) (m + 1) = 0) ∨ ∃ k, k < 3 ∧ V5.1 (3989 + t) = nI k ∧ V5.1 (3923 + k) = nI t ∧ 1 ≤ vos V.1 (V.2.2.2 t) (m + 1)) : VI lim (B + 2) V5 := by
  obtain ⟨n, np', c1, c2, c3, c4, c5, c6, c7, c8, c9, c10, c11, c12, c13, c14, c15, c16, c17⟩ := hb
  have hnm : n = m + 1 := by omega
  subst hnm
  have hw : vpe V.1 V5.1 := (hO.trans hO5).1
  have hfr : V5.2.2.2 t = V.2.2.2 t := by rw [h52]; exact e23
  have hps : V5.2.1 = V2.2.1 := by rw [h52]; rfl
  have hN5 : V5.2.2.1 t = m + 1 := by rw [h52]; exact e22
  have hnpe : np' = np := by
    rw [c3] at hnp
    exact (nI_inj (by omega) (by omega)).mp hnp
  subst hnpe
  have hwm : 2 ≤ vwd V.1 (V.2.2.2 t m).1 := by unfold vwd; omega
  have hg := c7.2.2 m (by omega)
  obtain ⟨hlast, hn2, hn1'⟩ := rt_last hnp2 c8 (c7.1 m (by omega)).1 hwm hg c4
  have hff : ∀ i, i < m + 1 → (V.2.2.2 t i).1 < 10 := fun i hi => (c9.1 i (by omega)).1
  obtain ⟨b1, b2, b3, b4, b5⟩ := c9.2.2.1 m (by omega)
  have hli := (hI.2.1.li (hff m (by omega))).2
  have hvos : vos V5.1 (V.2.2.2 t) (m + 1) = vos V.1 (V.2.2.2 t) (m + 1) := vos_w hw hI.2.1 c9 _ (by omega)
  have hvus : vus V5.1 (V.2.2.2 t) (m + 1) = vus V.1 (V.2.2.2 t) (m + 1) := (hw.us (k := 0) hff).1
  have hwd := (hI.2.1.wd (c9.1 (m + 1) (by omega)).1).1
  refine hI.ot (hO.trans hO5) ht ⟨by rw [hps]; exact hj2.2.1, by rw [hps]; exact hj2.2.2.1, by rw [hps]; exact hz⟩ hsd (by rw [h5l]; exact hlg) (Or.inl ⟨?_, m, np2, hN5, ?_, ?_, hn2, ?_, ?_, ?_, ?_, ?_, ?_, ?_, ?_, ?_, ?_, ?_, ?_, ?_⟩)
  · unfold vbz at hbz ⊢
    rw [h5w 3926 (by omega), vrb_ne (by omega) (by omega) (by omega), hs 3926 (by omega)]
    exact hbz
  · rw [h5w 3954 (by omega), vrb_ne (by omega) (by omega) (by omega), hs1, c2, li_sub (by omega)]
    rfl
  · rw [h5w 4066 (by omega), vrb_ne (by omega) (by omega) (by omega)]
    exact hn4
  · rw [hps]; exact hsm.1
  · rw [h5w 3933 (by omega), vrb_ne (by omega) (by omega) (by omega), hs 3933 (by omega), hps]
    rcases c6 with ⟨e1, e2, e3⟩ | e
    · left
      exact ⟨e1, hn1' e2, by rw [hm0 e1]; exact e3⟩
    · exact Or.inr e
  · rw [hfr, hps]
    exact ((c7.less (n' := m + 1) (by omega)).ps (fun i hi => ⟨(hsm.2 i hi).1, (hsm.2 i hi).2.2⟩)).ww hw hff
  · rw [hfr]; exact hlast
  · rw [hfr, hps]
    exact ((c9.less (n' := m + 1) (by omega)).ps (fun i hi => (hsm.2 i hi).2.2)).ww hw hI.2.1
  · rw [h5w 3961 (by omega), vrb_ne (by omega) (by omega) (by omega), hs2, c10, hwd, hfr, hvus, vus_1 (n := m + 1), nI_sub (by omega)]
    congr 1
    omega
  · rw [h5w 3982 (by omega), vrb_at.1]
    unfold vpl
    rw [hfr, hps, e23]
  · rw [h5w 3975 (by omega), vrb_at.2.1, hfr, b2]
  · exact ⟨(V.2.2.2 t (m + 1)).2.2.2.1 % 32, by omega, by rw [h5w 3968 (by omega), vrb_at.2.2]⟩
  · rw [hfr, hvos]; exact h5a
  · rw [hfr, hvos]
    have : vos V.1 (V.2.2.2 t) (m + 1) ≤ vos V.1 (V.2.2.2 t) (m + 1 + 1) := by rw [vos_1 (n := m + 1)]; omega
    omega
  · rw [hfr, hvos]; exact h5b
  · rw [h5w 4052 (by omega), vrb_ne (by omega) (by omega) (by omega), hs 4052 (by omega)]
    exact hw.tl.mpr c17
end
section
variable {lim B t : Nat} {V : vV} {v : Int32}
theorem vi_rt {Z : (Nat → Int32) → Int32 → Int32 → Int32 → Bool} (hI : VI lim B V) (ht : t < 6) (hb : vbz V.1 t) (hlm : lim ≤ 10000) : VI lim (B + 2) (vrt Z V t v) := by
  obtain ⟨np, z, z2, z3, k, l, hP, h0, hhot, hr, hz3, ⟨hk, hkB⟩, hl, hs, htl, hcb⟩ := hI.opn ht hb hlm
  obtain ⟨hj, hc, -, hz, h8, hzl, -, hl2, hq⟩ := hP
  obtain ⟨d1, d2, d3, d4, d5⟩ := hc.2.2.2.2.2.2.1 h0
  obtain ⟨-, hbz⟩ := hI.bz ht h0
  have hzz : (V.1 2048).toInt.toNat = z := by rw [hz, nI_int (by omega)]; rfl
  obtain ⟨n, hn⟩ : ∃ n, V.2.2.1 t = n + 1 := ⟨V.2.2.1 t - 1, by omega⟩
  by_cases c0 : n = 0
  · subst c0
    have e : vrt Z V t v = vdn Z (vnf (vs (vs V (3961 + t) (V.1 (3961 + t) - (V.1 (2228 + (V.2.2.2 t 0).1) + 2))) (3954 + t) (V.1 (3954 + t) - 1)) t 0) t v := by
      unfold vrt
      rw [hn]
      rfl
    rw [e]
    exact (vi_dn hI ht).mono (by omega)
  · obtain ⟨m, rfl⟩ : ∃ m, n = m + 1 := ⟨n - 1, by omega⟩
    rw [hn] at d1 d2 d3 d4 d5 hcb
    rw [Nat.add_sub_cancel] at d2 d4 d5 hcb
    generalize hFF : V.2.2.2 t (m + 1) = F at *
    generalize hVV : vnf (vs (vs V (3961 + t) (V.1 (3961 + t) - (V.1 (2228 + F.1) + 2))) (3954 + t) (V.1 (3954 + t) - 1)) t (m + 1) = V1
    have hjv : VJ lim (vs (vs V (3961 + t) (V.1 (3961 + t) - (V.1 (2228 + F.1) + 2))) (3954 + t) (V.1 (3954 + t) - 1)) := VJ.vs (VJ.vs hj (by omega)) (by omega)
    have hj1 : VJ lim V1 := by rw [← hVV]; exact hjv.nf (by show m + 1 ≤ V.2.2.1 t; omega)
    have hat : ∀ i, i ≠ 3961 + t → i ≠ 3954 + t → V1.1 i = V.1 i := fun i g1 g2 => by rw [← hVV]; exact (vs_ne g2).trans (vs_ne g1)
    have hat1 : V1.1 (3954 + t) = V.1 (3954 + t) - 1 := by rw [← hVV]; exact vs_at
    have hat2 : V1.1 (3961 + t) = V.1 (3961 + t) - (V.1 (2228 + F.1) + 2) := by rw [← hVV]; exact (vs_ne (by omega)).trans vs_at
    have hn1 : V1.2.2.1 t = m + 1 := by rw [← hVV]; exact mj_upd_self
    have hf1 : V1.2.2.2 = V.2.2.2 := by rw [← hVV]; rfl
    have hp1 : V1.2.1 = V.2.1 := by rw [← hVV]; rfl
    have hO1 : OT t V V1 := by
      rw [← hVV]
      exact OT.trans (OT.trans (OT.vs ht (vown_t (c := 3961) (by omega))) (OT.vs ht (vown_t (c := 3954) (by omega)))) OT.nf
    have hk1 : V1.1 2067 = nI k := by rw [hat _ (by omega) (by omega)]; exact hk
    have hi1 : Itp V1.2.1 t np := by rw [hp1]; exact hc.2.2.2.1
    have hof : F.2.2.1 = 0 → np ≠ 1 → vnof V1 t (np - 1) := fun e1 _ i gi => by
      rw [hn1] at gi
      rw [hf1]
      have := d1.drop (by rw [hFF]; exact e1) (fun i _ => by unfold vwd; omega) i gi
      rw [hFF] at this
      omega
    have hlt : ∀ i, i < V1.2.2.1 t → (V1.2.2.2 t i).2.1 < np := fun i gi => by
      rw [hn1] at gi
      rw [hf1]
      exact (d1.1 i (by omega)).1
    -- behind leaving
    obtain ⟨V2, hV2, x1, x2, x3, x4, x5, np2, x6, x7, x8, x9, xO⟩ : ∃ V2, V2 = (if V.1 (3933 + t) = 1 then vlv V1 t F else V1) ∧ VJ lim V2 ∧ V2.2.2 = V1.2.2 ∧ (∀ q ∈ V2.2.1, z ≤ q.2.1) ∧ (∃ k', k' ≤ k + 2 ∧ V2.1 2067 = nI k') ∧ (∀ i, i ≠ 2067 → i ≠ 4066 + t → V2.1 i = V1.1 i) ∧ ∃ np2, np2 = (if F.2.2.1 ≠ 0 ∨ F.2.1 = 0 then np else np - 1) ∧ V2.1 (4066 + t) = nI np2 ∧ vsame V1 V2.2.1 t np np2 ∧ (V.1 (3933 + t) = 0 → V2.2.1 = V.2.1) ∧ OT t V1 V2 := by
      by_cases cm : V.1 (3933 + t) = 1
      · refine ⟨_, (if_pos cm).symm, ?_⟩
        obtain ⟨v1, v2, v3, v4, v5, np2, v6, v7, v8⟩ := vlv_inv (F := F) (z := z) (lim := lim) hj1 ht (by rw [hat _ (by omega) (by omega)]; exact hc.2.1) hc.2.2.1 hi1 d2 hof hlt hk1 (by rw [hp1]; exact hq)
        exact ⟨v1, v2, v3, v4, v5, np2, v6, v7, v8, fun e => by rw [cm] at e; exact absurd e (by decide), OT.lv ht⟩
      · refine ⟨V1, (if_neg cm).symm, hj1, rfl, by rw [hp1]; exact hq, ⟨k, by omega, hk1⟩, fun _ _ _ => rfl, np, ?_, by rw [hat _ (by omega) (by omega)]; exact hc.2.1, ⟨hi1, fun i hi => ⟨hlt i hi, rfl, rfl⟩⟩, fun _ => hp1, OT.refl⟩
        rcases hc.2.2.2.2.1 with ⟨-, e, -⟩ | e
        · rw [if_pos (Or.inr (by omega))]
        · exact absurd e cm
    have hrt : vrt Z V t v = (if 2048 ≤ F.2.2.2.1 then vfv (vnu (vrb V2 t m F) t m (V.1 (vco (F.2.2.2.1 % 1024 / 32) (F.2.2.2.1 % 32 - 1) + 3)).toInt.toNat v) t (V.1 (vco (F.2.2.2.1 % 1024 / 32) (F.2.2.2.1 % 32 - 1) + 1)) else vnu (vrb V2 t m F) t m (V.1 (vco (F.2.2.2.1 % 1024 / 32) (F.2.2.2.1 % 32 - 1) + 3)).toInt.toNat v) := by
      unfold vrt
      dsimp only
      rw [hn, Nat.add_sub_cancel, hFF, hVV, ← hV2, if_neg (by omega), Nat.add_sub_cancel]
      rfl
    have hO2 : OT t V V2 := hO1.trans xO
    have e23 : V2.2.2.2 = V.2.2.2 := by rw [x2, hf1]
    have e22 : V2.2.2.1 t = m + 1 := by rw [x2, hn1]
    have hsm : Itp V2.2.1 t np2 ∧ ∀ i, i < m + 1 → (V.2.2.2 t i).2.1 < np2 ∧ vat V2.2.1 t (V.2.2.2 t i).2.1 = vat V.2.1 t (V.2.2.2 t i).2.1 ∧ vln V2.2.1 t (V.2.2.2 t i).2.1 = vln V.2.1 t (V.2.2.2 t i).2.1 := by
      refine ⟨x8.1, fun i hi => ?_⟩
      have := x8.2 i (by rw [hn1]; exact hi)
      rw [hf1, hp1] at this
      exact this
    have hw2 : ∀ i, i ≠ 2067 → i ≠ 4066 + t → i ≠ 3961 + t → i ≠ 3954 + t → V2.1 i = V.1 i := fun i g1 g2 g3 g4 => (x5 i g1 g2).trans (hat i g3 g4)
    have key := fun (V5 : vV) => vi_rb (V5 := V5) (V2 := V2) (m := m) (np := np) (np2 := np2) hI ht hb hbz (by omega) hc.2.1 (by have := hc.2.2.1; omega) hO2 x1 e22 (by rw [e23]) (by rw [hzz]; exact x3) (by obtain ⟨k', g1, g2⟩ := x4; exact ⟨k', by omega, g2⟩) (by rw [hFF]; exact x6) x7 hsm x9 (fun c hc => hw2 _ (by omega) (by omega) (by omega) (by omega)) (by rw [x5 _ (by omega) (by omega)]; exact hat1) (by rw [x5 _ (by omega) (by omega), hFF]; exact hat2)
    rw [hFF] at key
    obtain ⟨n', np', c1, c2, c3, c4, c5, c6, c7, c8, c9, c10, c11, c12, c13, c14, c15, c16, c17⟩ := hbz
    have hnm : n' = m + 1 := by omega
    subst hnm
    rw [vos_1 (n := m + 1), hFF] at c14 c15 c16
    have hvb := c9.2.2.1 m (by omega)
    rw [hFF] at hvb
    obtain ⟨b1, b2, b3, b4, b5⟩ := hvb
    have hfm := (c9.1 m (by omega)).1
    have hsd2 : Isd V2.1 := isd_ot hI.2.2.2.1 hO2 (fun i hi => hw2 i (by omega) (by omega) (by omega) (by omega))
    rw [hrt]
    by_cases cc : 2048 ≤ F.2.2.2.1
    · rw [if_pos cc, vfv_nu]
      obtain ⟨x, e1, e2, e3⟩ : ∃ x, V.1 (vco (F.2.2.2.1 % 1024 / 32) (F.2.2.2.1 % 32 - 1) + 1) = nI x ∧ 1 ≤ x ∧ x ≤ 40 := by
        have hv := (hI.2.1 _ hfm).2.2 _ b4
        unfold vlin vcan at hv
        rcases b5 with ⟨b5, -⟩ | ⟨-, b5, -⟩
        · omega
        · obtain ⟨⟨x, y1, y2, y3⟩, -⟩ := hv.2.2.2.2.2.2.2.2.2 b5
          exact ⟨x, by rw [b2]; exact y1, y2, y3⟩
      have hfo : vfo V.1 F = x := by
        unfold vfo
        rw [if_pos cc, e1, nI_int (by omega)]
        rfl
      rw [hfo] at c14 c15 c16
      rw [e1]
      refine vi_nu ?_ ht
      have g : ∀ i, i ≠ 3982 + t → i ≠ 3975 + t → i ≠ 3968 + t → i ≠ 2067 → i ≠ 4066 + t → i ≠ 3961 + t → i ≠ 3954 + t → (vrb V2 t m F).1 i = V.1 i := fun i g1 g2 g3 g4 g5 g6 g7 => (vrb_ne g1 g2 g3).trans (hw2 i g4 g5 g6 g7)
      rcases c16 with ⟨-, c16⟩ | ⟨ks, k1, k2, k3, k4⟩
      · omega
      have hOr : OT t V2 (vrb V2 t m F) := OT.rb ht
      have hsdr : Isd (vrb V2 t m F).1 := isd_ot hsd2 hOr (fun i hi => vrb_ne (by omega) (by omega) (by omega))
      have r52 : (vrb V2 t m F).1 2067 = V2.1 2067 := vrb_ne (by omega) (by omega) (by omega)
      have r96 : (vrb V2 t m F).1 (3996 + t) - nI x = nI (vos V.1 (V.2.2.2 t) (m + 1)) := by
        rw [g _ (by omega) (by omega) (by omega) (by omega) (by omega) (by omega) (by omega), c14, nI_sub (by omega)]
        congr 1
        omega
      have r89 : (vrb V2 t m F).1 (3989 + t) = nI ks := by rw [g _ (by omega) (by omega) (by omega) (by omega) (by omega) (by omega) (by omega)]; exact k2
      have r23 : (vrb V2 t m F).1 (3923 + ks) = nI t := by rw [g _ (by omega) (by omega) (by omega) (by omega) (by omega) (by omega) (by omega)]; exact k3
      generalize hR : vrb V2 t m F = R at *
      by_cases cv : 0 < vos V.1 (V.2.2.2 t) (m + 1)
      · rw [vfv_a (by rw [r96, nI_int (by omega)]; omega), r96]
        have gg : ∀ i, i ≠ 2063 → i ≠ 3996 + t → (vs (vcn R 9 1) (3996 + t) (nI (vos V.1 (V.2.2.2 t) (m + 1)))).1 i = R.1 i := fun i q1 q2 => (vs_ne q2).trans (vcn_ne (by omega))
        have hO6 : OT t R (vs (vcn R 9 1) (3996 + t) (nI (vos V.1 (V.2.2.2 t) (m + 1)))) := OT.trans (OT.cn ht (by omega)) (OT.vs ht (vown_t (c := 3996) (by omega)))
        refine key _ rfl (fun c hc => gg _ (by omega) (by omega)) ((gg _ (by omega) (by omega)).trans r52) (hOr.trans hO6) (isd_ot hsdr hO6 (fun i hi => gg i (by omega) (by omega))) vs_at (Or.inr ⟨ks, k1, (gg _ (by omega) (by omega)).trans r89, (gg _ (by omega) (by omega)).trans r23, cv⟩)
      · rw [vfv_b (by rw [r96, nI_int (by omega)]; omega), r96, r89, nI_int (by omega), Int.toNat_natCast]
        have gg : ∀ i, i ≠ 2063 → i ≠ 3996 + t → i ≠ 3923 + ks → i ≠ 3989 + t → (vs (vs (vs (vcn R 9 1) (3996 + t) (nI (vos V.1 (V.2.2.2 t) (m + 1)))) (3923 + ks) (-1)) (3989 + t) (-1)).1 i = R.1 i := fun i q1 q2 q3 q4 => (vs_ne q4).trans ((vs_ne q3).trans ((vs_ne q2).trans (vcn_ne (by omega))))
        have hO6 : OT t R (vs (vcn R 9 1) (3996 + t) (nI (vos V.1 (V.2.2.2 t) (m + 1)))) := OT.trans (OT.cn ht (by omega)) (OT.vs ht (vown_t (c := 3996) (by omega)))
        have hO7 : OT t R (vs (vs (vs (vcn R 9 1) (3996 + t) (nI (vos V.1 (V.2.2.2 t) (m + 1)))) (3923 + ks) (-1)) (3989 + t) (-1)) := OT.trans (OT.trans hO6 (ot_sb ht k1 ((vs_ne (by omega)).trans ((vcn_ne (by omega)).trans r23)))) (OT.vs ht (vown_t (c := 3989) (by omega)))
        refine key _ rfl (fun c hc => gg _ (by omega) (by omega) (by omega) (by omega)) ((gg _ (by omega) (by omega) (by omega) (by omega)).trans r52) (hOr.trans hO7) ?_ ((vs_ne (by omega)).trans ((vs_ne (by omega)).trans vs_at)) (Or.inl ⟨vs_at, by omega⟩)
        intro k' hk'
        by_cases e : k' = ks
        · subst e
          exact Or.inl ((vs_ne (by omega)).trans vs_at)
        · rw [gg _ (by omega) (by omega) (by omega) (by omega)]
          rcases hsdr k' hk' with h1 | ⟨t', h1, h2, h3⟩
          · exact Or.inl h1
          · refine Or.inr ⟨t', h1, h2, ?_⟩
            by_cases et : t' = t
            · subst et
              rw [r89] at h3
              exact absurd ((nI_inj (by omega) (by omega)).mp h3).symm e
            · exact (gg _ (by omega) (by omega) (by omega) (by omega)).trans h3
    · rw [if_neg cc]
      have hfo : vfo V.1 F = 0 := by unfold vfo; rw [if_neg cc]
      rw [hfo, Nat.add_zero] at c14 c15 c16
      have g : ∀ i, i ≠ 3982 + t → i ≠ 3975 + t → i ≠ 3968 + t → i ≠ 2067 → i ≠ 4066 + t → i ≠ 3961 + t → i ≠ 3954 + t → (vrb V2 t m F).1 i = V.1 i := fun i g1 g2 g3 g4 g5 g6 g7 => (vrb_ne g1 g2 g3).trans (hw2 i g4 g5 g6 g7)
      refine vi_nu (key (vrb V2 t m F) rfl (fun _ _ => rfl) (vrb_ne (by omega) (by omega) (by omega)) (OT.rb ht) ?_ ?_ ?_) ht
      · exact isd_ot hsd2 (OT.rb ht) (fun i hi => vrb_ne (by omega) (by omega) (by omega))
      · rw [g _ (by omega) (by omega) (by omega) (by omega) (by omega) (by omega) (by omega)]
        exact c14
      · rw [g _ (by omega) (by omega) (by omega) (by omega) (by omega) (by omega) (by omega)]
        rcases c16 with c16 | ⟨k, k1, k2, k3, k4⟩
        · exact Or.inl c16
        · exact Or.inr ⟨k, k1, k2, (g _ (by omega) (by omega) (by omega) (by omega) (by omega) (by omega) (by omega)).trans k3, k4⟩
end
