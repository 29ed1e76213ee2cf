/-! ===== a foreign call keeps what always holds ===== -/
theorem bk_f {g l : Nat} (hg : g < 10) (hl : l < 16) : (2048 ≤ 32 * g + (l + 1) + 2048 ∧ 32 * g + (l + 1) + 2048 < 3072) ∧ (32 * g + (l + 1) + 2048) % 1024 / 32 = g ∧ (32 * g + (l + 1) + 2048) % 32 = l + 1 := by omega
section
variable {lim B t l x : Nat} {V V1 : vV} {v : Int32}
/-- its state is another one of the two -/
theorem vi_sta (hI : VI lim B V) (ht : t < 6) (hb : vbz V.1 t) (hv : v = 1 ∨ v = 2) : VI lim B (vs V (3926 + t) v) := by
  refine hI.ot (B' := B) (OT.vs (v := v) ht (vown_t (c := 3926) (by omega))) ht ⟨hI.2.2.1.1, hI.2.2.1.2.1, hI.2.2.1.2.2⟩ ?_ ?_ ?_
  · exact isd_ot hI.2.2.2.1 (OT.vs (v := v) ht (vown_t (c := 3926) (by omega))) (fun i hi => vs_ne (by omega))
  · obtain ⟨k, k1, k2⟩ := hI.2.2.2.2.1
    exact ⟨k, k1, (vs_ne (by omega)).trans k2⟩
  · rcases hI.2.2.2.2.2 t ht with ⟨b1, b2⟩ | b
    · refine Or.inl ⟨?_, b2.vs hI.2.1 (by omega) (by omega) (fun e => absurd e (by omega))⟩
      unfold vbz
      rw [vs_at]
      exact hv
    · exfalso
      rcases hb with e | e <;> rcases b.2.2.2.2.2.2.2.1 with g | g | g <;> rw [e] at g <;> exact absurd g (by decide)
/-- a side is taken -/
theorem ot_st {k : Nat} (ht : t < 6) (hk : k < 3) (h : V.1 (3923 + k) = -1) : OT t V (vs V (3923 + k) (nI t)) := by
  refine ⟨vpe.upd (by omega), fun i h1 h2 => vs_ne (by omega), fun t' ht' hne => ⟨fun j hj => vs_ne (by omega), rfl, rfl⟩, fun _ _ => Iff.rfl, fun _ _ _ => rfl, fun k' hk' t' ht' hne => ?_⟩
  by_cases e : k' = k
  · subst e
    rw [vs_at, h]
    constructor
    · intro e; exact absurd ((nI_inj (by omega) (by omega)).mp e).symm hne
    · intro e; exact absurd e.symm (nI_m1 (by omega))
  · rw [vs_ne (by omega)]
/-- with a side of its own -/
theorem vsd_ot (hI : VI lim B V) (ht : t < 6) (hz : (V.1 2052).toInt.toNat ≤ 3) (h : vsd V t = some V1) : OT t V V1 ∧ Isd V1.1 ∧ V1.2 = V.2 ∧ (∃ k, k < 3 ∧ V1.1 (3989 + t) = nI k ∧ V1.1 (3923 + k) = nI t ∧ (V.1 (3989 + t) = -1 → V.1 (3923 + k) = -1) ∧ ∀ i, i ≠ 3989 + t → i ≠ 3923 + k → V1.1 i = V.1 i) ∧ (V.1 (3989 + t) ≠ -1 → V1 = V) := by
  unfold vsd at h
  split at h
  · rename_i c
    split at h
    · cases h
    · rename_i y e
      cases h
      obtain ⟨e1, e2, e3⟩ := vfs_lt e
      have hO : OT t V (vs (vs V (3923 + y) (nI t)) (3989 + t) (nI y)) := OT.trans (ot_st ht (by omega) e3) (OT.vs ht (vown_t (c := 3989) (by omega)))
      refine ⟨hO, fun k hk => ?_, rfl, ⟨y, by omega, vs_at, (vs_ne (by omega)).trans vs_at, fun _ => e3, fun i g1 g2 => (vs_ne g1).trans (vs_ne g2)⟩, fun e => absurd c e⟩
      by_cases ek : k = y
      · subst ek
        exact Or.inr ⟨t, ht, (vs_ne (by omega)).trans vs_at, vs_at⟩
      · rw [vs_ne (by omega), vs_ne (by omega)]
        rcases hI.2.2.2.1 k hk with h1 | ⟨t', h1, h2, h3⟩
        · exact Or.inl h1
        · refine Or.inr ⟨t', h1, h2, ?_⟩
          by_cases et : t' = t
          · subst et
            rw [c] at h3
            exact absurd h3.symm (nI_m1 (by omega))
          · exact (vs_ne (by omega)).trans ((vs_ne (by omega)).trans h3)
  · rename_i c
    cases h
    obtain ⟨k, hk, e⟩ := (hI.sid ht).resolve_left c
    exact ⟨OT.refl, hI.2.2.2.1, rfl, ⟨k, hk, e, hI.sdt ht hk e, fun e => absurd e c, fun _ _ _ => rfl⟩, fun _ => rfl⟩
theorem vi_fg {f slot : Int32} (hI : VI lim B V) (ht : t < 6) (hb : vbz V.1 t) (hlm : lim ≤ 10000) (hl : l < vli V.1 (vlf V t).1) (hll : V.1 (3968 + t) = nI (l + 1)) (h9 : V.1 (vco (vlf V t).1 l) = 9) (hx : V.1 (vco (vlf V t).1 l + 1) = nI x) (hf : V.1 (vco (vlf V t).1 l + 2) = f) (hs : V.1 (vco (vlf V t).1 l + 3) = slot) : VI lim (B + 4) (vfg lim V t (nI x) f slot) := by
  obtain ⟨np, z, z2, z3, k, l2, hP, h0, -, -, ⟨hz3, -, hz33⟩, ⟨k1, k2⟩, -, -, hbg, -⟩ := hI.opn ht hb hlm
  have hP0 := hP
  obtain ⟨hj, hc, -, hz, h8, hzl, -, -, hq⟩ := hP
  have hzz : (V.1 2048).toInt.toNat = z := by rw [hz, nI_int (by omega)]; rfl
  obtain ⟨d1, d2, d3, d4, d5⟩ := hc.2.2.2.2.2.2.1 h0
  have hi0 : V.2.2.1 t - 1 < V.2.2.1 t := by omega
  have hft : (vlf V t).1 < 10 := (d3.1 _ hi0).1
  have hl16 : l < 16 := by have := (hj.1.li hft).2; omega
  have hv := (hI.2.1 _ hft).2.2 l hl
  unfold vlin vcan at hv
  obtain ⟨⟨x', xx, x1, x2⟩, -, hnu⟩ := hv.2.2.2.2.2.2.2.2.2 h9
  rw [hs] at hnu
  obtain ⟨c, c1, c2, c3⟩ := hnu
  obtain ⟨zs, zs1, zs2⟩ := hI.1.2.2.2.2.2
  obtain ⟨n, np', o1, -, -, -, -, -, -, -, -, -, -, -, -, o14, o15, o16, -⟩ := (hI.bz ht h0).2
  rw [← o1] at o14 o15 o16
  have hx40 : x = x' ∧ 1 ≤ x ∧ x ≤ 40 ∨ 2147483648 ≤ x := by
    by_cases q : x < 2147483648
    · left
      rw [xx] at hx
      have := (nI_inj (by omega) q).mp hx
      omega
    · right; omega
  -- x may be taken small
  have hxe : nI x = nI x' := by rw [← hx, xx]
  rw [hxe]
  clear hx40 hxe hx
  unfold vfg
  cases hsd : vsd V t with
  | none =>
    rw [vhs_0 hsd]
    have a1 := vi_sta (v := 2) hI ht hb (Or.inr rfl)
    have hb1 : vbz (vs V (3926 + t) 2).1 t := by unfold vbz; rw [vs_at]; exact Or.inr rfl
    have a2 : VI lim B (vs (vs V (3926 + t) 2) (3968 + t) (V.1 (3968 + t) - 1)) := a1.vs ht hb1 (vown_t (c := 3968) (by omega)) (by omega) (fun _ => ⟨l, by omega, by rw [hll, li_sub (by omega)]; rfl⟩)
    have hb2 : vbz (vs (vs V (3926 + t) 2) (3968 + t) (V.1 (3968 + t) - 1)).1 t := by unfold vbz; rw [vs_ne (by omega), vs_at]; exact Or.inr rfl
    have a3 : VI lim B (vcn (vs (vs V (3926 + t) 2) (3968 + t) (V.1 (3968 + t) - 1)) 10 1) := a2.vs ht hb2 (Or.inl (by omega)) (by omega) (fun e => absurd e (by omega))
    exact a3.mono (by omega)
  | some V1 =>
    obtain ⟨hO, hsd1, e2, ⟨ks, ks1, ks2, ks3, ks4, hw⟩, hV1⟩ := vsd_ot hI ht (by rw [hz3, nI_int (by omega)]; show (z3 : Int).toNat ≤ 3; omega) hsd
    have hsc : ∀ i, i ≠ 3989 + t → (i < 3923 ∨ 3926 ≤ i) → V1.1 i = V.1 i := fun i g1 g2 => hw i g1 (by omega)
    have h96 : (vs V1 (3926 + t) 1).1 (3996 + t) + nI x' = nI (vos V.1 (V.2.2.2 t) (V.2.2.1 t) + x') := by
      rw [vs_ne (by omega), hsc _ (by omega) (by omega), o14, nI_add]
    have h53 : ((vs V1 (3926 + t) 1).1 2053).toInt = zs := by rw [vs_ne (by omega), hsc _ (by omega) (by omega), zs1, nI_int (by omega)]
    have hO2 : OT t V (vs V1 (3926 + t) 1) := hO.trans (OT.vs ht (vown_t (c := 3926) (by omega)))
    have hj2 : VJ lim (vs V1 (3926 + t) 1) := VJ.vs (hj.ww hO.1 e2) (by omega)
    have hsd2 : Isd (vs V1 (3926 + t) 1).1 := isd_ot hsd1 (OT.vs ht (vown_t (c := 3926) (by omega))) (fun i hi => vs_ne (by omega))
    by_cases cs : vos V.1 (V.2.2.2 t) (V.2.2.1 t) + x' ≤ zs
    · rw [vhs_1 hsd (by rw [h96, h53, nI_int (by omega)]; omega), h96]
      dsimp only
      generalize hV3 : vs (vs V1 (3926 + t) 1) (3996 + t) (nI (vos V.1 (V.2.2.2 t) (V.2.2.1 t) + x')) = V3
      have g3 : ∀ i, i ≠ 3989 + t → i ≠ 3923 + ks → i ≠ 3926 + t → i ≠ 3996 + t → V3.1 i = V.1 i := fun i q1 q2 q3 q4 => by rw [← hV3, vs_ne q4, vs_ne q3, hw i q1 q2]
      have g96 : V3.1 (3996 + t) = nI (vos V.1 (V.2.2.2 t) (V.2.2.1 t) + x') := by rw [← hV3]; exact vs_at
      have g26 : V3.1 (3926 + t) = 1 := by rw [← hV3]; exact (vs_ne (by omega)).trans vs_at
      have g89 : V3.1 (3989 + t) = nI ks := by rw [← hV3, vs_ne (by omega), vs_ne (by omega)]; exact ks2
      have g23 : V3.1 (3923 + ks) = nI t := by rw [← hV3, vs_ne (by omega), vs_ne (by omega)]; exact ks3
      have e32 : V3.2 = V.2 := by rw [← hV3]; exact e2
      have hO3 : OT t V V3 := by rw [← hV3]; exact hO2.trans (OT.vs ht (vown_t (c := 3996) (by omega)))
      have hsd3 : Isd V3.1 := by rw [← hV3]; exact isd_ot hsd2 (OT.vs ht (vown_t (c := 3996) (by omega))) (fun i hi => vs_ne (by omega))
      have hlf : vlf V3 t = vlf V t := by unfold vlf; rw [e32]
      have hw3 := hO3.1
      have hll3 : (V3.1 (3968 + t)).toInt.toNat = l + 1 := by rw [g3 _ (by omega) (by omega) (by omega) (by omega), hll, nI_int (by omega)]; rfl
      by_cases ct : tld V3.1 f
      · rw [if_pos ct, hlf, hll3]
        have ct0 := hw3.tl.mp ct
        obtain ⟨f', hf', f10⟩ : ∃ f', f = nI f' ∧ f' < 10 := by
          obtain ⟨q1, q2⟩ := ct0
          obtain ⟨f', y1, y2⟩ := nI_ex (v := f) (by omega)
          rw [y2, nI_int (by omega)] at q1
          exact ⟨f', y2, by omega⟩
        have hfn : f.toInt.toNat = f' := by rw [hf', nI_int (by omega)]; rfl
        rw [hfn]
        have hs1 : 1 ≤ vsz V3.1 f' := by
          have := ct.2
          rw [hfn] at this
          unfold vsz
          omega
        obtain ⟨⟨e0, e1⟩, e2', e3⟩ := bk_f hft hl16
        have hcal : vcal V3.1 (vlf V t).1 l = nI f' := by
          rw [hw3.cal hft hl16]
          unfold vcal
          rw [if_neg (by rw [h9]; decide), if_pos h9, hf, hf']
        have hcn : slot.toInt.toNat = c := by
          have := (hj.1.sz hft).2
          rw [c1, nI_int (by omega)]; rfl
        rw [hcn]
        have hfo : vfo V3.1 (f', 0, 0, 32 * (vlf V t).1 + (l + 1) + 2048, (fun _ => 0), (fun _ => none)) = x' := by
          unfold vfo
          rw [if_pos e0]
          show (V3.1 (vco ((32 * (vlf V t).1 + (l + 1) + 2048) % 1024 / 32) ((32 * (vlf V t).1 + (l + 1) + 2048) % 32 - 1) + 1)).toInt.toNat = x'
          rw [e2', e3, Nat.add_sub_cancel, hw3.co hft hl16 (by omega), xx, nI_int (by omega)]
          rfl
        have hvos : vos V3.1 (V3.2.2.2 t) (V3.2.2.1 t) = vos V.1 (V.2.2.2 t) (V.2.2.1 t) := by rw [e32]; exact vos_w hw3 hI.2.1 d3 _ (Nat.le_refl _)
        have hP3 : Vpre lim V3 t np z := hP0.ww e32 (fun i hi _ => g3 i (by omega) (by omega) (by omega) (by omega)) (fun c hc => g3 _ (by omega) (by omega) (by omega) (by omega))
        refine vi_cl (k := k) (G := (f', 0, 0, 32 * (vlf V t).1 + (l + 1) + 2048, (fun _ => 0), (fun _ => none))) hI hO3 hP3 hsd3 (Or.inl g26) (by rw [g3 _ (by omega) (by omega) (by omega) (by omega)]; exact hw3.tl.mpr hbg) f10 hs1 (Or.inr ⟨e0, e1⟩) ⟨rfl, rfl⟩ ?_ ?_ ?_ (fun e => ?_) (fun _ => ?_) (fun hb0 p hp => ?_) (fun _ => ⟨l, ?_, ?_, ?_⟩) (by rw [g3 _ (by omega) (by omega) (by omega) (by omega)]; exact k1) (by omega)
        · rw [hfo, hvos]; exact g96
        · rw [hfo, hvos]; omega
        · rw [hfo, hvos]
          exact Or.inr ⟨ks, ks1, g89, g23, by omega⟩
        · rw [e32] at e; omega
        · show 32 * (vlf V t).1 + (l + 1) + 2048 < 4096 ∧ (32 * (vlf V t).1 + (l + 1) + 2048) % 1024 / 32 = (V3.2.2.2 t (V3.2.2.1 t - 1)).1 ∧ 1 ≤ (32 * (vlf V t).1 + (l + 1) + 2048) % 32 ∧ (32 * (vlf V t).1 + (l + 1) + 2048) % 32 - 1 < vli V3.1 (V3.2.2.2 t (V3.2.2.1 t - 1)).1 ∧ (_ ∨ (2048 ≤ 32 * (vlf V t).1 + (l + 1) + 2048 ∧ V3.1 (vco (V3.2.2.2 t (V3.2.2.1 t - 1)).1 ((32 * (vlf V t).1 + (l + 1) + 2048) % 32 - 1)) = 9 ∧ V3.1 (vco (V3.2.2.2 t (V3.2.2.1 t - 1)).1 ((32 * (vlf V t).1 + (l + 1) + 2048) % 32 - 1) + 2) = nI f'))
          rw [e32]
          show 32 * (vlf V t).1 + (l + 1) + 2048 < 4096 ∧ (32 * (vlf V t).1 + (l + 1) + 2048) % 1024 / 32 = (vlf V t).1 ∧ 1 ≤ (32 * (vlf V t).1 + (l + 1) + 2048) % 32 ∧ (32 * (vlf V t).1 + (l + 1) + 2048) % 32 - 1 < vli V3.1 (vlf V t).1 ∧ (_ ∨ (2048 ≤ 32 * (vlf V t).1 + (l + 1) + 2048 ∧ V3.1 (vco (vlf V t).1 ((32 * (vlf V t).1 + (l + 1) + 2048) % 32 - 1)) = 9 ∧ V3.1 (vco (vlf V t).1 ((32 * (vlf V t).1 + (l + 1) + 2048) % 32 - 1) + 2) = nI f'))
          rw [e3, Nat.add_sub_cancel, (hw3.sz hft).2.2.1, hw3.co0 hft hl16, hw3.co hft hl16 (by omega)]
          exact ⟨by omega, e2', by omega, hl, Or.inr ⟨e0, h9, by rw [hf, hf']⟩⟩
        · unfold vha at hp
          by_cases cb : bt (V3.1 (2238 + (vlf V t).1)) c
          · rw [(hw3.sz hft).2.2.2] at cb
            exact absurd cb c3
          · rw [if_neg cb] at hp
            cases hp
        · rw [e32]
          show l < vli V3.1 (vlf V t).1
          rw [(hw3.sz hft).2.2.1]; exact hl
        · rw [e32]
          show tld V3.1 (vcal V3.1 (vlf V t).1 l)
          rw [hcal, ← hf']; exact ct
        · rw [e32]
          show (vcal V3.1 (vlf V t).1 l).toInt.toNat = f'
          rw [hcal, nI_int (by omega)]
          rfl
      · rw [if_neg ct, vfv_nu]
        refine vi_nu ?_ ht
        have h0' : V3.1 (3996 + t) - nI x' = nI (vos V.1 (V.2.2.2 t) (V.2.2.1 t)) := by rw [g96, nI_sub (by omega)]; congr 1; omega
        have a1 : VI lim B (vcn V 9 1) := hI.vs ht hb (Or.inl (by omega)) (by omega) (fun e => absurd e (by omega))
        have a2 : VI lim B (vs (vcn V 9 1) (3926 + t) 1) := vi_sta a1 ht (by unfold vbz; rw [vcn_ne (by omega)]; exact hb) (Or.inl rfl)
        have hsame : vfv V3 t (nI x') = vs (vcn V 9 1) (3926 + t) 1 := by
          have h92 : (vcn V 9 1).1 2063 = V.1 2063 + 1 := vs_at
          by_cases cv : 0 < vos V.1 (V.2.2.2 t) (V.2.2.1 t)
          · rw [vfv_a (by rw [h0', nI_int (by omega)]; omega), h0']
            have hV : V1 = V := hV1 (fun e => by rcases o16 with ⟨-, q⟩ | ⟨k, q1, q2, -⟩; omega; rw [e] at q2; exact absurd q2.symm (nI_m1 (by omega)))
            subst hV
            refine Prod.ext (funext fun i => ?_) e32
            by_cases i1 : i = 3996 + t
            · subst i1
              rw [vs_at, vs_ne (by omega), vcn_ne (by omega)]; exact o14.symm
            · rw [vs_ne i1]
              by_cases i2 : i = 2063
              · subst i2
                rw [vs_ne (by omega), h92]
                show (vs V3 (2054 + 9) (V3.1 (2054 + 9) + 1)).1 2063 = _
                rw [vs_at, g3 _ (by omega) (by omega) (by omega) (by omega)]
              · rw [vcn_ne (by omega)]
                by_cases i3 : i = 3926 + t
                · subst i3
                  rw [vs_at]; exact g26
                · rw [vs_ne i3, vcn_ne (by omega), ← hV3, vs_ne i1, vs_ne i3]
          · rw [vfv_b (by rw [h0', nI_int (by omega)]; omega), h0', g89, nI_int (by omega), Int.toNat_natCast]
            have hm1 : V.1 (3989 + t) = -1 := by
              rcases o16 with ⟨q, -⟩ | ⟨k, q1, q2, q3, q4⟩
              · exact q
              · omega
            refine Prod.ext (funext fun i => ?_) e32
            by_cases i1 : i = 3989 + t
            · subst i1
              rw [vs_at, vs_ne (by omega), vcn_ne (by omega), hm1]
            · rw [vs_ne i1]
              by_cases i2 : i = 3923 + ks
              · subst i2
                rw [vs_at, vs_ne (by omega), vcn_ne (by omega), ks4 hm1]
              · rw [vs_ne i2]
                by_cases i3 : i = 3996 + t
                · subst i3
                  rw [vs_at, vs_ne (by omega), vcn_ne (by omega)]; exact o14.symm
                · rw [vs_ne i3]
                  by_cases i4 : i = 2063
                  · subst i4
                    rw [vs_ne (by omega), h92]
                    show (vs V3 (2054 + 9) (V3.1 (2054 + 9) + 1)).1 2063 = _
                    rw [vs_at, g3 _ (by omega) (by omega) (by omega) (by omega)]
                  · rw [vcn_ne (by omega)]
                    by_cases i5 : i = 3926 + t
                    · subst i5
                      rw [vs_at]; exact g26
                    · rw [vs_ne i5, vcn_ne (by omega), g3 i i1 i2 i5 i3]
        rw [hsame]
        exact a2.mono (by omega)
    · rw [vhs_2 hsd (by rw [h96, h53, nI_int (by omega)]; omega)]
      exact vi_out2 hI hO2 ht hj2 (by rw [hzz]; show ∀ q ∈ V1.2.1, _; rw [e2]; exact hq) hsd2 ⟨k, by omega, by rw [vs_ne (by omega), hsc _ (by omega) (by omega)]; exact k1⟩ (Or.inr ⟨ks, ks1, by rw [vs_ne (by omega)]; exact ks2, by rw [vs_ne (by omega)]; exact ks3⟩)
end
