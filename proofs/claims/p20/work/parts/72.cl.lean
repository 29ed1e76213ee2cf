section
/-! ===== a call keeps what always holds ===== -/
section
variable {lim B B' t f bk np z k : Nat} {V V0 V1 : vV} {h : Int32 × Option (Nat × Nat)} {G : vF}
theorem isd_ot (hsd : Isd V.1) (hO1 : OT t V V1) (hsc : ∀ i, (3923 ≤ i ∧ i < 3926) ∨ i = 3989 + t → V1.1 i = V.1 i) : Isd V1.1 := by
  intro k hk
  rw [hsc _ (by omega)]
  rcases hsd k hk with e | ⟨t', x1, x2, x3⟩
  · exact Or.inl e
  · refine Or.inr ⟨t', x1, x2, ?_⟩
    by_cases c : t' = t
    · subst c
      rw [hsc _ (by omega)]; exact x3
    · have := (hO1.2.2.1 t' x1 c).1 9 (by omega)
      exact Eq.trans this x3
theorem vrs_no {i : Nat} (ht : t < 6) (hi : (3923 ≤ i ∧ i < 3926) ∨ i = 3996 + t ∨ i = 3989 + t ∨ i = 3926 + t ∨ i = 4052 + t) : ¬ vrs t i := fun q => by
  unfold vrs vgs at q
  omega
theorem vmg_d {w : Nat → Int32} (hm : vmg w f = true) : ∃ d, vdp w 10 f = some d ∧ d ≤ (w 2051).toInt.toNat ∧ vnd w f = d := by
  have hm0 := hm
  unfold vmg at hm
  cases e : vdp w 10 f with
  | none => rw [e] at hm; simp at hm
  | some d =>
    rw [e] at hm
    have h2 : d ≤ (w 2051).toInt.toNat := by
      simp at hm
      exact hm.2
    refine ⟨d, rfl, h2, ?_⟩
    unfold vnd
    rw [if_pos hm0, e]
    rfl
theorem vi_cl (hI : VI lim B V0) (hO : OT t V0 V) (hP : Vpre lim V t np z) (hsd : Isd V.1) (hbz : vbz V.1 t) (htl : tld V.1 (V.1 (4052 + t))) (hf : f < 10) (hs1 : 1 ≤ vsz V.1 f) (hB : bk < 1024 ∨ (2048 ≤ bk ∧ bk < 3072)) (hG : G.1 = f ∧ G.2.2.2.1 = bk)
    (hos : V.1 (3996 + t) = nI (vos V.1 (V.2.2.2 t) (V.2.2.1 t) + vfo V.1 G)) (hoB : vos V.1 (V.2.2.2 t) (V.2.2.1 t) + vfo V.1 G ≤ 1000000)
    (hsi : (V.1 (3989 + t) = -1 ∧ vos V.1 (V.2.2.2 t) (V.2.2.1 t) + vfo V.1 G = 0) ∨ ∃ k, k < 3 ∧ V.1 (3989 + t) = nI k ∧ V.1 (3923 + k) = nI t ∧ 1 ≤ vos V.1 (V.2.2.2 t) (V.2.2.1 t) + vfo V.1 G)
    (hb0 : V.2.2.1 t = 0 → bk = 0) (hb : 0 < V.2.2.1 t → vbk V.1 G (V.2.2.2 t (V.2.2.1 t - 1)))
    (hq : bt (V.1 (2238 + f)) 0 → ∀ p, h.2 = some p → p.1 < V.2.2.1 t ∧ p.2 < vsz V.1 (V.2.2.2 t p.1).1 ∧ ¬ bt (V.1 (2238 + (V.2.2.2 t p.1).1)) p.2)
    (hE : 0 < V.2.2.1 t → vE V.1 (V.2.2.2 t (V.2.2.1 t - 1)).1 f) (hk : V.1 2067 = nI k) (hkB : k + 3 ≤ B') : VI lim B' (vcl lim V t f bk h) := by
  have hP0 := hP
  obtain ⟨hj, hc, ht, hz, h8, hzl, hl, hl2, hqz⟩ := hP
  have hk1 : k ≤ B' := by omega
  have hz0 : (V0.1 2048).toInt.toNat = z := by
    rw [← hO.2.1 2048 (by omega) (by omega), hz, nI_int (by omega)]; rfl
  unfold vcl
  by_cases c : vlc V t = true
  · rw [if_pos c]
    have hn := ((vlc_iff hj hc).2 c).1
    obtain ⟨d, x1, x2, x3⟩ := vlc_room hj hc ht c (hE hn)
    have hd := (vdp_le hj.1 hf x1).1
    exact vi_up hI hO hP0 hsd hbz htl hf hs1 hB hG hos hoB hsi hb0 hb hq (V1 := vcn V 11 1) (np1 := np) (OT.cn ht (by omega)) rfl (VJ.vs hj (by omega)) hqz ⟨k, hk1, by rw [vcn_ne (by omega)]; exact hk⟩ (fun i hi => vcn_ne (by omega)) ((ico_vs hc hj.1 (by omega) (by omega)).n') (Nat.le_trans (Nat.add_le_add_left hd _) x3) (Or.inr rfl) (fun _ _ => rfl) (fun _ => ⟨d, x1, x2, x3⟩)
  · have c' : vlc V t = false := by simpa using c
    rw [if_neg c]
    have hnc := (vlc_iff hj hc).1 c'
    obtain ⟨v1, v2, v3⟩ := vrm_inv hP0 hf hs1 hk hnc
    generalize hres : vrm lim V t f = res at *
    obtain ⟨b, V1⟩ := res
    cases b with
    | true =>
      obtain ⟨a1, a2, a3, ⟨k', a4, a4'⟩, a5, np2, a6, a7⟩ := v1 rfl
      have hO1 : OT t V V1 := by simpa using v3
      have hnd := vnd_ge (w := V.1) hj.1 hf
      have a7 : vud V.1 (V.2.2.2 t) (np2 - 1) (V.2.2.1 t) + vnd V.1 f ≤ vln V1.2.1 t (np2 - 1) := a7
      show VI lim B' (vpu V1 t f (bk + if vmg V.1 f = true then 1024 else 0) h.1 h.2)
      refine vi_up hI hO hP0 hsd hbz htl hf hs1 hB hG hos hoB hsi hb0 hb hq hO1 a2 a1 a3 ⟨k', by omega, a4'⟩ (fun i hi => a5 i (vrs_no ht hi)) a6 (Nat.le_trans (Nat.add_le_add_left hnd _) a7) ?_ (fun e1 e2 => ?_) (fun e => ?_)
      · by_cases cm : vmg V.1 f = true
        · rw [if_pos cm]; exact Or.inr rfl
        · rw [if_neg cm]; exact Or.inl rfl
      · exact absurd e2 (hnc _ (by omega))
      · by_cases cm : vmg V.1 f = true
        · obtain ⟨d, d1, d2, d3⟩ := vmg_d cm
          rw [d3] at a7
          exact ⟨d, d1, d2, a7⟩
        · rw [if_neg cm] at e
          exact absurd e (by omega)
    | false =>
      obtain ⟨V2, y1, y2, y3, y4, ⟨k', y5, y5'⟩, y6, y7⟩ := v2 rfl
      have y1 : V1 = vot V2 t := y1
      show VI lim B' V1
      rw [y1]
      refine vi_out2 hI (hO.trans y7) ht y2 (by rw [hz0]; exact y4) (isd_ot hsd y7 (fun i hi => y6 i (vrs_no ht (by omega)))) ⟨k', by omega, y5'⟩ ?_
      rw [y6 _ (vrs_no ht (by omega))]
      rcases hsi with e | ⟨j, j1, j2, j3, -⟩
      · exact Or.inl e.1
      · exact Or.inr ⟨j, j1, j2, (y6 _ (vrs_no ht (by omega))).trans j3⟩
end
end
section
/-! ===== a spare piece goes: what always holds is kept ===== -/
section
variable {lim B B' t : Nat} {V : vV} {ps : List vP}
theorem VI.mono (hI : VI lim B V) (h : B ≤ B') : VI lim B' V := by
  obtain ⟨a1, a2, a3, a4, ⟨k, k1, k2⟩, a6⟩ := hI
  exact ⟨a1, a2, a3, a4, ⟨k, Nat.le_trans k1 h, k2⟩, a6⟩
theorem find_sp {n : Nat} (hn : n ≠ 1000) : (ps.filter (fun q => !vkey t 1000 q)).find? (vkey t n) = ps.find? (vkey t n) := by
  refine vfind_filter (fun q _ hk => ?_)
  have hk : q.2.2.1 = t ∧ q.2.2.2 = n := by simpa [vkey] using hk
  simp [vkey]
  omega
theorem ibz_sp (hb : Ibz lim V t) : Ibz lim (vps V (V.2.1.filter (fun q => !vkey t 1000 q))) t := by
  obtain ⟨n, np, c1, c2, c3, c4, c5, c6, c7, c8, c9, c10, c11, c12, c13, c14, c15, c16, c17⟩ := hb
  have hn : ∀ i, i < n + 1 → (V.2.2.2 t i).2.1 < np := fun i hi => (c7.1 i hi).1
  have hv : ∀ i, i < n + 1 → vat (V.2.1.filter (fun q => !vkey t 1000 q)) t (V.2.2.2 t i).2.1 = vat V.2.1 t (V.2.2.2 t i).2.1 ∧ vln (V.2.1.filter (fun q => !vkey t 1000 q)) t (V.2.2.2 t i).2.1 = vln V.2.1 t (V.2.2.2 t i).2.1 := fun i hi => vat_eq (find_sp (by have := hn i hi; have := c4.2; omega))
  refine ⟨n, np, c1, c2, c3, c4, ⟨fun k hk => ?_, fun q hq => c5.2 q (List.mem_filter.mp hq).1⟩, ?_, c7.ps (fun i hi => ⟨hn i hi, (hv i hi).2⟩), c8, c9.ps (fun i hi => (hv i hi).2), c10, ?_, c12, c13, c14, c15, c16, c17⟩
  · obtain ⟨q, q1, q2, q3⟩ := c5.1 k hk
    refine ⟨q, List.mem_filter.mpr ⟨q1, ?_⟩, q2, q3⟩
    have := c4.2
    simp [vkey]
    omega
  · rcases c6 with ⟨x1, x2, x3⟩ | x
    · exact Or.inl ⟨x1, x2, fun q hq => x3 q (List.mem_filter.mp hq).1⟩
    · exact Or.inr x
  · show V.1 (3982 + t) = nI (vat (V.2.1.filter (fun q => !vkey t 1000 q)) t (V.2.2.2 t n).2.1 + (V.2.2.2 t n).2.2.1)
    rw [(hv n (by omega)).1]
    exact c11
theorem vi_lg (hI : VI lim B V) (ht : t < 6) (hb : vbz V.1 t) : VI lim (B + 1) (vlg1 V) := by
  refine hI.ot (OT.lg ht) ht hI.2.2.1 (isd_ot hI.2.2.2.1 (OT.lg ht) (fun i hi => vs_ne (by omega))) ?_ ?_
  · obtain ⟨k, k1, k2⟩ := hI.2.2.2.2.1
    refine ⟨k + 1, by omega, ?_⟩
    show mj_upd V.1 2067 (V.1 2067 + 1) 2067 = _
    rw [mj_upd_self, k2, nI_1]
  · rcases hI.2.2.2.2.2 t ht with ⟨b1, b2⟩ | b
    · refine Or.inl ⟨?_, b2.vs hI.2.1 (by omega) (by omega) (fun e => absurd e (by omega))⟩
      unfold vbz at b1 ⊢
      show (vs V 2067 (V.1 2067 + 1)).1 (3926 + t) = 1 ∨ (vs V 2067 (V.1 2067 + 1)).1 (3926 + t) = 2
      rw [vs_ne (by omega)]
      exact b1
    · exfalso
      rcases hb with e | e <;> rcases b.2.2.2.2.2.2.2.1 with g | g | g <;> rw [e] at g <;> exact absurd g (by decide)
theorem vi_sp (hI : VI lim B V) (ht : t < 6) (hb : vbz V.1 t) : VI lim (B + 1) (vsp V t) := by
  unfold vsp
  split
  · have h1 := vi_lg hI ht hb
    refine h1.ot (B' := B + 1) (OT.flt (V := vlg1 V) (n := 1000)) ht ⟨vo_sub h1.2.2.1.1 List.filter_sublist, h1.2.2.1.2.1.sublist List.filter_sublist, fun q hq => h1.2.2.1.2.2 q (List.mem_filter.mp hq).1⟩ h1.2.2.2.1 h1.2.2.2.2.1 ?_
    rcases h1.2.2.2.2.2 t ht with ⟨b1, b2⟩ | b
    · exact Or.inl ⟨b1, ibz_sp b2⟩
    · exfalso
      have hb' : vbz (vlg1 V).1 t := by
        unfold vbz at hb ⊢
        show (vs V 2067 (V.1 2067 + 1)).1 (3926 + t) = 1 ∨ (vs V 2067 (V.1 2067 + 1)).1 (3926 + t) = 2
        rw [vs_ne (by omega)]
        exact hb
      rcases hb' with e | e <;> rcases b.2.2.2.2.2.2.2.1 with g | g | g <;> rw [e] at g <;> exact absurd g (by decide)
  · exact hI.mono (by omega)
end
end
section
/-! ===== a call of a line keeps what always holds ===== -/
theorem bk_d {g l : Nat} (hg : g < 10) (hl : l < 16) : 32 * g + l + 1 < 1024 ∧ (32 * g + l + 1) % 1024 / 32 = g ∧ (32 * g + l + 1) % 32 = l + 1 := by omega
section
variable {lim B t f l k0 : Nat} {V : vV}
theorem vi_call (hI : VI lim B V) (ht : t < 6) (hb : vbz V.1 t) (hlm : lim ≤ 10000) (hf : f < 10) (hs1 : 1 ≤ vsz V.1 f) (hl : l < vli V.1 (vlf V t).1) (h6 : V.1 (vco (vlf V t).1 l) = 6) (h7 : V.1 (vco (vlf V t).1 l + 1) = nI f) (htf : tld V.1 (nI f)) (hk0 : k0 < vsz V.1 (vlf V t).1) : VI lim (B + 3) (vcl lim V t f (32 * (vlf V t).1 + l + 1) (vha V.1 f (vlf V t) k0)) := by
  obtain ⟨np, z, z2, z3, k, l2, hP, h0, -, -, -, ⟨k1, k2⟩, -, -, hbg, -⟩ := hI.opn ht hb hlm
  have hP0 := hP
  obtain ⟨hj, hc, -, -, -, -, -, -, -⟩ := hP
  obtain ⟨d1, d2, d3, d4, d5⟩ := hc.2.2.2.2.2.2.1 h0
  have hi0 : V.2.2.1 t - 1 < V.2.2.1 t := by omega
  have hft : (vlf V t).1 < 10 := (d3.1 _ hi0).1
  have hl16 : l < 16 := by have := (hj.1.li hft).2; omega
  obtain ⟨e1, e2, e3⟩ := bk_d hft hl16
  have hcal : vcal V.1 (vlf V t).1 l = nI f := by
    unfold vcal
    rw [if_pos h6, h7]
  have hfo : vfo V.1 (f, 0, 0, 32 * (vlf V t).1 + l + 1, (fun _ => 0), (fun _ => none)) = 0 := by
    unfold vfo
    rw [if_neg (by show ¬ 2048 ≤ 32 * (vlf V t).1 + l + 1; omega)]
  obtain ⟨n, np', c1, -, -, -, -, -, -, -, -, -, -, -, -, c14, c15, c16, -⟩ := (hI.bz ht h0).2
  refine vi_cl (G := (f, 0, 0, 32 * (vlf V t).1 + l + 1, (fun _ => 0), (fun _ => none))) hI OT.refl hP0 hI.2.2.2.1 hb hbg hf hs1 (Or.inl e1) ⟨rfl, rfl⟩ ?_ ?_ ?_ (fun e => ?_) (fun _ => ?_) (fun hb0 p hp => ?_) (fun _ => ⟨l, hl, ?_, ?_⟩) k1 (Nat.add_le_add_right k2 3)
  · rw [hfo, Nat.add_zero, c1]; exact c14
  · rw [hfo, Nat.add_zero, c1]; exact c15
  · rw [hfo, Nat.add_zero, c1]; exact c16
  · rw [e] at h0
    exact absurd h0 (Nat.lt_irrefl 0)
  · show 32 * (vlf V t).1 + l + 1 < 4096 ∧ (32 * (vlf V t).1 + l + 1) % 1024 / 32 = (vlf V t).1 ∧ 1 ≤ (32 * (vlf V t).1 + l + 1) % 32 ∧ (32 * (vlf V t).1 + l + 1) % 32 - 1 < vli V.1 (vlf V t).1 ∧ ((32 * (vlf V t).1 + l + 1 < 2048 ∧ V.1 (vco (vlf V t).1 ((32 * (vlf V t).1 + l + 1) % 32 - 1)) = 6 ∧ V.1 (vco (vlf V t).1 ((32 * (vlf V t).1 + l + 1) % 32 - 1) + 1) = nI f) ∨ _)
    rw [e3, Nat.add_sub_cancel]
    exact ⟨Nat.lt_trans e1 (by decide), e2, Nat.succ_le_succ (Nat.zero_le _), hl, Or.inl ⟨Nat.lt_trans e1 (by decide), h6, h7⟩⟩
  · unfold vha at hp
    by_cases cb : bt (V.1 (2238 + (vlf V t).1)) k0
    · rw [if_pos cb] at hp
      have hp : (if bt (V.1 (2238 + f)) 0 then (vlf V t).2.2.2.2.2 k0 else none) = some p := hp
      rw [if_pos hb0] at hp
      obtain ⟨x1, x2, x3⟩ := d3.2.2.2.2.2 _ hi0 k0 hk0 cb p hp
      exact ⟨Nat.lt_of_le_of_lt x1 hi0, x2, x3⟩
    · rw [if_neg cb] at hp
      cases hp
  · show tld V.1 (vcal V.1 (vlf V t).1 l)
    rw [hcal]; exact htf
  · show (vcal V.1 (vlf V t).1 l).toInt.toNat = f
    rw [hcal, nI_int (by omega)]
    rfl
end
end
section
/-! ===== from what a call wants back to what always holds ===== -/
section
variable {lim t np : Nat} {V V' : vV}
theorem ibz_ico (hc : Ico V' t np) (hb : Ibz lim V t) (e22 : V'.2.2 = V.2.2) (hw : vpe V.1 V'.1) (hp : Ipr V.1) (hsc : ∀ c, (c = 3968 ∨ c = 3996 ∨ c = 3989 ∨ c = 4052) → V'.1 (c + t) = V.1 (c + t)) (hs : ∀ k, k < 3 → V'.1 (3923 + k) = V.1 (3923 + k)) : Ibz lim V' t := by
  obtain ⟨n, np0, c1, -, -, -, -, -, -, -, c9, -, -, -, c13, c14, c15, c16, c17⟩ := hb
  obtain ⟨a1, a2, a3, a4, a5, a6, a7, -⟩ := hc
  have en : V'.2.2.1 t = n + 1 := by rw [e22]; exact c1
  have ef : V'.2.2.2 = V.2.2.2 := by rw [e22]
  have a8 := a7 (by rw [en]; exact Nat.succ_pos n)
  rw [en, Nat.add_sub_cancel] at a8
  rw [en] at a1 a6
  obtain ⟨g1, g2, g3, g4, g5⟩ := a8
  have hv := vos_w hw hp c9 _ (Nat.le_refl _)
  refine ⟨n, np, en, a1, a2, a3, a4, a5, g1, g2, g3, a6, g4, g5, ?_, ?_, ?_, ?_, ?_⟩
  · rw [hsc 3968 (Or.inl rfl)]; exact c13
  · rw [hsc 3996 (Or.inr (Or.inl rfl)), ef, hv]; exact c14
  · rw [ef, hv]; exact c15
  · rw [hsc 3989 (Or.inr (Or.inr (Or.inl rfl))), ef, hv]
    rcases c16 with e | ⟨k, k1, k2, k3, k4⟩
    · exact Or.inl e
    · exact Or.inr ⟨k, k1, k2, (hs k k1).trans k3, k4⟩
  · rw [hsc 4052 (Or.inr (Or.inr (Or.inr rfl)))]
    exact hw.tl.mpr c17
end
end
section
/-! ===== a move keeps what always holds ===== -/
section
variable {lim B t z g words : Nat} {V : vV}
theorem vmv_ne {i : Nat} (h1 : i ≠ 3982 + t) (h2 : i ≠ 4017 + t) (h3 : i ≠ 2059) : (vmv V t g words).1 i = V.1 i := by
  unfold vmv
  dsimp only
  rw [vcn_ne (by omega), vs_ne h2]
  show (vs V (3982 + t) _).1 i = V.1 i
  rw [vs_ne h1]
theorem vi_mv (hI : VI lim B V) (hb : vbz V.1 t) (hP : Vpre lim V t 1 z) (hg : g + words ≤ lim ∧ ∀ q ∈ V.2.1, g + words ≤ q.1 ∨ q.1 + q.2.1 ≤ g) (hw : z ≤ words) (hu : vus V.1 (V.2.2.2 t) (V.2.2.1 t) ≤ words) (hcov : ∀ i, i < V.2.2.1 t → vcv (V.2.2.2 t i) → ∀ d, vdp V.1 10 (V.2.2.2 t i).1 = some d → (V.2.2.2 t i).2.2.1 + d ≤ words) (hm : V.1 (3933 + t) = 0) : VI lim B (vmv V t g words) := by
  obtain ⟨v1, v2, v3, -⟩ := vmv_inv hP hg hw hu hcov hm
  obtain ⟨hj, hc, ht, hz, h8, hzl, hl, hl2, hqz⟩ := hP
  have hz0 : (V.1 2048).toInt.toNat = z := by rw [hz, nI_int (by omega)]; rfl
  refine hI.ot (B' := B) (OT.mv ht) ht ⟨v1.2.1, v1.2.2.1, by rw [hz0]; exact v3⟩ (isd_ot hI.2.2.2.1 (OT.mv ht) (fun i hi => vmv_ne (by omega) (by omega) (by omega))) ?_ ?_
  · rw [vmv_ne (by omega) (by omega) (by omega)]
    exact hI.2.2.2.2.1
  · rcases hI.2.2.2.2.2 t ht with ⟨b1, b2⟩ | b
    · refine Or.inl ⟨?_, ibz_ico v2 b2 rfl (OT.mv ht).1 hI.2.1 (fun c hc => vmv_ne (by omega) (by omega) (by omega)) (fun k hk => vmv_ne (by omega) (by omega) (by omega))⟩
      unfold vbz at b1 ⊢
      rw [vmv_ne (by omega) (by omega) (by omega)]
      exact b1
    · exfalso
      rcases hb with e | e <;> rcases b.2.2.2.2.2.2.2.1 with g | g | g <;> rw [e] at g <;> exact absurd g (by decide)
end
end
section
/-! ===== quiet keeps what always holds ===== -/
section
variable {lim B t : Nat} {V : vV}
theorem vi_qu (hI : VI lim B V) (ht : t < 6) (hb : vbz V.1 t) (hlm : lim ≤ 10000) : VI lim (B + 1) (vqu lim V t).2 := by
  obtain ⟨np, z, z2, z3, k, l2, hP, h0, -, -, -, -, -, -, -, -⟩ := hI.opn ht hb hlm
  have hP0 := hP
  obtain ⟨hj, hc, -, hz, h8, hzl, -, -, -⟩ := hP
  have hN := hc.n hj hlm
  have hz0 : (V.1 2048).toInt.toNat = z := by rw [hz, nI_int (by omega)]; rfl
  have huse := vuse_of hc.2.2.2.2.2.1 (by omega)
  unfold vqu
  rcases hc.2.2.2.2.1 with ⟨m0, m1, m2⟩ | m0
  · subst m1
    rw [if_neg (by rw [m0]; decide)]
    by_cases c : vln V.2.1 t 0 < 4 * vkp V t ∨ vln V.2.1 t 0 / 2 < (V.1 2048).toInt.toNat
    · rw [if_pos c]
      exact hI.mono (Nat.le_succ B)
    · rw [if_neg c]
      rw [hz0] at c
      have hle : vuse V t ≤ vkp V t := by unfold vkp; exact Nat.le_add_right _ _
      cases e : vgap lim 0 V.2.1 (vln V.2.1 t 0 / 2) with
      | none => exact hI.mono (Nat.le_succ B)
      | some g =>
        have hM : VI lim B (vmv V t g (vln V.2.1 t 0 / 2)) := by
          refine vi_mv hI hb hP0 (vgap0 hj.2.1 e) (by omega) (by omega) (fun i hi hcv d hd => ?_) m0
          obtain ⟨d1, -, d3, -, -⟩ := hc.2.2.2.2.2.2.1 h0
          have hlc : vlc V t = true := by
            cases hv : vlc V t with
            | true => rfl
            | false => exact absurd hcv ((vlc_iff hj hc).1 hv i hi)
          obtain ⟨d', x1, x2, -⟩ := d3.2.2.2.2.1 i hi hcv
          rw [hd] at x1
          cases x1
          have ho := d1.one i hi
          have hm : vus V.1 (V.2.2.2 t) i ≤ vus V.1 (V.2.2.2 t) (V.2.2.1 t) := vus_mono (Nat.le_of_lt hi)
          have hk : vkp V t = vuse V t + (V.1 2051).toInt.toNat := by unfold vkp; rw [if_pos hlc]
          omega
        have hb1 : vbz (vmv V t g (vln V.2.1 t 0 / 2)).1 t := by
          unfold vbz at hb ⊢
          rw [vmv_ne (by omega) (by omega) (by omega)]
          exact hb
        have h1 : VI lim B (vinc (vmv V t g (vln V.2.1 t 0 / 2)) (4031 + t)) := hM.vs ht hb1 (vown_t (c := 4031) (by omega)) (by omega) (fun e => absurd e (by omega))
        have hb2 : vbz (vinc (vmv V t g (vln V.2.1 t 0 / 2)) (4031 + t)).1 t := by unfold vbz; rw [vinc_ne (by omega)]; exact hb1
        have h2 : VI lim B (vcn (vinc (vmv V t g (vln V.2.1 t 0 / 2)) (4031 + t)) 7 1) := h1.vs ht hb2 (Or.inl (by omega)) (by omega) (fun e => absurd e (by omega))
        have hb3 : vbz (vcn (vinc (vmv V t g (vln V.2.1 t 0 / 2)) (4031 + t)) 7 1).1 t := by unfold vbz; rw [vcn_ne (by omega)]; exact hb2
        exact vi_lg h2 ht hb3
  · rw [if_pos m0]
    exact vi_sp hI ht hb
end
end
section
/-! ===== a return keeps what always holds ===== -/
/-- a side is given back -/
theorem ot_sb {t k : Nat} {V : vV} (ht : t < 6) (hk : k < 3) (h : V.1 (3923 + k) = nI t) : OT t V (vs V (3923 + k) (-1)) := by
  refine ⟨vpe.upd (by omega), fun i h1 h2 => vs_ne (by omega), fun t' ht' hne => ⟨fun j hj => vs_ne (by omega), rfl, rfl⟩, fun _ _ => Iff.rfl, fun _ _ _ => rfl, fun k' hk' t' ht' hne => ?_⟩
  by_cases e : k' = k
  · subst e
    rw [vs_at, h]
    constructor
    · intro e; exact absurd e.symm (nI_m1 (by omega))
    · intro e; exact absurd ((nI_inj (by omega) (by omega)).mp e).symm hne
  · rw [vs_ne (by omega)]
theorem vos_1 {w : Nat → Int32} {fr : Nat → vF} {n : Nat} : vos w fr (n + 1) = vos w fr n + vfo w (fr n) := rfl
theorem vus_1 {w : Nat → Int32} {fr : Nat → vF} {n : Nat} : vus w fr (n + 1) = vus w fr n + vwd w (fr n).1 := rfl
section
variable {lim B B' t np2 m : Nat} {V V2 : vV} {v : Int32}
theorem rt_last {np np2 F1 F2 m1 m2 wd : Nat} (hnp2 : np2 = if F2 ≠ 0 ∨ F1 = 0 then np else np - 1) (hF : F1 = np - 1) (hm : m1 < np) (hw : 2 ≤ wd) (hg : (F1 = m1 ∧ F2 = m2 + wd) ∨ (F1 = m1 + 1 ∧ F2 = 0)) (hn : 1 ≤ np ∧ np ≤ 256) : m1 = np2 - 1 ∧ (1 ≤ np2 ∧ np2 ≤ 256) ∧ (np = 1 → np2 = 1) := by
  rw [hnp2]
  split <;> omega
/-- the last frame has gone, and what it left: before the slot comes and a foreign call is over -/
def vrb (V2 : vV) (t m : Nat) (F : vF) : vV := vs (vs (vs V2 (3982 + t) (nI (vpl V2 t m))) (3975 + t) (nI (F.2.2.2.1 % 1024 / 32))) (3968 + t) (nI (F.2.2.2.1 % 32))
theorem vfv_a {words : Int32} (h : 0 < (V.1 (3996 + t) - words).toInt) : vfv V t words = vs (vcn V 9 1) (3996 + t) (V.1 (3996 + t) - words) := by
  unfold vfv
  dsimp only
  rw [if_pos (by rw [vs_at]; exact h)]
theorem vfv_b {words : Int32} (h : ¬ 0 < (V.1 (3996 + t) - words).toInt) : vfv V t words = vs (vs (vs (vcn V 9 1) (3996 + t) (V.1 (3996 + t) - words)) (3923 + (V.1 (3989 + t)).toInt.toNat) (-1)) (3989 + t) (-1) := by
  unfold vfv
  dsimp only
  rw [if_neg (by rw [vs_at]; exact h)]
theorem vfv_nu {words : Int32} {i k : Nat} : vfv (vnu V t i k v) t words = vnu (vfv V t words) t i k v := by
  by_cases c : 0 < (V.1 (3996 + t) - words).toInt
  · rw [vfv_a (V := V) c, vfv_a (V := vnu V t i k v) c]
    rfl
  · rw [vfv_b (V := V) c, vfv_b (V := vnu V t i k v) c]
    rfl
theorem OT.rb {F : vF} (ht : t < 6) : OT t V2 (vrb V2 t m F) := OT.trans (OT.trans (OT.vs ht (vown_t (c := 3982) (by omega))) (OT.vs ht (vown_t (c := 3975) (by omega)))) (OT.vs ht (vown_t (c := 3968) (by omega)))
theorem vrb_ne {F : vF} {i : Nat} (h1 : i ≠ 3982 + t) (h2 : i ≠ 3975 + t) (h3 : i ≠ 3968 + t) : (vrb V2 t m F).1 i = V2.1 i := (vs_ne h3).trans ((vs_ne h2).trans (vs_ne h1))
theorem vrb_at {F : vF} : (vrb V2 t m F).1 (3982 + t) = nI (vpl V2 t m) ∧ (vrb V2 t m F).1 (3975 + t) = nI (F.2.2.2.1 % 1024 / 32) ∧ (vrb V2 t m F).1 (3968 + t) = nI (F.2.2.2.1 % 32) :=
  ⟨(vs_ne (by omega)).trans ((vs_ne (by omega)).trans vs_at), (vs_ne (by omega)).trans vs_at, vs_at⟩
end
section
variable {lim B t np np2 m k : Nat} {V V2 V5 : vV} {v : Int32}
/-- all of it but the sides -/
theorem vi_rb (hI : VI lim B V) (ht : t < 6) (hbz : vbz V.1 t) (hb : Ibz lim V t) (hn : V.2.2.1 t = m + 2) (hnp : V.1 (4066 + t) = nI np) (hn256 : np ≤ 256) (hO : OT t V V2) (hj2 : VJ lim V2) (e22 : V2.2.2.1 t = m + 1) (e23 : V2.2.2.2 t = V.2.2.2 t) (hz : ∀ q ∈ V2.2.1, (V.1 2048).toInt.toNat ≤ q.2.1) (hlg : ∃ k, k ≤ B + 2 ∧ V2.1 2067 = nI k)
    (hnp2 : np2 = (if (V.2.2.2 t (m + 1)).2.2.1 ≠ 0 ∨ (V.2.2.2 t (m + 1)).2.1 = 0 then np else np - 1)) (hn4 : V2.1 (4066 + t) = nI np2) (hsm : Itp V2.2.1 t np2 ∧ ∀ i, i < m + 1 → (V.2.2.2 t i).2.1 < np2 ∧ vat V2.2.1 t (V.2.2.2 t i).2.1 = vat V.2.1 t (V.2.2.2 t i).2.1 ∧ vln V2.2.1 t (V.2.2.2 t i).2.1 = vln V.2.1 t (V.2.2.2 t i).2.1)
    (hm0 : V.1 (3933 + t) = 0 → V2.2.1 = V.2.1) (hs : ∀ c, (c = 3933 ∨ c = 3926 ∨ c = 4052) → V2.1 (c + t) = V.1 (c + t)) (hs1 : V2.1 (3954 + t) = V.1 (3954 + t) - 1) (hs2 : V2.1 (3961 + t) = V.1 (3961 + t) - (V.1 (2228 + (V.2.2.2 t (m + 1)).1) + 2))
    (h52 : V5.2 = (vrb V2 t m (V.2.2.2 t (m + 1))).2) (h5w : ∀ c, (c = 3954 ∨ c = 4066 ∨ c = 3933 ∨ c = 3961 ∨ c = 3982 ∨ c = 3975 ∨ c = 3968 ∨ c = 3926 ∨ c = 4052) → V5.1 (c + t) = (vrb V2 t m (V.2.2.2 t (m + 1))).1 (c + t)) (h5l : V5.1 2067 = V2.1 2067) (hO5 : OT t V2 V5) (hsd : Isd V5.1)
    (h5a : V5.1 (3996 + t) = nI (vos V.1 (V.2.2.2 t) (m + 1))) (h5b : (V5.1 (3989 + t) = -1 ∧ vos V.1 (V.2.2.2 t) (m + 1) = 0) ∨ ∃ k, k < 3 ∧ V5.1 (3989 + t) = nI k ∧ V5.1 (3923 + k) = nI t ∧ 1 ≤ vos V.1 (V.2.2.2 t) (m + 1)) : VI lim (B + 2) V5 := by
  obtain ⟨n, np', c1, c2, c3, c4, c5, c6, c7, c8, c9, c10, c11, c12, c13, c14, c15, c16, c17⟩ := hb
  have hnm : n = m + 1 := by omega
  subst hnm
  have hw : vpe V.1 V5.1 := (hO.trans hO5).1
  have hfr : V5.2.2.2 t = V.2.2.2 t := by rw [h52]; exact e23
  have hps : V5.2.1 = V2.2.1 := by rw [h52]; rfl
  have hN5 : V5.2.2.1 t = m + 1 := by rw [h52]; exact e22
  have hnpe : np' = np := by
    rw [c3] at hnp
    exact (nI_inj (by omega) (by omega)).mp hnp
  subst hnpe
  have hwm : 2 ≤ vwd V.1 (V.2.2.2 t m).1 := by unfold vwd; omega
  have hg := c7.2.2 m (by omega)
  obtain ⟨hlast, hn2, hn1'⟩ := rt_last hnp2 c8 (c7.1 m (by omega)).1 hwm hg c4
  have hff : ∀ i, i < m + 1 → (V.2.2.2 t i).1 < 10 := fun i hi => (c9.1 i (by omega)).1
  obtain ⟨b1, b2, b3, b4, b5⟩ := c9.2.2.1 m (by omega)
  have hli := (hI.2.1.li (hff m (by omega))).2
  have hvos : vos V5.1 (V.2.2.2 t) (m + 1) = vos V.1 (V.2.2.2 t) (m + 1) := vos_w hw hI.2.1 c9 _ (by omega)
  have hvus : vus V5.1 (V.2.2.2 t) (m + 1) = vus V.1 (V.2.2.2 t) (m + 1) := (hw.us (k := 0) hff).1
  have hwd := (hI.2.1.wd (c9.1 (m + 1) (by omega)).1).1
  refine hI.ot (hO.trans hO5) ht ⟨by rw [hps]; exact hj2.2.1, by rw [hps]; exact hj2.2.2.1, by rw [hps]; exact hz⟩ hsd (by rw [h5l]; exact hlg) (Or.inl ⟨?_, m, np2, hN5, ?_, ?_, hn2, ?_, ?_, ?_, ?_, ?_, ?_, ?_, ?_, ?_, ?_, ?_, ?_, ?_⟩)
  · unfold vbz at hbz ⊢
    rw [h5w 3926 (by omega), vrb_ne (by omega) (by omega) (by omega), hs 3926 (by omega)]
    exact hbz
  · rw [h5w 3954 (by omega), vrb_ne (by omega) (by omega) (by omega), hs1, c2, li_sub (by omega)]
    rfl
  · rw [h5w 4066 (by omega), vrb_ne (by omega) (by omega) (by omega)]
    exact hn4
  · rw [hps]; exact hsm.1
  · rw [h5w 3933 (by omega), vrb_ne (by omega) (by omega) (by omega), hs 3933 (by omega), hps]
    rcases c6 with ⟨e1, e2, e3⟩ | e
    · left
      exact ⟨e1, hn1' e2, by rw [hm0 e1]; exact e3⟩
    · exact Or.inr e
  · rw [hfr, hps]
    exact ((c7.less (n' := m + 1) (by omega)).ps (fun i hi => ⟨(hsm.2 i hi).1, (hsm.2 i hi).2.2⟩)).ww hw hff
  · rw [hfr]; exact hlast
  · rw [hfr, hps]
    exact ((c9.less (n' := m + 1) (by omega)).ps (fun i hi => (hsm.2 i hi).2.2)).ww hw hI.2.1
  · rw [h5w 3961 (by omega), vrb_ne (by omega) (by omega) (by omega), hs2, c10, hwd, hfr, hvus, vus_1 (n := m + 1), nI_sub (by omega)]
    congr 1
    omega
  · rw [h5w 3982 (by omega), vrb_at.1]
    unfold vpl
    rw [hfr, hps, e23]
  · rw [h5w 3975 (by omega), vrb_at.2.1, hfr, b2]
  · exact ⟨(V.2.2.2 t (m + 1)).2.2.2.1 % 32, by omega, by rw [h5w 3968 (by omega), vrb_at.2.2]⟩
  · rw [hfr, hvos]; exact h5a
  · rw [hfr, hvos]
    have : vos V.1 (V.2.2.2 t) (m + 1) ≤ vos V.1 (V.2.2.2 t) (m + 1 + 1) := by rw [vos_1 (n := m + 1)]; omega
    omega
  · rw [hfr, hvos]; exact h5b
  · rw [h5w 4052 (by omega), vrb_ne (by omega) (by omega) (by omega), hs 4052 (by omega)]
    exact hw.tl.mpr c17
end
section
variable {lim B t : Nat} {V : vV} {v : Int32}
theorem vi_rt {Z : (Nat → Int32) → Int32 → Int32 → Int32 → Bool} (hI : VI lim B V) (ht : t < 6) (hb : vbz V.1 t) (hlm : lim ≤ 10000) : VI lim (B + 2) (vrt Z V t v) := by
  obtain ⟨np, z, z2, z3, k, l, hP, h0, hhot, hr, hz3, ⟨hk, hkB⟩, hl, hs, htl, hcb⟩ := hI.opn ht hb hlm
  obtain ⟨hj, hc, -, hz, h8, hzl, -, hl2, hq⟩ := hP
  obtain ⟨d1, d2, d3, d4, d5⟩ := hc.2.2.2.2.2.2.1 h0
  obtain ⟨-, hbz⟩ := hI.bz ht h0
  have hzz : (V.1 2048).toInt.toNat = z := by rw [hz, nI_int (by omega)]; rfl
  obtain ⟨n, hn⟩ : ∃ n, V.2.2.1 t = n + 1 := ⟨V.2.2.1 t - 1, by omega⟩
  by_cases c0 : n = 0
  · subst c0
    have e : vrt Z V t v = vdn Z (vnf (vs (vs V (3961 + t) (V.1 (3961 + t) - (V.1 (2228 + (V.2.2.2 t 0).1) + 2))) (3954 + t) (V.1 (3954 + t) - 1)) t 0) t v := by
      unfold vrt
      rw [hn]
      rfl
    rw [e]
    exact (vi_dn hI ht).mono (by omega)
  · obtain ⟨m, rfl⟩ : ∃ m, n = m + 1 := ⟨n - 1, by omega⟩
    rw [hn] at d1 d2 d3 d4 d5 hcb
    rw [Nat.add_sub_cancel] at d2 d4 d5 hcb
    generalize hFF : V.2.2.2 t (m + 1) = F at *
    generalize hVV : vnf (vs (vs V (3961 + t) (V.1 (3961 + t) - (V.1 (2228 + F.1) + 2))) (3954 + t) (V.1 (3954 + t) - 1)) t (m + 1) = V1
    have hjv : VJ lim (vs (vs V (3961 + t) (V.1 (3961 + t) - (V.1 (2228 + F.1) + 2))) (3954 + t) (V.1 (3954 + t) - 1)) := VJ.vs (VJ.vs hj (by omega)) (by omega)
    have hj1 : VJ lim V1 := by rw [← hVV]; exact hjv.nf (by show m + 1 ≤ V.2.2.1 t; omega)
    have hat : ∀ i, i ≠ 3961 + t → i ≠ 3954 + t → V1.1 i = V.1 i := fun i g1 g2 => by rw [← hVV]; exact (vs_ne g2).trans (vs_ne g1)
    have hat1 : V1.1 (3954 + t) = V.1 (3954 + t) - 1 := by rw [← hVV]; exact vs_at
    have hat2 : V1.1 (3961 + t) = V.1 (3961 + t) - (V.1 (2228 + F.1) + 2) := by rw [← hVV]; exact (vs_ne (by omega)).trans vs_at
    have hn1 : V1.2.2.1 t = m + 1 := by rw [← hVV]; exact mj_upd_self
    have hf1 : V1.2.2.2 = V.2.2.2 := by rw [← hVV]; rfl
    have hp1 : V1.2.1 = V.2.1 := by rw [← hVV]; rfl
    have hO1 : OT t V V1 := by
      rw [← hVV]
      exact OT.trans (OT.trans (OT.vs ht (vown_t (c := 3961) (by omega))) (OT.vs ht (vown_t (c := 3954) (by omega)))) OT.nf
    have hk1 : V1.1 2067 = nI k := by rw [hat _ (by omega) (by omega)]; exact hk
    have hi1 : Itp V1.2.1 t np := by rw [hp1]; exact hc.2.2.2.1
    have hof : F.2.2.1 = 0 → np ≠ 1 → vnof V1 t (np - 1) := fun e1 _ i gi => by
      rw [hn1] at gi
      rw [hf1]
      have := d1.drop (by rw [hFF]; exact e1) (fun i _ => by unfold vwd; omega) i gi
      rw [hFF] at this
      omega
    have hlt : ∀ i, i < V1.2.2.1 t → (V1.2.2.2 t i).2.1 < np := fun i gi => by
      rw [hn1] at gi
      rw [hf1]
      exact (d1.1 i (by omega)).1
    -- behind leaving
    obtain ⟨V2, hV2, x1, x2, x3, x4, x5, np2, x6, x7, x8, x9, xO⟩ : ∃ V2, V2 = (if V.1 (3933 + t) = 1 then vlv V1 t F else V1) ∧ VJ lim V2 ∧ V2.2.2 = V1.2.2 ∧ (∀ q ∈ V2.2.1, z ≤ q.2.1) ∧ (∃ k', k' ≤ k + 2 ∧ V2.1 2067 = nI k') ∧ (∀ i, i ≠ 2067 → i ≠ 4066 + t → V2.1 i = V1.1 i) ∧ ∃ np2, np2 = (if F.2.2.1 ≠ 0 ∨ F.2.1 = 0 then np else np - 1) ∧ V2.1 (4066 + t) = nI np2 ∧ vsame V1 V2.2.1 t np np2 ∧ (V.1 (3933 + t) = 0 → V2.2.1 = V.2.1) ∧ OT t V1 V2 := by
      by_cases cm : V.1 (3933 + t) = 1
      · refine ⟨_, (if_pos cm).symm, ?_⟩
        obtain ⟨v1, v2, v3, v4, v5, np2, v6, v7, v8⟩ := vlv_inv (F := F) (z := z) (lim := lim) hj1 ht (by rw [hat _ (by omega) (by omega)]; exact hc.2.1) hc.2.2.1 hi1 d2 hof hlt hk1 (by rw [hp1]; exact hq)
        exact ⟨v1, v2, v3, v4, v5, np2, v6, v7, v8, fun e => by rw [cm] at e; exact absurd e (by decide), OT.lv ht⟩
      · refine ⟨V1, (if_neg cm).symm, hj1, rfl, by rw [hp1]; exact hq, ⟨k, by omega, hk1⟩, fun _ _ _ => rfl, np, ?_, by rw [hat _ (by omega) (by omega)]; exact hc.2.1, ⟨hi1, fun i hi => ⟨hlt i hi, rfl, rfl⟩⟩, fun _ => hp1, OT.refl⟩
        rcases hc.2.2.2.2.1 with ⟨-, e, -⟩ | e
        · rw [if_pos (Or.inr (by omega))]
        · exact absurd e cm
    have hrt : vrt Z V t v = (if 2048 ≤ F.2.2.2.1 then vfv (vnu (vrb V2 t m F) t m (V.1 (vco (F.2.2.2.1 % 1024 / 32) (F.2.2.2.1 % 32 - 1) + 3)).toInt.toNat v) t (V.1 (vco (F.2.2.2.1 % 1024 / 32) (F.2.2.2.1 % 32 - 1) + 1)) else vnu (vrb V2 t m F) t m (V.1 (vco (F.2.2.2.1 % 1024 / 32) (F.2.2.2.1 % 32 - 1) + 3)).toInt.toNat v) := by
      unfold vrt
      dsimp only
      rw [hn, Nat.add_sub_cancel, hFF, hVV, ← hV2, if_neg (by omega), Nat.add_sub_cancel]
      rfl
    have hO2 : OT t V V2 := hO1.trans xO
    have e23 : V2.2.2.2 = V.2.2.2 := by rw [x2, hf1]
    have e22 : V2.2.2.1 t = m + 1 := by rw [x2, hn1]
    have hsm : Itp V2.2.1 t np2 ∧ ∀ i, i < m + 1 → (V.2.2.2 t i).2.1 < np2 ∧ vat V2.2.1 t (V.2.2.2 t i).2.1 = vat V.2.1 t (V.2.2.2 t i).2.1 ∧ vln V2.2.1 t (V.2.2.2 t i).2.1 = vln V.2.1 t (V.2.2.2 t i).2.1 := by
      refine ⟨x8.1, fun i hi => ?_⟩
      have := x8.2 i (by rw [hn1]; exact hi)
      rw [hf1, hp1] at this
      exact this
    have hw2 : ∀ i, i ≠ 2067 → i ≠ 4066 + t → i ≠ 3961 + t → i ≠ 3954 + t → V2.1 i = V.1 i := fun i g1 g2 g3 g4 => (x5 i g1 g2).trans (hat i g3 g4)
    have key := fun (V5 : vV) => vi_rb (V5 := V5) (V2 := V2) (m := m) (np := np) (np2 := np2) hI ht hb hbz (by omega) hc.2.1 (by have := hc.2.2.1; omega) hO2 x1 e22 (by rw [e23]) (by rw [hzz]; exact x3) (by obtain ⟨k', g1, g2⟩ := x4; exact ⟨k', by omega, g2⟩) (by rw [hFF]; exact x6) x7 hsm x9 (fun c hc => hw2 _ (by omega) (by omega) (by omega) (by omega)) (by rw [x5 _ (by omega) (by omega)]; exact hat1) (by rw [x5 _ (by omega) (by omega), hFF]; exact hat2)
    rw [hFF] at key
    obtain ⟨n', np', c1, c2, c3, c4, c5, c6, c7, c8, c9, c10, c11, c12, c13, c14, c15, c16, c17⟩ := hbz
    have hnm : n' = m + 1 := by omega
    subst hnm
    rw [vos_1 (n := m + 1), hFF] at c14 c15 c16
    have hvb := c9.2.2.1 m (by omega)
    rw [hFF] at hvb
    obtain ⟨b1, b2, b3, b4, b5⟩ := hvb
    have hfm := (c9.1 m (by omega)).1
    have hsd2 : Isd V2.1 := isd_ot hI.2.2.2.1 hO2 (fun i hi => hw2 i (by omega) (by omega) (by omega) (by omega))
    rw [hrt]
    by_cases cc : 2048 ≤ F.2.2.2.1
    · rw [if_pos cc, vfv_nu]
      obtain ⟨x, e1, e2, e3⟩ : ∃ x, V.1 (vco (F.2.2.2.1 % 1024 / 32) (F.2.2.2.1 % 32 - 1) + 1) = nI x ∧ 1 ≤ x ∧ x ≤ 40 := by
        have hv := (hI.2.1 _ hfm).2.2 _ b4
        unfold vlin vcan at hv
        rcases b5 with ⟨b5, -⟩ | ⟨-, b5, -⟩
        · omega
        · obtain ⟨⟨x, y1, y2, y3⟩, -⟩ := hv.2.2.2.2.2.2.2.2.2 b5
          exact ⟨x, by rw [b2]; exact y1, y2, y3⟩
      have hfo : vfo V.1 F = x := by
        unfold vfo
        rw [if_pos cc, e1, nI_int (by omega)]
        rfl
      rw [hfo] at c14 c15 c16
      rw [e1]
      refine vi_nu ?_ ht
      have g : ∀ i, i ≠ 3982 + t → i ≠ 3975 + t → i ≠ 3968 + t → i ≠ 2067 → i ≠ 4066 + t → i ≠ 3961 + t → i ≠ 3954 + t → (vrb V2 t m F).1 i = V.1 i := fun i g1 g2 g3 g4 g5 g6 g7 => (vrb_ne g1 g2 g3).trans (hw2 i g4 g5 g6 g7)
      rcases c16 with ⟨-, c16⟩ | ⟨ks, k1, k2, k3, k4⟩
      · omega
      have hOr : OT t V2 (vrb V2 t m F) := OT.rb ht
      have hsdr : Isd (vrb V2 t m F).1 := isd_ot hsd2 hOr (fun i hi => vrb_ne (by omega) (by omega) (by omega))
      have r52 : (vrb V2 t m F).1 2067 = V2.1 2067 := vrb_ne (by omega) (by omega) (by omega)
      have r96 : (vrb V2 t m F).1 (3996 + t) - nI x = nI (vos V.1 (V.2.2.2 t) (m + 1)) := by
        rw [g _ (by omega) (by omega) (by omega) (by omega) (by omega) (by omega) (by omega), c14, nI_sub (by omega)]
        congr 1
        omega
      have r89 : (vrb V2 t m F).1 (3989 + t) = nI ks := by rw [g _ (by omega) (by omega) (by omega) (by omega) (by omega) (by omega) (by omega)]; exact k2
      have r23 : (vrb V2 t m F).1 (3923 + ks) = nI t := by rw [g _ (by omega) (by omega) (by omega) (by omega) (by omega) (by omega) (by omega)]; exact k3
      generalize hR : vrb V2 t m F = R at *
      by_cases cv : 0 < vos V.1 (V.2.2.2 t) (m + 1)
      · rw [vfv_a (by rw [r96, nI_int (by omega)]; omega), r96]
        have gg : ∀ i, i ≠ 2063 → i ≠ 3996 + t → (vs (vcn R 9 1) (3996 + t) (nI (vos V.1 (V.2.2.2 t) (m + 1)))).1 i = R.1 i := fun i q1 q2 => (vs_ne q2).trans (vcn_ne (by omega))
        have hO6 : OT t R (vs (vcn R 9 1) (3996 + t) (nI (vos V.1 (V.2.2.2 t) (m + 1)))) := OT.trans (OT.cn ht (by omega)) (OT.vs ht (vown_t (c := 3996) (by omega)))
        refine key _ rfl (fun c hc => gg _ (by omega) (by omega)) ((gg _ (by omega) (by omega)).trans r52) (hOr.trans hO6) (isd_ot hsdr hO6 (fun i hi => gg i (by omega) (by omega))) vs_at (Or.inr ⟨ks, k1, (gg _ (by omega) (by omega)).trans r89, (gg _ (by omega) (by omega)).trans r23, cv⟩)
      · rw [vfv_b (by rw [r96, nI_int (by omega)]; omega), r96, r89, nI_int (by omega), Int.toNat_natCast]
        have gg : ∀ i, i ≠ 2063 → i ≠ 3996 + t → i ≠ 3923 + ks → i ≠ 3989 + t → (vs (vs (vs (vcn R 9 1) (3996 + t) (nI (vos V.1 (V.2.2.2 t) (m + 1)))) (3923 + ks) (-1)) (3989 + t) (-1)).1 i = R.1 i := fun i q1 q2 q3 q4 => (vs_ne q4).trans ((vs_ne q3).trans ((vs_ne q2).trans (vcn_ne (by omega))))
        have hO6 : OT t R (vs (vcn R 9 1) (3996 + t) (nI (vos V.1 (V.2.2.2 t) (m + 1)))) := OT.trans (OT.cn ht (by omega)) (OT.vs ht (vown_t (c := 3996) (by omega)))
        have hO7 : OT t R (vs (vs (vs (vcn R 9 1) (3996 + t) (nI (vos V.1 (V.2.2.2 t) (m + 1)))) (3923 + ks) (-1)) (3989 + t) (-1)) := OT.trans (OT.trans hO6 (ot_sb ht k1 ((vs_ne (by omega)).trans ((vcn_ne (by omega)).trans r23)))) (OT.vs ht (vown_t (c := 3989) (by omega)))
        refine key _ rfl (fun c hc => gg _ (by omega) (by omega) (by omega) (by omega)) ((gg _ (by omega) (by omega) (by omega) (by omega)).trans r52) (hOr.trans hO7) ?_ ((vs_ne (by omega)).trans ((vs_ne (by omega)).trans vs_at)) (Or.inl ⟨vs_at, by omega⟩)
        intro k' hk'
        by_cases e : k' = ks
        · subst e
          exact Or.inl ((vs_ne (by omega)).trans vs_at)
        · rw [gg _ (by omega) (by omega) (by omega) (by omega)]
          rcases hsdr k' hk' with h1 | ⟨t', h1, h2, h3⟩
          · exact Or.inl h1
          · refine Or.inr ⟨t', h1, h2, ?_⟩
            by_cases et : t' = t
            · subst et
              rw [r89] at h3
              exact absurd ((nI_inj (by omega) (by omega)).mp h3).symm e
            · exact (gg _ (by omega) (by omega) (by omega) (by omega)).trans h3
    · rw [if_neg cc]
      have hfo : vfo V.1 F = 0 := by unfold vfo; rw [if_neg cc]
      rw [hfo, Nat.add_zero] at c14 c15 c16
      have g : ∀ i, i ≠ 3982 + t → i ≠ 3975 + t → i ≠ 3968 + t → i ≠ 2067 → i ≠ 4066 + t → i ≠ 3961 + t → i ≠ 3954 + t → (vrb V2 t m F).1 i = V.1 i := fun i g1 g2 g3 g4 g5 g6 g7 => (vrb_ne g1 g2 g3).trans (hw2 i g4 g5 g6 g7)
      refine vi_nu (key (vrb V2 t m F) rfl (fun _ _ => rfl) (vrb_ne (by omega) (by omega) (by omega)) (OT.rb ht) ?_ ?_ ?_) ht
      · exact isd_ot hsd2 (OT.rb ht) (fun i hi => vrb_ne (by omega) (by omega) (by omega))
      · rw [g _ (by omega) (by omega) (by omega) (by omega) (by omega) (by omega) (by omega)]
        exact c14
      · rw [g _ (by omega) (by omega) (by omega) (by omega) (by omega) (by omega) (by omega)]
        rcases c16 with c16 | ⟨k, k1, k2, k3, k4⟩
        · exact Or.inl c16
        · exact Or.inr ⟨k, k1, k2, (g _ (by omega) (by omega) (by omega) (by omega) (by omega) (by omega) (by omega)).trans k3, k4⟩
end
end
section
/-! ===== a foreign call keeps what always holds ===== -/
theorem bk_f {g l : Nat} (hg : g < 10) (hl : l < 16) : (2048 ≤ 32 * g + (l + 1) + 2048 ∧ 32 * g + (l + 1) + 2048 < 3072) ∧ (32 * g + (l + 1) + 2048) % 1024 / 32 = g ∧ (32 * g + (l + 1) + 2048) % 32 = l + 1 := by omega
section
variable {lim B t l x : Nat} {V V1 : vV} {v : Int32}
/-- its state is another one of the two -/
theorem vi_sta (hI : VI lim B V) (ht : t < 6) (hb : vbz V.1 t) (hv : v = 1 ∨ v = 2) : VI lim B (vs V (3926 + t) v) := by
  refine hI.ot (B' := B) (OT.vs (v := v) ht (vown_t (c := 3926) (by omega))) ht ⟨hI.2.2.1.1, hI.2.2.1.2.1, hI.2.2.1.2.2⟩ ?_ ?_ ?_
  · exact isd_ot hI.2.2.2.1 (OT.vs (v := v) ht (vown_t (c := 3926) (by omega))) (fun i hi => vs_ne (by omega))
  · obtain ⟨k, k1, k2⟩ := hI.2.2.2.2.1
    exact ⟨k, k1, (vs_ne (by omega)).trans k2⟩
  · rcases hI.2.2.2.2.2 t ht with ⟨b1, b2⟩ | b
    · refine Or.inl ⟨?_, b2.vs hI.2.1 (by omega) (by omega) (fun e => absurd e (by omega))⟩
      unfold vbz
      rw [vs_at]
      exact hv
    · exfalso
      rcases hb with e | e <;> rcases b.2.2.2.2.2.2.2.1 with g | g | g <;> rw [e] at g <;> exact absurd g (by decide)
/-- a side is taken -/
theorem ot_st {k : Nat} (ht : t < 6) (hk : k < 3) (h : V.1 (3923 + k) = -1) : OT t V (vs V (3923 + k) (nI t)) := by
  refine ⟨vpe.upd (by omega), fun i h1 h2 => vs_ne (by omega), fun t' ht' hne => ⟨fun j hj => vs_ne (by omega), rfl, rfl⟩, fun _ _ => Iff.rfl, fun _ _ _ => rfl, fun k' hk' t' ht' hne => ?_⟩
  by_cases e : k' = k
  · subst e
    rw [vs_at, h]
    constructor
    · intro e; exact absurd ((nI_inj (by omega) (by omega)).mp e).symm hne
    · intro e; exact absurd e.symm (nI_m1 (by omega))
  · rw [vs_ne (by omega)]
/-- with a side of its own -/
theorem vsd_ot (hI : VI lim B V) (ht : t < 6) (hz : (V.1 2052).toInt.toNat ≤ 3) (h : vsd V t = some V1) : OT t V V1 ∧ Isd V1.1 ∧ V1.2 = V.2 ∧ (∃ k, k < 3 ∧ V1.1 (3989 + t) = nI k ∧ V1.1 (3923 + k) = nI t ∧ (V.1 (3989 + t) = -1 → V.1 (3923 + k) = -1) ∧ ∀ i, i ≠ 3989 + t → i ≠ 3923 + k → V1.1 i = V.1 i) ∧ (V.1 (3989 + t) ≠ -1 → V1 = V) := by
  unfold vsd at h
  split at h
  · rename_i c
    split at h
    · cases h
    · rename_i y e
      cases h
      obtain ⟨e1, e2, e3⟩ := vfs_lt e
      have hO : OT t V (vs (vs V (3923 + y) (nI t)) (3989 + t) (nI y)) := OT.trans (ot_st ht (by omega) e3) (OT.vs ht (vown_t (c := 3989) (by omega)))
      refine ⟨hO, fun k hk => ?_, rfl, ⟨y, by omega, vs_at, (vs_ne (by omega)).trans vs_at, fun _ => e3, fun i g1 g2 => (vs_ne g1).trans (vs_ne g2)⟩, fun e => absurd c e⟩
      by_cases ek : k = y
      · subst ek
        exact Or.inr ⟨t, ht, (vs_ne (by omega)).trans vs_at, vs_at⟩
      · rw [vs_ne (by omega), vs_ne (by omega)]
        rcases hI.2.2.2.1 k hk with h1 | ⟨t', h1, h2, h3⟩
        · exact Or.inl h1
        · refine Or.inr ⟨t', h1, h2, ?_⟩
          by_cases et : t' = t
          · subst et
            rw [c] at h3
            exact absurd h3.symm (nI_m1 (by omega))
          · exact (vs_ne (by omega)).trans ((vs_ne (by omega)).trans h3)
  · rename_i c
    cases h
    obtain ⟨k, hk, e⟩ := (hI.sid ht).resolve_left c
    exact ⟨OT.refl, hI.2.2.2.1, rfl, ⟨k, hk, e, hI.sdt ht hk e, fun e => absurd e c, fun _ _ _ => rfl⟩, fun _ => rfl⟩
theorem vi_fg {f slot : Int32} (hI : VI lim B V) (ht : t < 6) (hb : vbz V.1 t) (hlm : lim ≤ 10000) (hl : l < vli V.1 (vlf V t).1) (hll : V.1 (3968 + t) = nI (l + 1)) (h9 : V.1 (vco (vlf V t).1 l) = 9) (hx : V.1 (vco (vlf V t).1 l + 1) = nI x) (hf : V.1 (vco (vlf V t).1 l + 2) = f) (hs : V.1 (vco (vlf V t).1 l + 3) = slot) : VI lim (B + 4) (vfg lim V t (nI x) f slot) := by
  obtain ⟨np, z, z2, z3, k, l2, hP, h0, -, -, ⟨hz3, -, hz33⟩, ⟨k1, k2⟩, -, -, hbg, -⟩ := hI.opn ht hb hlm
  have hP0 := hP
  obtain ⟨hj, hc, -, hz, h8, hzl, -, -, hq⟩ := hP
  have hzz : (V.1 2048).toInt.toNat = z := by rw [hz, nI_int (by omega)]; rfl
  obtain ⟨d1, d2, d3, d4, d5⟩ := hc.2.2.2.2.2.2.1 h0
  have hi0 : V.2.2.1 t - 1 < V.2.2.1 t := by omega
  have hft : (vlf V t).1 < 10 := (d3.1 _ hi0).1
  have hl16 : l < 16 := by have := (hj.1.li hft).2; omega
  have hv := (hI.2.1 _ hft).2.2 l hl
  unfold vlin vcan at hv
  obtain ⟨⟨x', xx, x1, x2⟩, -, hnu⟩ := hv.2.2.2.2.2.2.2.2.2 h9
  rw [hs] at hnu
  obtain ⟨c, c1, c2, c3⟩ := hnu
  obtain ⟨zs, zs1, zs2⟩ := hI.1.2.2.2.2.2
  obtain ⟨n, np', o1, -, -, -, -, -, -, -, -, -, -, -, -, o14, o15, o16, -⟩ := (hI.bz ht h0).2
  rw [← o1] at o14 o15 o16
  have hx40 : x = x' ∧ 1 ≤ x ∧ x ≤ 40 ∨ 2147483648 ≤ x := by
    by_cases q : x < 2147483648
    · left
      rw [xx] at hx
      have := (nI_inj (by omega) q).mp hx
      omega
    · right; omega
  -- x may be taken small
  have hxe : nI x = nI x' := by rw [← hx, xx]
  rw [hxe]
  clear hx40 hxe hx
  unfold vfg
  cases hsd : vsd V t with
  | none =>
    rw [vhs_0 hsd]
    have a1 := vi_sta (v := 2) hI ht hb (Or.inr rfl)
    have hb1 : vbz (vs V (3926 + t) 2).1 t := by unfold vbz; rw [vs_at]; exact Or.inr rfl
    have a2 : VI lim B (vs (vs V (3926 + t) 2) (3968 + t) (V.1 (3968 + t) - 1)) := a1.vs ht hb1 (vown_t (c := 3968) (by omega)) (by omega) (fun _ => ⟨l, by omega, by rw [hll, li_sub (by omega)]; rfl⟩)
    have hb2 : vbz (vs (vs V (3926 + t) 2) (3968 + t) (V.1 (3968 + t) - 1)).1 t := by unfold vbz; rw [vs_ne (by omega), vs_at]; exact Or.inr rfl
    have a3 : VI lim B (vcn (vs (vs V (3926 + t) 2) (3968 + t) (V.1 (3968 + t) - 1)) 10 1) := a2.vs ht hb2 (Or.inl (by omega)) (by omega) (fun e => absurd e (by omega))
    exact a3.mono (by omega)
  | some V1 =>
    obtain ⟨hO, hsd1, e2, ⟨ks, ks1, ks2, ks3, ks4, hw⟩, hV1⟩ := vsd_ot hI ht (by rw [hz3, nI_int (by omega)]; show (z3 : Int).toNat ≤ 3; omega) hsd
    have hsc : ∀ i, i ≠ 3989 + t → (i < 3923 ∨ 3926 ≤ i) → V1.1 i = V.1 i := fun i g1 g2 => hw i g1 (by omega)
    have h96 : (vs V1 (3926 + t) 1).1 (3996 + t) + nI x' = nI (vos V.1 (V.2.2.2 t) (V.2.2.1 t) + x') := by
      rw [vs_ne (by omega), hsc _ (by omega) (by omega), o14, nI_add]
    have h53 : ((vs V1 (3926 + t) 1).1 2053).toInt = zs := by rw [vs_ne (by omega), hsc _ (by omega) (by omega), zs1, nI_int (by omega)]
    have hO2 : OT t V (vs V1 (3926 + t) 1) := hO.trans (OT.vs ht (vown_t (c := 3926) (by omega)))
    have hj2 : VJ lim (vs V1 (3926 + t) 1) := VJ.vs (hj.ww hO.1 e2) (by omega)
    have hsd2 : Isd (vs V1 (3926 + t) 1).1 := isd_ot hsd1 (OT.vs ht (vown_t (c := 3926) (by omega))) (fun i hi => vs_ne (by omega))
    by_cases cs : vos V.1 (V.2.2.2 t) (V.2.2.1 t) + x' ≤ zs
    · rw [vhs_1 hsd (by rw [h96, h53, nI_int (by omega)]; omega), h96]
      dsimp only
      generalize hV3 : vs (vs V1 (3926 + t) 1) (3996 + t) (nI (vos V.1 (V.2.2.2 t) (V.2.2.1 t) + x')) = V3
      have g3 : ∀ i, i ≠ 3989 + t → i ≠ 3923 + ks → i ≠ 3926 + t → i ≠ 3996 + t → V3.1 i = V.1 i := fun i q1 q2 q3 q4 => by rw [← hV3, vs_ne q4, vs_ne q3, hw i q1 q2]
      have g96 : V3.1 (3996 + t) = nI (vos V.1 (V.2.2.2 t) (V.2.2.1 t) + x') := by rw [← hV3]; exact vs_at
      have g26 : V3.1 (3926 + t) = 1 := by rw [← hV3]; exact (vs_ne (by omega)).trans vs_at
      have g89 : V3.1 (3989 + t) = nI ks := by rw [← hV3, vs_ne (by omega), vs_ne (by omega)]; exact ks2
      have g23 : V3.1 (3923 + ks) = nI t := by rw [← hV3, vs_ne (by omega), vs_ne (by omega)]; exact ks3
      have e32 : V3.2 = V.2 := by rw [← hV3]; exact e2
      have hO3 : OT t V V3 := by rw [← hV3]; exact hO2.trans (OT.vs ht (vown_t (c := 3996) (by omega)))
      have hsd3 : Isd V3.1 := by rw [← hV3]; exact isd_ot hsd2 (OT.vs ht (vown_t (c := 3996) (by omega))) (fun i hi => vs_ne (by omega))
      have hlf : vlf V3 t = vlf V t := by unfold vlf; rw [e32]
      have hw3 := hO3.1
      have hll3 : (V3.1 (3968 + t)).toInt.toNat = l + 1 := by rw [g3 _ (by omega) (by omega) (by omega) (by omega), hll, nI_int (by omega)]; rfl
      by_cases ct : tld V3.1 f
      · rw [if_pos ct, hlf, hll3]
        have ct0 := hw3.tl.mp ct
        obtain ⟨f', hf', f10⟩ : ∃ f', f = nI f' ∧ f' < 10 := by
          obtain ⟨q1, q2⟩ := ct0
          obtain ⟨f', y1, y2⟩ := nI_ex (v := f) (by omega)
          rw [y2, nI_int (by omega)] at q1
          exact ⟨f', y2, by omega⟩
        have hfn : f.toInt.toNat = f' := by rw [hf', nI_int (by omega)]; rfl
        rw [hfn]
        have hs1 : 1 ≤ vsz V3.1 f' := by
          have := ct.2
          rw [hfn] at this
          unfold vsz
          omega
        obtain ⟨⟨e0, e1⟩, e2', e3⟩ := bk_f hft hl16
        have hcal : vcal V3.1 (vlf V t).1 l = nI f' := by
          rw [hw3.cal hft hl16]
          unfold vcal
          rw [if_neg (by rw [h9]; decide), if_pos h9, hf, hf']
        have hcn : slot.toInt.toNat = c := by
          have := (hj.1.sz hft).2
          rw [c1, nI_int (by omega)]; rfl
        rw [hcn]
        have hfo : vfo V3.1 (f', 0, 0, 32 * (vlf V t).1 + (l + 1) + 2048, (fun _ => 0), (fun _ => none)) = x' := by
          unfold vfo
          rw [if_pos e0]
          show (V3.1 (vco ((32 * (vlf V t).1 + (l + 1) + 2048) % 1024 / 32) ((32 * (vlf V t).1 + (l + 1) + 2048) % 32 - 1) + 1)).toInt.toNat = x'
          rw [e2', e3, Nat.add_sub_cancel, hw3.co hft hl16 (by omega), xx, nI_int (by omega)]
          rfl
        have hvos : vos V3.1 (V3.2.2.2 t) (V3.2.2.1 t) = vos V.1 (V.2.2.2 t) (V.2.2.1 t) := by rw [e32]; exact vos_w hw3 hI.2.1 d3 _ (Nat.le_refl _)
        have hP3 : Vpre lim V3 t np z := hP0.ww e32 (fun i hi _ => g3 i (by omega) (by omega) (by omega) (by omega)) (fun c hc => g3 _ (by omega) (by omega) (by omega) (by omega))
        refine vi_cl (k := k) (G := (f', 0, 0, 32 * (vlf V t).1 + (l + 1) + 2048, (fun _ => 0), (fun _ => none))) hI hO3 hP3 hsd3 (Or.inl g26) (by rw [g3 _ (by omega) (by omega) (by omega) (by omega)]; exact hw3.tl.mpr hbg) f10 hs1 (Or.inr ⟨e0, e1⟩) ⟨rfl, rfl⟩ ?_ ?_ ?_ (fun e => ?_) (fun _ => ?_) (fun hb0 p hp => ?_) (fun _ => ⟨l, ?_, ?_, ?_⟩) (by rw [g3 _ (by omega) (by omega) (by omega) (by omega)]; exact k1) (by omega)
        · rw [hfo, hvos]; exact g96
        · rw [hfo, hvos]; omega
        · rw [hfo, hvos]
          exact Or.inr ⟨ks, ks1, g89, g23, by omega⟩
        · rw [e32] at e; omega
        · show 32 * (vlf V t).1 + (l + 1) + 2048 < 4096 ∧ (32 * (vlf V t).1 + (l + 1) + 2048) % 1024 / 32 = (V3.2.2.2 t (V3.2.2.1 t - 1)).1 ∧ 1 ≤ (32 * (vlf V t).1 + (l + 1) + 2048) % 32 ∧ (32 * (vlf V t).1 + (l + 1) + 2048) % 32 - 1 < vli V3.1 (V3.2.2.2 t (V3.2.2.1 t - 1)).1 ∧ (_ ∨ (2048 ≤ 32 * (vlf V t).1 + (l + 1) + 2048 ∧ V3.1 (vco (V3.2.2.2 t (V3.2.2.1 t - 1)).1 ((32 * (vlf V t).1 + (l + 1) + 2048) % 32 - 1)) = 9 ∧ V3.1 (vco (V3.2.2.2 t (V3.2.2.1 t - 1)).1 ((32 * (vlf V t).1 + (l + 1) + 2048) % 32 - 1) + 2) = nI f'))
          rw [e32]
          show 32 * (vlf V t).1 + (l + 1) + 2048 < 4096 ∧ (32 * (vlf V t).1 + (l + 1) + 2048) % 1024 / 32 = (vlf V t).1 ∧ 1 ≤ (32 * (vlf V t).1 + (l + 1) + 2048) % 32 ∧ (32 * (vlf V t).1 + (l + 1) + 2048) % 32 - 1 < vli V3.1 (vlf V t).1 ∧ (_ ∨ (2048 ≤ 32 * (vlf V t).1 + (l + 1) + 2048 ∧ V3.1 (vco (vlf V t).1 ((32 * (vlf V t).1 + (l + 1) + 2048) % 32 - 1)) = 9 ∧ V3.1 (vco (vlf V t).1 ((32 * (vlf V t).1 + (l + 1) + 2048) % 32 - 1) + 2) = nI f'))
          rw [e3, Nat.add_sub_cancel, (hw3.sz hft).2.2.1, hw3.co0 hft hl16, hw3.co hft hl16 (by omega)]
          exact ⟨by omega, e2', by omega, hl, Or.inr ⟨e0, h9, by rw [hf, hf']⟩⟩
        · unfold vha at hp
          by_cases cb : bt (V3.1 (2238 + (vlf V t).1)) c
          · rw [(hw3.sz hft).2.2.2] at cb
            exact absurd cb c3
          · rw [if_neg cb] at hp
            cases hp
        · rw [e32]
          show l < vli V3.1 (vlf V t).1
          rw [(hw3.sz hft).2.2.1]; exact hl
        · rw [e32]
          show tld V3.1 (vcal V3.1 (vlf V t).1 l)
          rw [hcal, ← hf']; exact ct
        · rw [e32]
          show (vcal V3.1 (vlf V t).1 l).toInt.toNat = f'
          rw [hcal, nI_int (by omega)]
          rfl
      · rw [if_neg ct, vfv_nu]
        refine vi_nu ?_ ht
        have h0' : V3.1 (3996 + t) - nI x' = nI (vos V.1 (V.2.2.2 t) (V.2.2.1 t)) := by rw [g96, nI_sub (by omega)]; congr 1; omega
        have a1 : VI lim B (vcn V 9 1) := hI.vs ht hb (Or.inl (by omega)) (by omega) (fun e => absurd e (by omega))
        have a2 : VI lim B (vs (vcn V 9 1) (3926 + t) 1) := vi_sta a1 ht (by unfold vbz; rw [vcn_ne (by omega)]; exact hb) (Or.inl rfl)
        have hsame : vfv V3 t (nI x') = vs (vcn V 9 1) (3926 + t) 1 := by
          have h92 : (vcn V 9 1).1 2063 = V.1 2063 + 1 := vs_at
          by_cases cv : 0 < vos V.1 (V.2.2.2 t) (V.2.2.1 t)
          · rw [vfv_a (by rw [h0', nI_int (by omega)]; omega), h0']
            have hV : V1 = V := hV1 (fun e => by rcases o16 with ⟨-, q⟩ | ⟨k, q1, q2, -⟩; omega; rw [e] at q2; exact absurd q2.symm (nI_m1 (by omega)))
            subst hV
            refine Prod.ext (funext fun i => ?_) e32
            by_cases i1 : i = 3996 + t
            · subst i1
              rw [vs_at, vs_ne (by omega), vcn_ne (by omega)]; exact o14.symm
            · rw [vs_ne i1]
              by_cases i2 : i = 2063
              · subst i2
                rw [vs_ne (by omega), h92]
                show (vs V3 (2054 + 9) (V3.1 (2054 + 9) + 1)).1 2063 = _
                rw [vs_at, g3 _ (by omega) (by omega) (by omega) (by omega)]
              · rw [vcn_ne (by omega)]
                by_cases i3 : i = 3926 + t
                · subst i3
                  rw [vs_at]; exact g26
                · rw [vs_ne i3, vcn_ne (by omega), ← hV3, vs_ne i1, vs_ne i3]
          · rw [vfv_b (by rw [h0', nI_int (by omega)]; omega), h0', g89, nI_int (by omega), Int.toNat_natCast]
            have hm1 : V.1 (3989 + t) = -1 := by
              rcases o16 with ⟨q, -⟩ | ⟨k, q1, q2, q3, q4⟩
              · exact q
              · omega
            refine Prod.ext (funext fun i => ?_) e32
            by_cases i1 : i = 3989 + t
            · subst i1
              rw [vs_at, vs_ne (by omega), vcn_ne (by omega), hm1]
            · rw [vs_ne i1]
              by_cases i2 : i = 3923 + ks
              · subst i2
                rw [vs_at, vs_ne (by omega), vcn_ne (by omega), ks4 hm1]
              · rw [vs_ne i2]
                by_cases i3 : i = 3996 + t
                · subst i3
                  rw [vs_at, vs_ne (by omega), vcn_ne (by omega)]; exact o14.symm
                · rw [vs_ne i3]
                  by_cases i4 : i = 2063
                  · subst i4
                    rw [vs_ne (by omega), h92]
                    show (vs V3 (2054 + 9) (V3.1 (2054 + 9) + 1)).1 2063 = _
                    rw [vs_at, g3 _ (by omega) (by omega) (by omega) (by omega)]
                  · rw [vcn_ne (by omega)]
                    by_cases i5 : i = 3926 + t
                    · subst i5
                      rw [vs_at]; exact g26
                    · rw [vs_ne i5, vcn_ne (by omega), g3 i i1 i2 i5 i3]
        rw [hsame]
        exact a2.mono (by omega)
    · rw [vhs_2 hsd (by rw [h96, h53, nI_int (by omega)]; omega)]
      exact vi_out2 hI hO2 ht hj2 (by rw [hzz]; show ∀ q ∈ V1.2.1, _; rw [e2]; exact hq) hsd2 ⟨k, by omega, by rw [vs_ne (by omega), hsc _ (by omega) (by omega)]; exact k1⟩ (Or.inr ⟨ks, ks1, by rw [vs_ne (by omega)]; exact ks2, by rw [vs_ne (by omega)]; exact ks3⟩)
end
end
section
/-! ===== a step keeps what always holds ===== -/
section
variable {lim B t : Nat} {V : vV} {Z : (Nat → Int32) → Int32 → Int32 → Int32 → Bool}
theorem vi_st (hI : VI lim B V) (ht : t < 6) (hb : vbz V.1 t) (hlm : lim ≤ 10000) : VI lim (B + 4) (vst lim Z V t) := by
  obtain ⟨np, z, z2, z3, k, l, hP, h0, -, -, -, -, ⟨l1, l2⟩, -, -, -⟩ := hI.opn ht hb hlm
  obtain ⟨hj, hc, -, -, -, -, -, -, -⟩ := hP
  obtain ⟨d1, d2, d3, d4, d5⟩ := hc.2.2.2.2.2.2.1 h0
  have hi0 : V.2.2.1 t - 1 < V.2.2.1 t := by omega
  have hft : (vlf V t).1 < 10 := (d3.1 _ hi0).1
  have hI1 : VI lim B (vinc V (3947 + t)) := hI.vs ht hb (vown_t (c := 3947) (by omega)) (by omega) (fun e => absurd e (by omega))
  have hb1 : vbz (vinc V (3947 + t)).1 t := by unfold vbz; rw [vinc_ne (by omega)]; exact hb
  have hI2 : VI lim B (vcn (vinc V (3947 + t)) 2 1) := hI1.vs ht hb1 (Or.inl (by omega)) (by omega) (fun e => absurd e (by omega))
  have hb2 : vbz (vcn (vinc V (3947 + t)) 2 1).1 t := by unfold vbz; rw [vcn_ne (by omega)]; exact hb1
  have hll : (V.1 (3968 + t)).toInt.toNat = l := by rw [l1, nI_int (by omega)]; rfl
  unfold vst
  dsimp only
  rw [hll]
  generalize hV1 : vcn (vinc V (3947 + t)) 2 1 = V1 at *
  have hat : ∀ i, i ≠ 3947 + t → i ≠ 2056 → V1.1 i = V.1 i := fun i g1 g2 => by rw [← hV1, vcn_ne (by omega), vinc_ne g1]
  have hV12 : V1.2 = V.2 := by rw [← hV1]; rfl
  split
  · rename_i cl
    have hl16 : l < 16 := by have := (hj.1.li hft).2; omega
    have hL : V1.1 (3968 + t) + 1 = nI (l + 1) := by rw [hat _ (by omega) (by omega), l1, nI_1]
    have hI3 : VI lim B (vs V1 (3968 + t) (V1.1 (3968 + t) + 1)) := hI2.vs ht hb2 (vown_t (c := 3968) (by omega)) (by omega) (fun _ => ⟨l + 1, by omega, hL⟩)
    have hb3 : vbz (vs V1 (3968 + t) (V1.1 (3968 + t) + 1)).1 t := by unfold vbz; rw [vs_ne (by omega)]; exact hb2
    have hL3 : (vs V1 (3968 + t) (V1.1 (3968 + t) + 1)).1 (3968 + t) = nI (l + 1) := by rw [vs_at, hL]
    have hat3 : ∀ i, i ≠ 3968 + t → i ≠ 3947 + t → i ≠ 2056 → (vs V1 (3968 + t) (V1.1 (3968 + t) + 1)).1 i = V.1 i := fun i g0 g1 g2 => (vs_ne g0).trans (hat i g1 g2)
    have e32 : (vs V1 (3968 + t) (V1.1 (3968 + t) + 1)).2 = V.2 := hV12
    generalize hV3 : vs V1 (3968 + t) (V1.1 (3968 + t) + 1) = V3 at *
    have hw3 : vpe V.1 V3.1 := fun i hi => hat3 i (by omega) (by omega) (by omega)
    have hlf : vlf V3 t = vlf V t := by unfold vlf; rw [e32]
    have hv := (hI.2.1 _ hft).2.2 l cl
    unfold vlin vcan at hv
    obtain ⟨-, p0, p1, p3, p4, p5, p6, p7, p8, p9⟩ := hv
    unfold vln1
    dsimp only
    rw [hlf]
    split
    · exact (vi_nu hI3 ht).mono (by omega)
    split
    · exact (vi_nu hI3 ht).mono (by omega)
    split
    · exact (vi_nu hI3 ht).mono (by omega)
    split
    · rename_i e
      obtain ⟨q1, q2⟩ := p3 e
      obtain ⟨b, b1, b2, b3, b4, b5⟩ := vnum_nat hj.1 hft q2
      rw [b2]
      refine VI.mono (B := B) (vi_po hI3 ht (Nat.le_refl _) ?_ ?_) (by omega)
      · show b < vsz V3.1 (vlf V3 t).1
        rw [hlf, (hw3.sz hft).1]; exact b3
      · show ¬ bt (V3.1 (2238 + (vlf V3 t).1)) b
        rw [hlf, (hw3.sz hft).2.2.2]; exact b5
    split
    · exact (vi_nu hI3 ht).mono (by omega)
    split
    · split
      · exact hI3.mono (by omega)
      · exact (vi_nu hI3 ht).mono (by omega)
    split
    · rename_i e
      obtain ⟨⟨f, f1, f10⟩, ⟨k0, y1, y2⟩, q3⟩ := p6 e
      have hsz := (hj.1.sz hft).2
      split
      · rename_i ct
        have hfn : (V.1 (vco (vlf V t).1 l + 1)).toInt.toNat = f := by rw [f1, nI_int (by omega)]; rfl
        have hkn : (V.1 (vco (vlf V t).1 l + 2)).toInt.toNat = k0 := by rw [y1, nI_int (by omega)]; rfl
        have hs1 : 1 ≤ vsz V3.1 f := by
          have := ct.2
          rw [hfn] at this
          unfold vsz
          omega
        rw [hfn, hkn]
        have := vi_call (l := l) (k0 := k0) hI3 ht hb3 hlm f10 hs1 (by rw [hlf, (hw3.sz hft).2.2.1]; exact cl) (by rw [hlf, hw3.co0 hft hl16]; exact e) (by rw [hlf, hw3.co hft hl16 (by omega)]; exact f1) (by rw [f1] at ct; exact ct) (by rw [hlf, (hw3.sz hft).1]; exact y2)
        rw [hlf] at this
        exact this.mono (by omega)
      · exact (vi_nu hI3 ht).mono (by omega)
    split
    · rename_i e
      obtain ⟨-, l9, q1, q2⟩ := p7 e
      split
      · exact hI3.mono (by omega)
      · have a : VI lim B (vs V3 (3968 + t) (V.1 (vco (vlf V t).1 l + 2))) := hI3.vs ht hb3 (vown_t (c := 3968) (by omega)) (by omega) (fun _ => ⟨l9, by omega, q1⟩)
        exact a.mono (by omega)
    split
    · exact (vi_rt hI3 ht hb3 hlm).mono (by omega)
    split
    · rename_i e
      obtain ⟨⟨x, x1, -⟩, -⟩ := p9 e
      rw [x1]
      exact vi_fg (l := l) hI3 ht hb3 hlm (by rw [hlf, (hw3.sz hft).2.2.1]; exact cl) hL3 (by rw [hlf, hw3.co0 hft hl16]; exact e) (by rw [hlf, hw3.co hft hl16 (by omega)]; exact x1) (by rw [hlf, hw3.co hft hl16 (by omega)]) (by rw [hlf, hw3.co hft hl16 (by omega)])
    · exact (vi_qu hI3 ht hb3 hlm).mono (by omega)
  · exact (vi_rt hI2 ht hb2 hlm).mono (by omega)
end
end
section
/-! ===== a task begins ===== -/
def vb5 (V : vV) (t g z : Nat) (f a mode : Int32) : vV := vs (vs (vs (vs (vs (vps (vcr V t) (vins (g, z, t, 0) V.2.1)) (3926 + t) 1) (3933 + t) mode) (4066 + t) 1) (4052 + t) f) (4059 + t) a
def vbg (lim : Nat) (V : vV) (t f : Nat) (a mode : Int32) : Bool × vV := match vgap lim 0 V.2.1 (V.1 2048).toInt.toNat with
  | none => (false, V)
  | some g => (true, vcl lim (vb5 V t g (V.1 2048).toInt.toNat (nI f) a mode) t f 0 (if bt (V.1 (2238 + f)) 0 then 0 else a, none))
section
variable {lim B t f g z : Nat} {V : vV} {a mode : Int32}
theorem vb5_ne {x : Int32} {i : Nat} (ht : t < 6) (h : i < 3926 ∨ 4073 ≤ i ∨ (i - 3926) % 7 ≠ t) : (vb5 V t g z x a mode).1 i = V.1 i := by
  unfold vb5
  rw [vs_ne (by omega), vs_ne (by omega), vs_ne (by omega), vs_ne (by omega), vs_ne (by omega)]
  exact vcr_ne ht h
theorem vb5_2 {x : Int32} : (vb5 V t g z x a mode).2 = (vins (g, z, t, 0) V.2.1, V.2.2) := rfl
theorem vb5_at {x : Int32} : (vb5 V t g z x a mode).1 (3926 + t) = 1 ∧ (vb5 V t g z x a mode).1 (3933 + t) = mode ∧ (vb5 V t g z x a mode).1 (4066 + t) = 1 ∧ (vb5 V t g z x a mode).1 (4052 + t) = x ∧ (vb5 V t g z x a mode).1 (4059 + t) = a := by
  unfold vb5
  refine ⟨?_, ?_, ?_, ?_, vs_at⟩
  · rw [vs_ne (by omega), vs_ne (by omega), vs_ne (by omega), vs_ne (by omega), vs_at]
  · rw [vs_ne (by omega), vs_ne (by omega), vs_ne (by omega), vs_at]
  · rw [vs_ne (by omega), vs_ne (by omega), vs_at]
  · rw [vs_ne (by omega), vs_at]
theorem vb5_0 {x : Int32} {c : Nat} (h : c ≠ 3926 ∧ c ≠ 3933 ∧ c ≠ 4066 ∧ c ≠ 4052 ∧ c ≠ 4059) : (vb5 V t g z x a mode).1 (c + t) = (vcr V t).1 (c + t) := by
  unfold vb5
  rw [vs_ne (by omega), vs_ne (by omega), vs_ne (by omega), vs_ne (by omega), vs_ne (by omega)]
  rfl
theorem OT.b5 {x : Int32} (ht : t < 6) : OT t V (vb5 V t g z x a mode) := by
  refine ⟨fun i hi => vb5_ne ht (by omega), fun i h1 h2 => vb5_ne ht (by omega), fun t' ht' hne => ⟨fun j hj => vb5_ne ht (by omega), rfl, rfl⟩, fun q hq => ?_, fun t' n hne => ?_, fun k hk t' ht' hne => by rw [vb5_ne ht (by omega)]⟩
  · rw [vb5_2, vins_mem]
    exact ⟨fun h => h.resolve_left (fun e => hq (by rw [e])), Or.inr⟩
  · rw [vb5_2]
    exact vfind_ins_ne (by simp [vkey]; omega)
/-- with one piece and no frame yet -/
theorem b5_pre (hI : VI lim B V) (hlm : lim ≤ 10000) (ht : t < 6) (hid : Iid V t) (hz : V.1 2048 = nI z) (hz0 : z < 2147483648) (hg : vgap lim 0 V.2.1 z = some g) (hm : mode = 0 ∨ mode = 1) {x : Int32} : Vpre lim (vb5 V t g z x a mode) t 1 z ∧ Isd (vb5 V t g z x a mode).1 := by
  have hj := hI.J
  obtain ⟨z', z1, z2, z3, z4⟩ := hI.1.1
  have hzz : z = z' := by
    rw [hz] at z1
    exact (nI_inj hz0 (by omega)).mp z1
  subst hzz
  have hzn : (V.1 2048).toInt.toNat = z := by rw [hz, nI_int (by omega)]; rfl
  obtain ⟨g1, g2⟩ := vgap0 hj.2.1 hg
  have hmem := hid.2.2.2.2.2.2.2.2
  have hO : OT t V (vb5 V t g z x a mode) := OT.b5 ht
  have hpw : (vins (g, z, t, 0) V.2.1).Pairwise (fun p q => ¬ (p.2.2.1 = q.2.2.1 ∧ p.2.2.2 = q.2.2.2)) := vkeys_pw (fun p q h e => h ⟨e.1.symm, e.2.symm⟩) hj.2.2.1 (fun p hp e => hmem p hp e.1.symm)
  have hvo : vo lim (vins (g, z, t, 0) V.2.1) := vo_ins hj.2.1 ⟨by show 1 ≤ z; omega, g1, ht, by show 0 < 4294967296; omega⟩ g2
  have hj1 : VJ lim (vps V (vins (g, z, t, 0) V.2.1)) := by
    refine hj.ps hvo hpw (fun t' ht' h0 np' a1 a2 => ?_)
    by_cases e : t' = t
    · subst e
      rw [hid.1] at h0
      omega
    · exact ⟨np', vsame_ot (t := t) e hO.2.2.2.1 hO.2.2.2.2.1 a1 a2⟩
  have hj2 : VJ lim (vb5 V t g z x a mode) := hj1.ww (V' := vb5 V t g z x a mode) hO.1 rfl
  obtain ⟨b1, b2, b3, b4, b5⟩ := vb5_at (V := V) (t := t) (g := g) (z := z) (x := x) (a := a) (mode := mode)
  have hn0 : (vb5 V t g z x a mode).2.2.1 t = 0 := hid.1
  refine ⟨⟨hj2, ⟨?_, b3, by omega, ⟨fun k hk => ?_, fun q hq e => ?_⟩, ?_, ?_, fun h0 => by rw [hn0] at h0; omega, fun _ => ⟨rfl, ?_⟩⟩, ht, (vb5_ne ht (by omega)).trans hz, z2, z3, hlm, z4, fun q hq => ?_⟩, ?_⟩
  · rw [hn0, vb5_0 (c := 3954) (by omega), vcr_0 ht (by omega) (by omega)]
    rfl
  · exact ⟨(g, z, t, 0), vins_mem.mpr (Or.inl rfl), rfl, by show 0 = k; omega⟩
  · rcases vins_mem.mp hq with rfl | hq
    · exact Or.inl (by show 0 < 1; omega)
    · exact absurd e (hmem q hq)
  · rw [b2]
    rcases hm with e | e
    · refine Or.inl ⟨e, rfl, fun q hq e2 => ?_⟩
      rcases vins_mem.mp hq with rfl | hq
      · exact absurd e2.2 (by show ¬ 0 = 1000; omega)
      · exact hmem q hq e2.1
    · exact Or.inr e
  · rw [hn0, vb5_0 (c := 3961) (by omega), vcr_0 ht (by omega) (by omega)]
    rfl
  · rw [vb5_0 (c := 3982) (by omega), vcr_0 ht (by omega) (by omega)]
  · rcases vins_mem.mp hq with rfl | hq
    · exact Nat.le_refl _
    · have := hI.2.2.1.2.2 q hq
      omega
  · refine isd_ot hI.2.2.2.1 hO (fun i hi => ?_)
    rcases hi with hi | rfl
    · exact vb5_ne ht (by omega)
    · rw [vb5_0 (c := 3989) (by omega), vcr_f.2, hid.2.2.2.2.2.1]
theorem vi_bg (hI : VI lim B V) (hlm : lim ≤ 10000) (ht : t < 6) (hid : Iid V t) (hf : f < 10) (hs1 : 1 ≤ vsz V.1 f) (hm : mode = 0 ∨ mode = 1) : VI lim (B + 3) (vbg lim V t f a mode).2 := by
  obtain ⟨z, hz, z2, z3, z4⟩ := hI.1.1
  have hzn : (V.1 2048).toInt.toNat = z := by rw [hz, nI_int (by omega)]; rfl
  unfold vbg
  rw [hzn]
  cases e : vgap lim 0 V.2.1 z with
  | none => exact hI.mono (by omega)
  | some g =>
    obtain ⟨hP, hsd⟩ := b5_pre (a := a) (x := nI f) hI hlm ht hid hz (by omega) e hm
    have hO : OT t V (vb5 V t g z (nI f) a mode) := OT.b5 ht
    obtain ⟨b1, b2, b3, b4, b5⟩ := vb5_at (V := V) (t := t) (g := g) (z := z) (x := nI f) (a := a) (mode := mode)
    obtain ⟨k, k1, k2⟩ := hI.2.2.2.2.1
    have hn0 : (vb5 V t g z (nI f) a mode).2.2.1 t = 0 := hid.1
    have hfo : vfo (vb5 V t g z (nI f) a mode).1 (f, 0, 0, 0, (fun _ => 0), (fun _ => none)) = 0 := by
      unfold vfo
      rw [if_neg (by show ¬ 2048 ≤ 0; omega)]
    have hs2 : 1 ≤ vsz (vb5 V t g z (nI f) a mode).1 f := by rw [(hO.1.sz hf).1]; exact hs1
    have ht1 : tld (vb5 V t g z (nI f) a mode).1 (nI f) := by
      refine ⟨by rw [nI_int (by omega)]; omega, ?_⟩
      rw [nI_int (by omega)]
      unfold vsz at hs2
      show 0 < ((vb5 V t g z (nI f) a mode).1 (2228 + f)).toInt
      omega
    refine vi_cl (k := k) (G := (f, 0, 0, 0, (fun _ => 0), (fun _ => none))) hI hO hP hsd (Or.inl b1) (by rw [b4]; exact ht1) hf hs2 (Or.inl (by omega)) ⟨rfl, rfl⟩ ?_ ?_ ?_ (fun _ => rfl) (fun h0 => by rw [hn0] at h0; omega) (fun _ p hp => by cases hp) (fun h0 => by rw [hn0] at h0; omega) ((vb5_ne ht (by omega)).trans k2) (by omega)
    · rw [hfo, hn0, vb5_0 (c := 3996) (by omega), vcr_0 ht (by omega) (by omega)]
      rfl
    · rw [hfo, hn0]
      show 0 + 0 ≤ 1000000
      omega
    · rw [hfo, hn0]
      exact Or.inl ⟨by rw [vb5_0 (c := 3989) (by omega)]; exact vcr_f.2, rfl⟩
end
section
variable {s : wt_S} {V : vV} {t B f : Nat} {a mode : Int32}
theorem q_begins (h : RS s V) (hI : VI 2048 B V) (hB : B < 2147483200) (ht : t < 6) (hid : Iid V t) (hf : f < 10) (hs1 : 1 ≤ vsz V.1 f) (hm : mode = 0 ∨ mode = 1) : ∃ s', gX11_begins s (nI t) (nI f) a mode = some (rb ((vbg 2048 V t f a mode).1 = true), s') ∧ RS s' (vbg 2048 V t f a mode).2 ∧ RF s s' := by
  obtain ⟨z, hz, z2, z3, z4⟩ := hI.1.1
  have hj := hI.J
  have hzn : (V.1 2048).toInt.toNat = z := by rw [hz, nI_int (by omega)]; rfl
  have hgf := q_gapFor (words := z) h.2.2.1 hj.2.1 (by omega)
  unfold gX11_begins vbg
  rw [hzn, h.se (c := 2048) (by omega), hz, hgf, cl_some]
  cases e : vgap 2048 0 V.2.1 z with
  | none =>
    rw [oI_none, if_neg (by simp), rb_neg (by simp)]
    exact ⟨s, rfl, h, RF.refl⟩
  | some g =>
    obtain ⟨g1, g2⟩ := vgap0 hj.2.1 e
    obtain ⟨hP, hsd⟩ := b5_pre (a := a) (x := nI f) hI (by omega) ht hid hz (by omega) e hm
    rw [oI_some, if_pos (nI_m1 (by omega)), q_clears ht, cl_some]
    have a1 := h.cr (t := t) ht
    have hF1 : RF s (wt_u (wt_u (wt_uf s 111 (vck (s 111) t 0)) 111 (3989 + t) (-1)) 111 (3975 + t) (-1)) := RF.cr
    generalize hs1' : wt_u (wt_u (wt_uf s 111 (vck (s 111) t 0)) 111 (3989 + t) (-1)) 111 (3975 + t) (-1) = s1 at a1 hF1 ⊢
    have hjc : VJ 2048 (vcr V t) := hj.ww (fun i hi => vcr_ne ht (by omega)) rfl
    have hl := vlen256 hj.2.1 (fun q hq => by have := hI.2.2.1.2.2 q hq; omega) (by omega) e
    obtain ⟨w1, t1, t2, t3⟩ := q_takes (s := s1) (t := t) (a := g) (words := z) (number := 0) a1.2.2.1 hj.2.1 hl (by omega)
    have a2 : RS (wt_uf s1 111 w1) (vps (vcr V t) (vins (g, z, t, 0) V.2.1)) := a1.uf (a1.2.ps t3 t2 (fun mm hm => hm.ins hjc (fun i hi => by have hi : i < V.2.2.1 t := hi; rw [hid.1] at hi; omega)))
    have hz48 : s1 111 2048 = nI z := by rw [a1.se (c := 2048) (by omega), vcr_ne ht (by omega)]; exact hz
    rw [hz48, show gX11_takes s1 (nI t) (nI g) (nI z) 0 = _ from t1, cl_some, li_add, ix_nI (by omega) (by omega), wr_eq, li_add, ix_nI (by omega) (by omega), wr_eq, li_add, ix_nI (by omega) (by omega), wr_eq, li_add, ix_nI (by omega) (by omega), wr_eq, li_add, ix_nI (by omega) (by omega), wr_eq]
    have a3 := ((((a2.u (i := 3926 + t) (v := 1) (vtt (by omega) ht) (Or.inr (by omega))).u (i := 3933 + t) (v := mode) (vtt (by omega) ht) (Or.inr (by omega))).u (i := 4066 + t) (v := 1) (vtt (by omega) ht) (Or.inr (by omega))).u (i := 4052 + t) (v := nI f) (vtt (by omega) ht) (Or.inr (by omega))).u (i := 4059 + t) (v := a) (vtt (by omega) ht) (Or.inr (by omega))
    have a3 : RS _ (vb5 V t g z (nI f) a mode) := a3
    have hF2 : RF s (wt_u (wt_u (wt_u (wt_u (wt_u (wt_uf s1 111 w1) 111 (3926 + t) 1) 111 (3933 + t) mode) 111 (4066 + t) 1) 111 (4052 + t) (nI f)) 111 (4059 + t) a) := RF.trans hF1 (RF.trans (RF.uf (Or.inl rfl)) (RF.trans (RF.uf (Or.inl rfl)) (RF.trans (RF.uf (Or.inl rfl)) (RF.trans (RF.uf (Or.inl rfl)) (RF.trans (RF.uf (Or.inl rfl)) (RF.uf (Or.inl rfl)))))))
    obtain ⟨k, k1, k2⟩ := hI.2.2.2.2.1
    obtain ⟨z5, y1, y2, y3⟩ := hI.1.2.2.2.1
    have hO : OT t V (vb5 V t g z (nI f) a mode) := OT.b5 ht
    obtain ⟨s', f1, f2, f3⟩ := q_calls0 (a := a) (k := k) (z2 := z5) a3 hP hf (by rw [(hO.1.sz hf).1]; exact hs1) ((vb5_ne ht (by omega)).trans y1) (by omega) ((vb5_ne ht (by omega)).trans k2) (by omega) (Or.inl (by rw [vb5_0 (c := 3989) (by omega)]; exact vcr_f.2)) hid.1
    rw [(hO.1.sz hf).2.2.2] at f2
    rw [f1, cl_some, rb_pos rfl]
    exact ⟨s', rfl, f2, RF.trans hF2 f3⟩
end
end
