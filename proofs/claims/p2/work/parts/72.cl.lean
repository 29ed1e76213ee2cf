/-! ===== a call keeps what always holds ===== -/
section
variable {lim B B' t f bk np z k : Nat} {V V0 V1 : vV} {h : Int32 × Option (Nat × Nat)} {G : vF}
theorem isd_ot (hsd : Isd V.1) (hO1 : OT t V V1) (hsc : ∀ i, (3923 ≤ i ∧ i < 3926) ∨ i = 3989 + t → V1.1 i = V.1 i) : Isd V1.1 := by
  intro k hk
  rw [hsc _ (by omega)]
  rcases hsd k hk with e | ⟨t', x1, x2, x3⟩
  · exact Or.inl e
  · refine Or.inr ⟨t', x1, x2, ?_⟩
    by_cases c : t' = t
    · subst c
      rw [hsc _ (by omega)]; exact x3
    · have := (hO1.2.2.1 t' x1 c).1 9 (by omega)
      exact Eq.trans this x3
theorem vrs_no {i : Nat} (ht : t < 6) (hi : (3923 ≤ i ∧ i < 3926) ∨ i = 3996 + t ∨ i = 3989 + t ∨ i = 3926 + t ∨ i = 4052 + t) : ¬ vrs t i := fun q => by
  unfold vrs vgs at q
  omega
theorem vmg_d {w : Nat → Int32} (hm : vmg w f = true) : ∃ d, vdp w 10 f = some d ∧ d ≤ (w 2051).toInt.toNat ∧ vnd w f = d := by
  have hm0 := hm
  unfold vmg at hm
  cases e : vdp w 10 f with
  | none => rw [e] at hm; simp at hm
  | some d =>
    rw [e] at hm
    have h2 : d ≤ (w 2051).toInt.toNat := by
      simp at hm
      exact hm.2
    refine ⟨d, rfl, h2, ?_⟩
    unfold vnd
    rw [if_pos hm0, e]
    rfl
theorem vi_cl (hI : VI lim B V0) (hO : OT t V0 V) (hP : Vpre lim V t np z) (hsd : Isd V.1) (hbz : vbz V.1 t) (htl : tld V.1 (V.1 (4052 + t))) (hf : f < 10) (hs1 : 1 ≤ vsz V.1 f) (hB : bk < 1024 ∨ (2048 ≤ bk ∧ bk < 3072)) (hG : G.1 = f ∧ G.2.2.2.1 = bk)
    (hos : V.1 (3996 + t) = nI (vos V.1 (V.2.2.2 t) (V.2.2.1 t) + vfo V.1 G)) (hoB : vos V.1 (V.2.2.2 t) (V.2.2.1 t) + vfo V.1 G ≤ 1000000)
    (hsi : (V.1 (3989 + t) = -1 ∧ vos V.1 (V.2.2.2 t) (V.2.2.1 t) + vfo V.1 G = 0) ∨ ∃ k, k < 3 ∧ V.1 (3989 + t) = nI k ∧ V.1 (3923 + k) = nI t ∧ 1 ≤ vos V.1 (V.2.2.2 t) (V.2.2.1 t) + vfo V.1 G)
    (hb0 : V.2.2.1 t = 0 → bk = 0) (hb : 0 < V.2.2.1 t → vbk V.1 G (V.2.2.2 t (V.2.2.1 t - 1)))
    (hq : bt (V.1 (2238 + f)) 0 → ∀ p, h.2 = some p → p.1 < V.2.2.1 t ∧ p.2 < vsz V.1 (V.2.2.2 t p.1).1 ∧ ¬ bt (V.1 (2238 + (V.2.2.2 t p.1).1)) p.2)
    (hE : 0 < V.2.2.1 t → vE V.1 (V.2.2.2 t (V.2.2.1 t - 1)).1 f) (hk : V.1 2067 = nI k) (hkB : k + 3 ≤ B') : VI lim B' (vcl lim V t f bk h) := by
  have hP0 := hP
  obtain ⟨hj, hc, ht, hz, h8, hzl, hl, hl2, hqz⟩ := hP
  have hk1 : k ≤ B' := by omega
  have hz0 : (V0.1 2048).toInt.toNat = z := by
    rw [← hO.2.1 2048 (by omega) (by omega), hz, nI_int (by omega)]; rfl
  unfold vcl
  by_cases c : vlc V t = true
  · rw [if_pos c]
    have hn := ((vlc_iff hj hc).2 c).1
    obtain ⟨d, x1, x2, x3⟩ := vlc_room hj hc ht c (hE hn)
    have hd := (vdp_le hj.1 hf x1).1
    exact vi_up hI hO hP0 hsd hbz htl hf hs1 hB hG hos hoB hsi hb0 hb hq (V1 := vcn V 11 1) (np1 := np) (OT.cn ht (by omega)) rfl (VJ.vs hj (by omega)) hqz ⟨k, hk1, by rw [vcn_ne (by omega)]; exact hk⟩ (fun i hi => vcn_ne (by omega)) ((ico_vs hc hj.1 (by omega) (by omega)).n') (Nat.le_trans (Nat.add_le_add_left hd _) x3) (Or.inr rfl) (fun _ _ => rfl) (fun _ => ⟨d, x1, x2, x3⟩)
  · have c' : vlc V t = false := by simpa using c
    rw [if_neg c]
    have hnc := (vlc_iff hj hc).1 c'
    obtain ⟨v1, v2, v3⟩ := vrm_inv hP0 hf hs1 hk hnc
    generalize hres : vrm lim V t f = res at *
    obtain ⟨b, V1⟩ := res
    cases b with
    | true =>
      obtain ⟨a1, a2, a3, ⟨k', a4, a4'⟩, a5, np2, a6, a7⟩ := v1 rfl
      have hO1 : OT t V V1 := by simpa using v3
      have hnd := vnd_ge (w := V.1) hj.1 hf
      have a7 : vud V.1 (V.2.2.2 t) (np2 - 1) (V.2.2.1 t) + vnd V.1 f ≤ vln V1.2.1 t (np2 - 1) := a7
      show VI lim B' (vpu V1 t f (bk + if vmg V.1 f = true then 1024 else 0) h.1 h.2)
      refine vi_up hI hO hP0 hsd hbz htl hf hs1 hB hG hos hoB hsi hb0 hb hq hO1 a2 a1 a3 ⟨k', by omega, a4'⟩ (fun i hi => a5 i (vrs_no ht hi)) a6 (Nat.le_trans (Nat.add_le_add_left hnd _) a7) ?_ (fun e1 e2 => ?_) (fun e => ?_)
      · by_cases cm : vmg V.1 f = true
        · rw [if_pos cm]; exact Or.inr rfl
        · rw [if_neg cm]; exact Or.inl rfl
      · exact absurd e2 (hnc _ (by omega))
      · by_cases cm : vmg V.1 f = true
        · obtain ⟨d, d1, d2, d3⟩ := vmg_d cm
          rw [d3] at a7
          exact ⟨d, d1, d2, a7⟩
        · rw [if_neg cm] at e
          exact absurd e (by omega)
    | false =>
      obtain ⟨V2, y1, y2, y3, y4, ⟨k', y5, y5'⟩, y6, y7⟩ := v2 rfl
      have y1 : V1 = vot V2 t := y1
      show VI lim B' V1
      rw [y1]
      refine vi_out2 hI (hO.trans y7) ht y2 (by rw [hz0]; exact y4) (isd_ot hsd y7 (fun i hi => y6 i (vrs_no ht (by omega)))) ⟨k', by omega, y5'⟩ ?_
      rw [y6 _ (vrs_no ht (by omega))]
      rcases hsi with e | ⟨j, j1, j2, j3, -⟩
      · exact Or.inl e.1
      · exact Or.inr ⟨j, j1, j2, (y6 _ (vrs_no ht (by omega))).trans j3⟩
end
