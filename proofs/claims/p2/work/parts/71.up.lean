/-! ===== a frame comes behind room that was made ===== -/
section
variable {w w' : Nat → Int32} {F F' G : vF}
theorem vbk_up (hw : vpe w w') (hp : Ipr w) (hG : G.1 < 10) (h1 : F'.1 = F.1) (hB : F.2.2.2.1 < 1024 ∨ (2048 ≤ F.2.2.2.1 ∧ F.2.2.2.1 < 3072)) (h2 : F'.2.2.2.1 = F.2.2.2.1 ∨ F'.2.2.2.1 = F.2.2.2.1 + 1024) (h : vbk w F G) : vbk w' F' G := by
  obtain ⟨d1, d2, d3, d4, d5⟩ := h
  have hl := (hp.li hG).2
  have e1 : F'.2.2.2.1 % 1024 = F.2.2.2.1 % 1024 := by omega
  have e2 : F'.2.2.2.1 % 32 = F.2.2.2.1 % 32 := by omega
  unfold vbk
  rw [h1, e1, e2, (hw.sz hG).2.2.1, hw.co0 hG (by omega), hw.co (j := 1) hG (by omega) (by omega), hw.co (j := 2) hG (by omega) (by omega)]
  refine ⟨by omega, d2, d3, d4, ?_⟩
  rcases d5 with ⟨x, y⟩ | ⟨x, y⟩
  · exact Or.inl ⟨by omega, y⟩
  · exact Or.inr ⟨by omega, y⟩
theorem vfo_up (hw : vpe w w') (hB : F.2.2.2.1 < 1024 ∨ (2048 ≤ F.2.2.2.1 ∧ F.2.2.2.1 < 3072)) (h2 : F'.2.2.2.1 = F.2.2.2.1 ∨ F'.2.2.2.1 = F.2.2.2.1 + 1024) (hv : 2048 ≤ F.2.2.2.1 → F.2.2.2.1 % 1024 / 32 < 10 ∧ F.2.2.2.1 % 32 - 1 < 16) : vfo w' F' = vfo w F := by
  have e1 : F'.2.2.2.1 % 1024 = F.2.2.2.1 % 1024 := by omega
  have e2 : F'.2.2.2.1 % 32 = F.2.2.2.1 % 32 := by omega
  unfold vfo
  rw [e1, e2]
  by_cases c : 2048 ≤ F.2.2.2.1
  · obtain ⟨x, y⟩ := hv c
    rw [if_pos c, if_pos (by omega), hw.co x y (by omega)]
  · rw [if_neg c, if_neg (by omega)]
end
theorem bk_a {bk b' : Nat} (h : bk = 0) (hbb : b' = bk ∨ b' = bk + 1024) : b' = 0 ∨ b' = 1024 := by omega
theorem bk_b {bk b' : Nat} (hB : bk < 1024 ∨ (2048 ≤ bk ∧ bk < 3072)) (h : b' = bk + 1024) : b' / 1024 % 2 = 1 := by omega
theorem bk_c {bk b' : Nat} (hB : bk < 1024 ∨ (2048 ≤ bk ∧ bk < 3072)) (hbb : b' = bk ∨ b' = bk + 1024) (e : b' / 1024 % 2 = 1) : b' = bk + 1024 := by omega
section
variable {lim B B' t f bk b' np np1 z : Nat} {V V0 V1 : vV} {a : Int32} {q : Option (Nat × Nat)} {G : vF}
theorem vi_up (hI : VI lim B V0) (hO : OT t V0 V) (hP : Vpre lim V t np z) (hsd : Isd V.1) (hbz : vbz V.1 t) (htl : tld V.1 (V.1 (4052 + t))) (hf : f < 10) (hs1 : 1 ≤ vsz V.1 f) (hB : bk < 1024 ∨ (2048 ≤ bk ∧ bk < 3072)) (hG : G.1 = f ∧ G.2.2.2.1 = bk)
    (hos : V.1 (3996 + t) = nI (vos V.1 (V.2.2.2 t) (V.2.2.1 t) + vfo V.1 G)) (hoB : vos V.1 (V.2.2.2 t) (V.2.2.1 t) + vfo V.1 G ≤ 1000000)
    (hsi : (V.1 (3989 + t) = -1 ∧ vos V.1 (V.2.2.2 t) (V.2.2.1 t) + vfo V.1 G = 0) ∨ ∃ k, k < 3 ∧ V.1 (3989 + t) = nI k ∧ V.1 (3923 + k) = nI t ∧ 1 ≤ vos V.1 (V.2.2.2 t) (V.2.2.1 t) + vfo V.1 G)
    (hb0 : V.2.2.1 t = 0 → bk = 0) (hb : 0 < V.2.2.1 t → vbk V.1 G (V.2.2.2 t (V.2.2.1 t - 1)))
    (hq : bt (V.1 (2238 + f)) 0 → ∀ p, q = some p → p.1 < V.2.2.1 t ∧ p.2 < vsz V.1 (V.2.2.2 t p.1).1 ∧ ¬ bt (V.1 (2238 + (V.2.2.2 t p.1).1)) p.2)
    (hO1 : OT t V V1) (e22 : V1.2.2 = V.2.2) (hj1 : VJ lim V1) (hz1 : ∀ q ∈ V1.2.1, z ≤ q.2.1) (hlg1 : ∃ k, k ≤ B' ∧ V1.1 2067 = nI k) (hsc : ∀ i, (3923 ≤ i ∧ i < 3926) ∨ i = 3996 + t ∨ i = 3989 + t ∨ i = 3926 + t ∨ i = 4052 + t → V1.1 i = V.1 i) (hc1 : Icn V1 t np1) (hr1 : vud V.1 (V.2.2.2 t) (np1 - 1) (V.2.2.1 t) + vwd V.1 f ≤ vln V1.2.1 t (np1 - 1))
    (hbb : b' = bk ∨ b' = bk + 1024) (hcl : 0 < V.2.2.1 t → vcv (V.2.2.2 t (V.2.2.1 t - 1)) → b' = bk + 1024) (hcv : b' = bk + 1024 → ∃ d, vdp V.1 10 f = some d ∧ d ≤ (V.1 2051).toInt.toNat ∧ vud V.1 (V.2.2.2 t) (np1 - 1) (V.2.2.1 t) + d ≤ vln V1.2.1 t (np1 - 1)) : VI lim B' (vpu V1 t f b' a q) := by
  obtain ⟨hj, hc, ht, hz, h8, hzl, hl, hl2, hqz⟩ := hP
  obtain ⟨g1, g2⟩ := hG
  have hw := hO1.1
  have en : V1.2.2.1 = V.2.2.1 := by rw [e22]
  have ef : V1.2.2.2 = V.2.2.2 := by rw [e22]
  have hff : ∀ i, i < V.2.2.1 t → (V.2.2.2 t i).1 < 10 := fun i hi => (hj.fit ht hi).1
  have hvos : vos V1.1 (V.2.2.2 t) (V.2.2.1 t) = vos V.1 (V.2.2.2 t) (V.2.2.1 t) := by
    by_cases c : V.2.2.1 t = 0
    · rw [c]; rfl
    · exact vos_w hw hj.1 (hc.2.2.2.2.2.2.1 (by omega)).2.2.1 _ (Nat.le_refl _)
  have hfo : vfo V1.1 (vfn V1 t f b' a q) = vfo V.1 G := by
    refine vfo_up hw (by rw [g2]; exact hB) (by rw [g2]; exact hbb) (fun c => ?_)
    have hn : 0 < V.2.2.1 t := by
      rcases Nat.eq_zero_or_pos (V.2.2.1 t) with e | e
      · have := hb0 e
        omega
      · exact e
    obtain ⟨-, x2, -, x4, -⟩ := hb hn
    have hfl := hff _ (show V.2.2.1 t - 1 < V.2.2.1 t by omega)
    have := (hj.1.li hfl).2
    exact ⟨by rw [x2]; exact hfl, by omega⟩
  have hz0 : (V0.1 2048).toInt.toNat = z := by
    rw [← hO.2.1 2048 (by omega) (by omega), hz, nI_int (by omega)]; rfl
  refine vi_pu hI (hO.trans hO1) ht hj1 (by rw [hz0]; exact hz1) ?_ hlg1 hc1 ?_ ?_ ?_ hf (by rw [(hw.sz hf).1]; exact hs1) ?_ ?_ ?_ (fun e => ?_) (fun e => ⟨?_, fun e2 => ?_⟩) (fun e => ?_) (fun e p hp => ?_)
  · intro k hk
    rw [hsc _ (by omega)]
    rcases hsd k hk with e | ⟨t', x1, x2, x3⟩
    · exact Or.inl e
    · refine Or.inr ⟨t', x1, x2, ?_⟩
      by_cases c : t' = t
      · subst c
        rw [hsc _ (by omega)]; exact x3
      · have := (hO1.2.2.1 t' x1 c).1 9 (by omega)
        exact Eq.trans this x3
  · rw [en, ef, (hw.us hff).2, (hw.sz hf).2.1]; exact hr1
  · unfold vbz at hbz ⊢
    rw [hsc _ (by omega)]; exact hbz
  · rw [hsc _ (by omega)]; exact hw.tl.mpr htl
  · rw [hfo, en, ef, hvos, hsc _ (by omega)]; exact hos
  · rw [hfo, en, ef, hvos]; exact hoB
  · rw [hfo, en, ef, hvos, hsc _ (by omega)]
    rcases hsi with e | ⟨k, k1, k2, k3, k4⟩
    · exact Or.inl e
    · exact Or.inr ⟨k, k1, k2, (hsc _ (by omega)).trans k3, k4⟩
  · rw [en] at e
    exact bk_a (hb0 e) hbb
  · rw [en] at e ⊢
    rw [ef]
    exact vbk_up hw hj.1 (hff _ (by omega)) g1.symm (by rw [g2]; exact hB) (by rw [g2]; exact hbb) (hb e)
  · rw [en, ef] at e2
    rw [en] at e
    exact bk_b hB (hcl e e2)
  · have e : b' / 1024 % 2 = 1 := e
    obtain ⟨d, d1, d2, d3⟩ := hcv (bk_c hB hbb e)
    refine ⟨d, by rw [hw.dp hj.1 10 f hf]; exact d1, by rw [hw 2051 (Or.inr (Or.inr rfl))]; exact d2, ?_⟩
    rw [en, ef, (hw.us hff).2]; exact d3
  · rw [(hw.sz hf).2.2.2] at e
    obtain ⟨x1, x2, x3⟩ := hq e p hp
    have := hff _ x1
    rw [en, ef, (hw.sz this).1, (hw.sz this).2.2.2]
    exact ⟨x1, x2, x3⟩
end
