/-! ===== a call of a line keeps what always holds ===== -/
theorem bk_d {g l : Nat} (hg : g < 10) (hl : l < 16) : 32 * g + l + 1 < 1024 ∧ (32 * g + l + 1) % 1024 / 32 = g ∧ (32 * g + l + 1) % 32 = l + 1 := by omega
section
variable {lim B t f l k0 : Nat} {V : vV}
theorem vi_call (hI : VI lim B V) (ht : t < 6) (hb : vbz V.1 t) (hlm : lim ≤ 10000) (hf : f < 10) (hs1 : 1 ≤ vsz V.1 f) (hl : l < vli V.1 (vlf V t).1) (h6 : V.1 (vco (vlf V t).1 l) = 6) (h7 : V.1 (vco (vlf V t).1 l + 1) = nI f) (htf : tld V.1 (nI f)) (hk0 : k0 < vsz V.1 (vlf V t).1) : VI lim (B + 3) (vcl lim V t f (32 * (vlf V t).1 + l + 1) (vha V.1 f (vlf V t) k0)) := by
  obtain ⟨np, z, z2, z3, k, l2, hP, h0, -, -, -, ⟨k1, k2⟩, -, -, hbg, -⟩ := hI.opn ht hb hlm
  have hP0 := hP
  obtain ⟨hj, hc, -, -, -, -, -, -, -⟩ := hP
  obtain ⟨d1, d2, d3, d4, d5⟩ := hc.2.2.2.2.2.2.1 h0
  have hi0 : V.2.2.1 t - 1 < V.2.2.1 t := by omega
  have hft : (vlf V t).1 < 10 := (d3.1 _ hi0).1
  have hl16 : l < 16 := by have := (hj.1.li hft).2; omega
  obtain ⟨e1, e2, e3⟩ := bk_d hft hl16
  have hcal : vcal V.1 (vlf V t).1 l = nI f := by
    unfold vcal
    rw [if_pos h6, h7]
  have hfo : vfo V.1 (f, 0, 0, 32 * (vlf V t).1 + l + 1, (fun _ => 0), (fun _ => none)) = 0 := by
    unfold vfo
    rw [if_neg (by show ¬ 2048 ≤ 32 * (vlf V t).1 + l + 1; omega)]
  obtain ⟨n, np', c1, -, -, -, -, -, -, -, -, -, -, -, -, c14, c15, c16, -⟩ := (hI.bz ht h0).2
  refine vi_cl (G := (f, 0, 0, 32 * (vlf V t).1 + l + 1, (fun _ => 0), (fun _ => none))) hI OT.refl hP0 hI.2.2.2.1 hb hbg hf hs1 (Or.inl e1) ⟨rfl, rfl⟩ ?_ ?_ ?_ (fun e => ?_) (fun _ => ?_) (fun hb0 p hp => ?_) (fun _ => ⟨l, hl, ?_, ?_⟩) k1 (Nat.add_le_add_right k2 3)
  · rw [hfo, Nat.add_zero, c1]; exact c14
  · rw [hfo, Nat.add_zero, c1]; exact c15
  · rw [hfo, Nat.add_zero, c1]; exact c16
  · rw [e] at h0
    exact absurd h0 (Nat.lt_irrefl 0)
  · show 32 * (vlf V t).1 + l + 1 < 4096 ∧ (32 * (vlf V t).1 + l + 1) % 1024 / 32 = (vlf V t).1 ∧ 1 ≤ (32 * (vlf V t).1 + l + 1) % 32 ∧ (32 * (vlf V t).1 + l + 1) % 32 - 1 < vli V.1 (vlf V t).1 ∧ ((32 * (vlf V t).1 + l + 1 < 2048 ∧ V.1 (vco (vlf V t).1 ((32 * (vlf V t).1 + l + 1) % 32 - 1)) = 6 ∧ V.1 (vco (vlf V t).1 ((32 * (vlf V t).1 + l + 1) % 32 - 1) + 1) = nI f) ∨ _)
    rw [e3, Nat.add_sub_cancel]
    exact ⟨Nat.lt_trans e1 (by decide), e2, Nat.succ_le_succ (Nat.zero_le _), hl, Or.inl ⟨Nat.lt_trans e1 (by decide), h6, h7⟩⟩
  · unfold vha at hp
    by_cases cb : bt (V.1 (2238 + (vlf V t).1)) k0
    · rw [if_pos cb] at hp
      have hp : (if bt (V.1 (2238 + f)) 0 then (vlf V t).2.2.2.2.2 k0 else none) = some p := hp
      rw [if_pos hb0] at hp
      obtain ⟨x1, x2, x3⟩ := d3.2.2.2.2.2 _ hi0 k0 hk0 cb p hp
      exact ⟨Nat.lt_of_le_of_lt x1 hi0, x2, x3⟩
    · rw [if_neg cb] at hp
      cases hp
  · show tld V.1 (vcal V.1 (vlf V t).1 l)
    rw [hcal]; exact htf
  · show (vcal V.1 (vlf V t).1 l).toInt.toNat = f
    rw [hcal, nI_int (by omega)]
    rfl
end
