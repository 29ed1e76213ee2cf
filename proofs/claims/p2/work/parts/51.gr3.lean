section
variable {lim z t np k : Nat} {V : vV}
theorem vgs_ne {i j : Nat} (h : ¬ vgs t i) (hj : vgs t j) : i ≠ j := fun e => h (e ▸ hj)
/-- what growing leaves: its pieces and frames, its log, its scalars, room in the last piece -/
def Gout (lim : Nat) (V V2 : vV) (t np z k need : Nat) (b : Bool) : Prop := VJ lim V2 ∧ V2.2.2 = V.2.2 ∧ (∀ q ∈ V2.2.1, z ≤ q.2.1) ∧ (∃ k', k' ≤ k + 2 ∧ V2.1 2067 = nI k') ∧ (∀ i, ¬ vgs t i → V2.1 i = V.1 i) ∧ ∃ np2, Icn V2 t np2 ∧ (b = true → vud V.1 (V.2.2.2 t) (np2 - 1) (V.2.2.1 t) + need ≤ vln V2.2.1 t (np2 - 1) ∧ (V.1 (3933 + t) = 1 → vud V.1 (V.2.2.2 t) (np2 - 1) (V.2.2.1 t) = 0))
theorem vspl_inv {need : Nat} (hP : Vpre lim V t np z) (hn : 1 ≤ need) (hk : V.1 2067 = nI k) (hm : V.1 (3933 + t) = 1) : Gout lim V (vspl lim V t need).2 t np z k need (vspl lim V t need).1 ∧ ∀ k', V.1 2067 = nI k' → ∃ k2, k2 ≤ k' + 1 ∧ (vspl lim V t need).2.1 2067 = nI k2 := by
  obtain ⟨hj, hc, ht, hz, h8, hzl, hl, hl2, hq⟩ := hP
  have hz' : (V.1 2048).toInt.toNat = z := by rw [hz, nI_int (by omega)]; rfl
  have hnp := vnp_of hc.2.1 hc.2.2.1.2
  cases e : vgap lim 0 V.2.1 (max need z) with
  | none =>
    rw [vspl_none hz' e]
    exact ⟨⟨hj, rfl, hq, ⟨k, by omega, hk⟩, fun _ _ => rfl, np, hc.n', fun h => by cases h⟩, fun k' hk' => ⟨k', by omega, hk'⟩⟩
  | some a =>
    rw [vspl_some hz' hnp e]
    obtain ⟨g1, g2⟩ := vgap0 hj.2.1 e
    have j1 := VJ.ins (q := (a, max need z, t, np)) hj hc rfl ht rfl ⟨by show 1 ≤ max need z; omega, g1⟩ g2
    have s1 := vsame_ins (V := V) (q := (a, max need z, t, np)) hc rfl rfl (by have := hc.2.2.1; omega)
    have hz2 : ∀ p ∈ vins (a, max need z, t, np) V.2.1, z ≤ p.2.1 := fun p hp => by
      rcases vins_mem.mp hp with rfl | hp
      · show z ≤ max need z; omega
      · exact hq p hp
    have hn256 := Itp.n256 s1.1 j1.2.1 hz2 h8 hl2
    have hV : ∀ i, ¬ vgs t i → (vinc (vlg1 (vcn (vinc (vps V (vins (a, max need z, t, np) V.2.1)) (4024 + t)) 6 1)) (4066 + t)).1 i = V.1 i := fun i hi => by
      rw [vinc_ne (vgs_ne hi (by unfold vgs; omega)), vlg1_ne (vgs_ne hi (by unfold vgs; omega)), vcn_ne (vgs_ne hi (by unfold vgs; omega)), vinc_ne (vgs_ne hi (by unfold vgs; omega))]
      rfl
    have hlog : (vinc (vlg1 (vcn (vinc (vps V (vins (a, max need z, t, np) V.2.1)) (4024 + t)) 6 1)) (4066 + t)).1 2067 = V.1 2067 + 1 := by
      rw [vinc_ne (by omega), vlg1_at, vcn_ne (by omega), vinc_ne (by omega)]
      rfl
    have ng : ∀ c, 3926 ≤ c → c ≤ 4066 → c ≠ 3982 → c ≠ 4010 → c ≠ 4017 → c ≠ 4024 → c ≠ 4038 → c ≠ 4066 → (c - 3926) % 7 = 0 → ¬ vgs t (c + t) := fun c _ _ _ _ _ _ _ _ _ h => by unfold vgs at h; omega
    refine ⟨⟨?_, rfl, hz2, ⟨k + 1, by omega, by rw [hlog, hk, nI_1]⟩, hV, np + 1, ?_, fun _ => ?_⟩, fun k' hk' => ⟨k' + 1, by omega, by rw [hlog, hk', nI_1]⟩⟩
    · exact VJ.vs (VJ.vs (VJ.vs (VJ.vs j1 (by omega)) (by omega)) (by omega)) (by omega)
    · refine hc.n'.ps (V' := vinc (vlg1 (vcn (vinc (vps V (vins (a, max need z, t, np) V.2.1)) (4024 + t)) 6 1)) (4066 + t)) ?_ hj.1 rfl s1 (hV _ (ng 3954 (by omega) (by omega) (by omega) (by omega) (by omega) (by omega) (by omega) (by omega) (by omega))) ?_ ⟨by omega, hn256⟩ (Or.inr ((hV _ (ng 3933 (by omega) (by omega) (by omega) (by omega) (by omega) (by omega) (by omega) (by omega) (by omega))).trans hm)) (hV _ (ng 3961 (by omega) (by omega) (by omega) (by omega) (by omega) (by omega) (by omega) (by omega) (by omega))) ?_ (hV _ (ng 3975 (by omega) (by omega) (by omega) (by omega) (by omega) (by omega) (by omega) (by omega) (by omega))) (fun h0 => by have := (hc.2.2.2.2.2.2.2 h0).1; omega) (fun h0 => by have := (hc.2.2.2.2.2.2.1 h0).2.1; have := hc.2.2.1; omega)
      · intro i hi
        exact hV i (fun h => by unfold vgs at h; omega)
      · rw [vinc_at, vlg1_ne (by omega), vcn_ne (by omega), vinc_ne (by omega)]
        show V.1 (4066 + t) + 1 = _
        rw [hc.2.1, nI_1]
      · rw [vinc_ne (by omega), vlg1_ne (by omega), vcn_ne (by omega), vinc_ne (by omega)]
        rfl
    · show vud V.1 (V.2.2.2 t) (np + 1 - 1) (V.2.2.1 t) + need ≤ vln (vins (a, max need z, t, np) V.2.1) t (np + 1 - 1) ∧ _
      refine ⟨?_, fun _ => by rw [Nat.add_sub_cancel]; exact vud_zero (fun j hj2 => by have := ((hc.2.2.2.2.2.2.1 (by omega)).1.1 j hj2).1; omega)⟩
      rw [Nat.add_sub_cancel, vud_zero (fun j hj2 => by have := ((hc.2.2.2.2.2.2.1 (by omega)).1.1 j hj2).1; omega)]
      unfold vln
      rw [vfind_ins_eq (by simp [vkey]) (fun p hp => by
        simp only [vkey, decide_eq_false_iff_not]
        rintro ⟨e1, e2⟩
        rcases hc.2.2.2.1.2 p hp e1 with h | h <;> (have := hc.2.2.1; omega))]
      show 0 + need ≤ max need z
      omega
theorem vgr_inv {need : Nat} (hP : Vpre lim V t np z) (hn : 1 ≤ need ∧ need ≤ 100) (hk : V.1 2067 = nI k) (hnc : ∀ i, i < V.2.2.1 t → ¬ vcv (V.2.2.2 t i)) : Gout lim V (vgr lim V t need).2 t np z k need (vgr lim V t need).1 := by
  have hP0 := hP
  obtain ⟨hj, hc, ht, hz, h8, hzl, hl, hl2, hq⟩ := hP
  have hN := hc.n hj hl
  have hus := hc.2.2.2.2.2.1
  have huse := vuse_of hus (by omega)
  rcases hc.2.2.2.2.1 with ⟨m0, m1, m2⟩ | m0
  · subst m1
    obtain ⟨q, q1, q2, q3, q4, q5, -⟩ := vget (hc.2.2.2.1.1 0 (by omega))
    have hq8 := hq q q1
    have hqo := hj.2.1.2 q q1
    have hge := vdbl_ge (e := vus V.1 (V.2.2.2 t) (V.2.2.1 t) + need) (m := 16) (n := 2 * q.2.1) (by show _ ≤ 2 * q.2.1 * 65536; omega) (by omega)
    have hwd : vdbl (vuse V t + need) 16 (2 * vln V.2.1 t 0) = vdbl (vus V.1 (V.2.2.2 t) (V.2.2.1 t) + need) 16 (2 * q.2.1) := by rw [huse, q5]
    generalize hW : vdbl (vus V.1 (V.2.2.2 t) (V.2.2.1 t) + need) 16 (2 * q.2.1) = W at hge hwd
    cases e : vgap lim 0 V.2.1 W with
    | none =>
      rw [vgr_c0 m0 (by rw [hwd]; exact e)]
      exact ⟨hj, rfl, hq, ⟨k, by omega, hk⟩, fun _ _ => rfl, 1, hc.n', fun h => by cases h⟩
    | some g =>
      rw [vgr_c1 m0 (by rw [hwd]; exact e), hwd]
      obtain ⟨v1, v2, v3, v4⟩ := vmv_inv (g := g) (words := W) hP0 (vgap0 hj.2.1 e) (by omega) (by omega) (fun i hi hcv => absurd hcv (hnc i hi)) m0
      refine ⟨?_, rfl, v3, ⟨k + 1, by omega, ?_⟩, fun i hi => ?_, 1, ?_, fun _ => ?_⟩
      · exact VJ.vs (VJ.vs (VJ.vs v1 (by omega)) (by omega)) (by omega)
      · rw [vlg1_at, vcn_ne (by omega), vinc_ne (by omega), vmv_1, mj_upd_ne (by omega), mj_upd_ne (by omega), mj_upd_ne (by omega), hk, nI_1]
      · rw [vlg1_ne (vgs_ne hi (by unfold vgs; omega)), vcn_ne (vgs_ne hi (by unfold vgs; omega)), vinc_ne (vgs_ne hi (by unfold vgs; omega)), vmv_1, mj_upd_ne (vgs_ne hi (by unfold vgs; omega)), mj_upd_ne (vgs_ne hi (by unfold vgs; omega)), mj_upd_ne (vgs_ne hi (by unfold vgs; omega))]
      · exact icn_vs (icn_vs (icn_vs v2.n' v1.1 (by omega) (by omega)) (VJ.vs v1 (by omega)).1 (by omega) (by omega)) (VJ.vs (VJ.vs v1 (by omega)) (by omega)).1 (by omega) (by omega)
      · show vud V.1 (V.2.2.2 t) (1 - 1) (V.2.2.1 t) + need ≤ vln (vmv V t g W).2.1 t (1 - 1) ∧ _
        refine ⟨?_, fun h => by rw [m0] at h; exact absurd h (by decide)⟩
        rw [(vmv_at hj).2.1]
        show vud V.1 (V.2.2.2 t) 0 (V.2.2.1 t) + need ≤ W
        rw [v4]
        omega
  · cases e : V.2.1.find? (vkey t 1000) with
    | none =>
      rw [vgr_l0 m0 e]
      exact (vspl_inv hP0 hn.1 hk m0).1
    | some q =>
      have hqm := List.mem_of_find?_eq_some e
      have hqk : q.2.2.1 = t ∧ q.2.2.2 = 1000 := by simpa [vkey] using List.find?_some e
      have hnp := vnp_of hc.2.1 hc.2.2.1.2
      by_cases c : need ≤ q.2.1
      · rw [vgr_l1 m0 e hnp c]
        have hsx : ∃ q ∈ V.2.1, q.2.2.1 = t ∧ q.2.2.2 = 1000 := ⟨q, hqm, hqk⟩
        have j1 := VJ.ren hj hc hsx
        have s1 := vsame_ren hc hsx
        have hz2 : ∀ p ∈ vren t 1000 np V.2.1, z ≤ p.2.1 := fun p hp => by
          obtain ⟨p0, b1, rfl⟩ := List.mem_map.mp hp
          split <;> exact hq p0 b1
        have hn256 := Itp.n256 s1.1 j1.2.1 hz2 h8 hl2
        have hV : ∀ i, ¬ vgs t i → (vinc (vlg1 (vcn (vinc (vps V (vren t 1000 np V.2.1)) (4038 + t)) 8 1)) (4066 + t)).1 i = V.1 i := fun i hi => by
          rw [vinc_ne (vgs_ne hi (by unfold vgs; omega)), vlg1_ne (vgs_ne hi (by unfold vgs; omega)), vcn_ne (vgs_ne hi (by unfold vgs; omega)), vinc_ne (vgs_ne hi (by unfold vgs; omega))]
          rfl
        have ng : ∀ c, 3926 ≤ c → c ≤ 4066 → c ≠ 3982 → c ≠ 4010 → c ≠ 4017 → c ≠ 4024 → c ≠ 4038 → c ≠ 4066 → (c - 3926) % 7 = 0 → ¬ vgs t (c + t) := fun c _ _ _ _ _ _ _ _ _ h => by unfold vgs at h; omega
        refine ⟨?_, rfl, hz2, ⟨k + 1, by omega, ?_⟩, hV, np + 1, ?_, fun _ => ?_⟩
        · exact VJ.vs (VJ.vs (VJ.vs (VJ.vs j1 (by omega)) (by omega)) (by omega)) (by omega)
        · rw [vinc_ne (by omega), vlg1_at, vcn_ne (by omega), vinc_ne (by omega)]
          show V.1 2067 + 1 = _
          rw [hk, nI_1]
        · refine hc.n'.ps (V' := vinc (vlg1 (vcn (vinc (vps V (vren t 1000 np V.2.1)) (4038 + t)) 8 1)) (4066 + t)) ?_ hj.1 rfl s1 (hV _ (ng 3954 (by omega) (by omega) (by omega) (by omega) (by omega) (by omega) (by omega) (by omega) (by omega))) ?_ ⟨by omega, hn256⟩ (Or.inr ((hV _ (ng 3933 (by omega) (by omega) (by omega) (by omega) (by omega) (by omega) (by omega) (by omega) (by omega))).trans m0)) (hV _ (ng 3961 (by omega) (by omega) (by omega) (by omega) (by omega) (by omega) (by omega) (by omega) (by omega))) ?_ (hV _ (ng 3975 (by omega) (by omega) (by omega) (by omega) (by omega) (by omega) (by omega) (by omega) (by omega))) (fun h0 => by have := (hc.2.2.2.2.2.2.2 h0).1; omega) (fun h0 => by have := (hc.2.2.2.2.2.2.1 h0).2.1; have := hc.2.2.1; omega)
          · intro i hi
            exact hV i (fun h => by unfold vgs at h; omega)
          · rw [vinc_at, vlg1_ne (by omega), vcn_ne (by omega), vinc_ne (by omega)]
            show V.1 (4066 + t) + 1 = _
            rw [hc.2.1, nI_1]
          · rw [vinc_ne (by omega), vlg1_ne (by omega), vcn_ne (by omega), vinc_ne (by omega)]
            rfl
        · show vud V.1 (V.2.2.2 t) (np + 1 - 1) (V.2.2.1 t) + need ≤ vln (vren t 1000 np V.2.1) t (np + 1 - 1) ∧ _
          refine ⟨?_, fun _ => by rw [Nat.add_sub_cancel]; exact vud_zero (fun j hj2 => by have := ((hc.2.2.2.2.2.2.1 (by omega)).1.1 j hj2).1; omega)⟩
          rw [Nat.add_sub_cancel, vud_zero (fun j hj2 => by have := ((hc.2.2.2.2.2.2.1 (by omega)).1.1 j hj2).1; omega)]
          obtain ⟨p, p1, p2, p3, p4, p5, p6⟩ := vget (s1.1.1 np (by omega))
          rw [p5]
          obtain ⟨p0, b1, b2⟩ := List.mem_map.mp p1
          by_cases cc : vkey t 1000 p0 = true
          · rw [if_pos cc] at b2
            have cc : p0.2.2.1 = t ∧ p0.2.2.2 = 1000 := by simpa [vkey] using cc
            have hpq : p0 = q := vuniq hj.2.2.1 p0 b1 q hqm (by omega) (by omega)
            subst b2
            subst hpq
            show 0 + need ≤ p0.2.1
            omega
          · rw [if_neg cc] at b2
            subst b2
            rcases hc.2.2.2.1.2 p0 b1 p2 with h | h <;> (have := hc.2.2.1; omega)
      · rw [vgr_l2 m0 e c]
        obtain ⟨j1, j2⟩ := vsp_J hj hc ht
        have hv : vsp V t = vps (vlg1 V) (V.2.1.filter (fun q => !vkey t 1000 q)) := by unfold vsp; rw [if_pos (by rw [e]; rfl)]
        have hP1 : Vpre lim (vsp V t) t np z := ⟨j1, j2, ht, by rw [hv]; exact (vlg1_ne (by omega)).trans hz, h8, hzl, hl, hl2, fun p hp => by rw [hv] at hp; exact hq p (List.mem_filter.mp hp).1⟩
        have hk1 : (vsp V t).1 2067 = nI (k + 1) := by
          rw [hv]
          show (vlg1 V).1 2067 = _
          rw [vlg1_at, hk, nI_1]
        obtain ⟨⟨a1, a2, a3, -, a5, np2, a6, a7⟩, b⟩ := vspl_inv (need := need) hP1 hn.1 hk1 (by rw [hv]; exact (vlg1_ne (by omega)).trans m0)
        obtain ⟨k2, k3, k4⟩ := b (k + 1) hk1
        have e22 : (vsp V t).2.2 = V.2.2 := by rw [hv]; rfl
        have ew : vpe V.1 (vsp V t).1 := by rw [hv]; exact vpe.upd (by omega)
        refine ⟨a1, a2.trans e22, a3, ⟨k2, by omega, k4⟩, fun i hi => ?_, np2, a6, fun hb => ?_⟩
        · rw [a5 i hi, hv]
          exact vlg1_ne (vgs_ne hi (by unfold vgs; omega))
        · have := a7 hb
          rw [show (vsp V t).2.2.1 = V.2.2.1 by rw [e22], show (vsp V t).2.2.2 = V.2.2.2 by rw [e22], (ew.us (fun i hi => (hj.fit ht hi).1)).2, show (vsp V t).1 (3933 + t) = V.1 (3933 + t) by rw [hv]; exact vlg1_ne (by omega)] at this
          exact this
end
