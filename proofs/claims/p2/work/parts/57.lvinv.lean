/-! ===== leaving keeps what holds ===== -/
section
variable {lim z t np k : Nat} {V : vV}
theorem VJ.nf {n : Nat} (hj : VJ lim V) (hn : n ≤ V.2.2.1 t) : VJ lim (vnf V t n) := by
  refine ⟨hj.1, hj.2.1, hj.2.2.1, fun t' ht' h0 => ?_⟩
  by_cases e : t' = t
  · subst e
    have h0 : 0 < mj_upd V.2.2.1 t' n t' := h0
    show ∃ np, Itp V.2.1 t' np ∧ Geo V.1 V.2.1 t' np (mj_upd V.2.2.1 t' n t') (V.2.2.2 t') ∧ Ifr V.1 V.2.1 t' (mj_upd V.2.2.1 t' n t') (V.2.2.2 t')
    rw [mj_upd_self] at h0 ⊢
    obtain ⟨np, a1, a2, a3⟩ := hj.geo ht' (by omega)
    exact ⟨np, a1, a2.less hn, a3.less hn⟩
  · have e1 : (vnf V t n).2.2.1 t' = V.2.2.1 t' := mj_upd_ne e
    rw [e1] at h0 ⊢
    exact hj.geo ht' h0
/-- pieces of the others as they were -/
theorem vsame_ot {ps' : List vP} {t' np' : Nat} (hne : t' ≠ t) (hm : ∀ q : vP, q.2.2.1 ≠ t → (q ∈ ps' ↔ q ∈ V.2.1)) (hf : ∀ t' n, t' ≠ t → ps'.find? (vkey t' n) = V.2.1.find? (vkey t' n)) (a1 : Itp V.2.1 t' np') (a2 : Geo V.1 V.2.1 t' np' (V.2.2.1 t') (V.2.2.2 t')) : vsame V ps' t' np' np' := by
  refine ⟨⟨fun k hk => ?_, fun q hq e => a1.2 q ((hm q (by omega)).mp hq) e⟩, fun i hi => ⟨(a2.1 i hi).1, vat_eq (hf t' _ hne)⟩⟩
  obtain ⟨q, q1, q2, q3⟩ := a1.1 k hk
  exact ⟨q, (hm q (by omega)).mpr q1, q2, q3⟩
theorem vlv_0 {F : vF} (h : F.2.2.1 ≠ 0 ∨ F.2.1 = 0) : vlv V t F = V := by
  unfold vlv
  rw [if_pos h]
theorem vlv_1 {F : vF} (h : ¬ (F.2.2.1 ≠ 0 ∨ F.2.1 = 0)) (h1 : V.1 2049 = 0) : vlv V t F = vps (vlg1 (vs V (4066 + t) (V.1 (4066 + t) - 1))) (V.2.1.filter (fun q => !vkey t F.2.1 q)) := by
  unfold vlv
  rw [if_neg h]
  dsimp only
  rw [if_pos h1]
theorem vlv_2 {F : vF} (h : ¬ (F.2.2.1 ≠ 0 ∨ F.2.1 = 0)) (h1 : ¬ V.1 2049 = 0) : vlv V t F = vlg1 (vps (vsp (vs V (4066 + t) (V.1 (4066 + t) - 1)) t) (vren t F.2.1 1000 (vsp (vs V (4066 + t) (V.1 (4066 + t) - 1)) t).2.1)) := by
  unfold vlv
  rw [if_neg h]
  dsimp only
  rw [if_neg h1]
  rfl
theorem vsp_ps : (vsp V t).2.1 = V.2.1.filter (fun q => !vkey t 1000 q) := by
  unfold vsp
  split
  · rfl
  · rename_i g
    symm
    rw [List.filter_eq_self]
    intro p hp
    have hnone : V.2.1.find? (vkey t 1000) = none := by
      cases gg : V.2.1.find? (vkey t 1000) with
      | none => rfl
      | some p => rw [gg] at g; exact absurd rfl g
    have := List.find?_eq_none.mp hnone p hp
    simpa using this
theorem vsp_22 : (vsp V t).2.2 = V.2.2 := by unfold vsp; split <;> rfl
theorem vsp_w {i : Nat} (hi : i ≠ 2067) : (vsp V t).1 i = V.1 i := by
  unfold vsp
  split
  · exact vlg1_ne hi
  · rfl
theorem vsp_lg (hk : V.1 2067 = nI k) : ∃ k', k' ≤ k + 1 ∧ (vsp V t).1 2067 = nI k' := by
  unfold vsp
  split
  · refine ⟨k + 1, Nat.le_refl _, ?_⟩
    show (vlg1 V).1 2067 = _
    rw [vlg1_at, hk, nI_1]
  · exact ⟨k, by omega, hk⟩
theorem OT.lv {F : vF} (ht : t < 6) : OT t V (vlv V t F) := by
  by_cases h : F.2.2.1 ≠ 0 ∨ F.2.1 = 0
  · rw [vlv_0 h]; exact OT.refl
  · by_cases h1 : V.1 2049 = 0
    · rw [vlv_1 h h1]
      exact OT.trans (OT.trans (OT.vs ht (vown_t (c := 4066) (by omega))) (OT.lg ht)) (OT.flt (V := vlg1 _))
    · rw [vlv_2 h h1]
      exact OT.trans (OT.trans (OT.trans (OT.vs ht (vown_t (c := 4066) (by omega))) (OT.sp ht)) OT.ren) (OT.lg ht)
theorem vlv_inv {F : vF} (hj : VJ lim V) (ht : t < 6) (hnp : V.1 (4066 + t) = nI np) (hn : 1 ≤ np ∧ np ≤ 256) (hi : Itp V.2.1 t np) (hF : F.2.1 = np - 1) (hof : F.2.2.1 = 0 → np ≠ 1 → vnof V t (np - 1)) (hn1 : ∀ i, i < V.2.2.1 t → (V.2.2.2 t i).2.1 < np) (hk : V.1 2067 = nI k) (hz : ∀ q ∈ V.2.1, z ≤ q.2.1) :
    VJ lim (vlv V t F) ∧ (vlv V t F).2.2 = V.2.2 ∧ (∀ q ∈ (vlv V t F).2.1, z ≤ q.2.1) ∧ (∃ k', k' ≤ k + 2 ∧ (vlv V t F).1 2067 = nI k') ∧ (∀ i, i ≠ 2067 → i ≠ 4066 + t → (vlv V t F).1 i = V.1 i) ∧ ∃ np2, np2 = (if F.2.2.1 ≠ 0 ∨ F.2.1 = 0 then np else np - 1) ∧ (vlv V t F).1 (4066 + t) = nI np2 ∧ vsame V (vlv V t F).2.1 t np np2 := by
  by_cases h : F.2.2.1 ≠ 0 ∨ F.2.1 = 0
  · rw [vlv_0 h, if_pos h]
    exact ⟨hj, rfl, hz, ⟨k, by omega, hk⟩, fun _ _ _ => rfl, np, rfl, hnp, hi, fun i gi => ⟨hn1 i gi, rfl, rfl⟩⟩
  · have h0 : F.2.2.1 = 0 := by omega
    have hnp1 : np ≠ 1 := by omega
    have hvn := hof h0 hnp1
    rw [if_neg h]
    have hlt : ∀ i, i < V.2.2.1 t → (V.2.2.2 t i).2.1 < np - 1 := fun i gi => by
      have g1 := hn1 i gi
      have g2 := hvn i gi
      omega
    by_cases h1 : V.1 2049 = 0
    · rw [vlv_1 h h1]
      have hs : vsame V (V.2.1.filter (fun q => !vkey t F.2.1 q)) t np (np - 1) := by
        rw [hF]
        refine ⟨⟨fun j hj2 => ?_, fun q hq e => ?_⟩, fun i gi => ⟨hlt i gi, vat_eq (vfind_filter (fun q _ hk => ?_))⟩⟩
        · obtain ⟨q, q1, q2, q3⟩ := hi.1 j (by omega)
          exact ⟨q, List.mem_filter.mpr ⟨q1, by simp [vkey]; omega⟩, q2, q3⟩
        · obtain ⟨q1, q2⟩ := List.mem_filter.mp hq
          simp [vkey] at q2
          rcases hi.2 q q1 e with g | g
          · exact Or.inl (by omega)
          · exact Or.inr g
        · have hk : q.2.2.1 = t ∧ q.2.2.2 = (V.2.2.2 t i).2.1 := by simpa [vkey] using hk
          have := hlt i gi
          simp [vkey]
          omega
      refine ⟨?_, rfl, fun q hq => hz q (List.mem_filter.mp hq).1, ⟨k + 1, by omega, ?_⟩, fun i g1 g2 => ?_, np - 1, rfl, ?_, hs⟩
      · have hjV : VJ lim (vlg1 (vs V (4066 + t) (V.1 (4066 + t) - 1))) := VJ.vs (VJ.vs hj (by omega)) (by omega)
        refine VJ.ps (V := vlg1 (vs V (4066 + t) (V.1 (4066 + t) - 1))) hjV (vo_sub hj.2.1 List.filter_sublist) (hj.2.2.1.sublist List.filter_sublist) (fun t' ht' h00 np' a1 a2 => ?_)
        by_cases e : t' = t
        · subst e; exact ⟨np - 1, hs⟩
        · have hO := OT.flt (t := t) (n := F.2.1) (V := V)
          exact ⟨np', vsame_ot (V := vlg1 (vs V (4066 + t) (V.1 (4066 + t) - 1))) e hO.2.2.2.1 hO.2.2.2.2.1 a1 a2⟩
      · show (vlg1 (vs V (4066 + t) (V.1 (4066 + t) - 1))).1 2067 = _
        rw [vlg1_at, vs_ne (by omega), hk, nI_1]
      · show (vlg1 (vs V (4066 + t) (V.1 (4066 + t) - 1))).1 i = _
        rw [vlg1_ne g1, vs_ne g2]
      · show (vlg1 (vs V (4066 + t) (V.1 (4066 + t) - 1))).1 (4066 + t) = _
        rw [vlg1_ne (by omega), vs_at, hnp, li_sub (by omega)]
    · rw [vlv_2 h h1]
      generalize hV1 : vs V (4066 + t) (V.1 (4066 + t) - 1) = V1 at *
      have e21 : V1.2 = V.2 := by rw [← hV1]; rfl
      have e2p : V1.2.1 = V.2.1 := by rw [e21]
      have hps : (vsp V1 t).2.1 = V.2.1.filter (fun q => !vkey t 1000 q) := by rw [vsp_ps, e2p]
      rw [hps]
      have hmem : ∀ p ∈ vren t F.2.1 1000 (V.2.1.filter (fun q => !vkey t 1000 q)), ∃ p0 ∈ V.2.1, ¬ (p0.2.2.1 = t ∧ p0.2.2.2 = 1000) ∧ p.1 = p0.1 ∧ p.2.1 = p0.2.1 ∧ p.2.2.1 = p0.2.2.1 ∧ (p.2.2.2 = p0.2.2.2 ∧ ¬ (p0.2.2.1 = t ∧ p0.2.2.2 = np - 1) ∨ (p0.2.2.1 = t ∧ p0.2.2.2 = np - 1) ∧ p.2.2.2 = 1000) := fun p hp => by
        obtain ⟨p0, a1, a2⟩ := List.mem_map.mp hp
        obtain ⟨b1, b2⟩ := List.mem_filter.mp a1
        refine ⟨p0, b1, fun e => by simp [vkey] at b2; omega, ?_⟩
        by_cases c : vkey t F.2.1 p0 = true
        · rw [if_pos c] at a2
          have c : p0.2.2.1 = t ∧ p0.2.2.2 = F.2.1 := by simpa [vkey] using c
          subst a2
          exact ⟨rfl, rfl, rfl, Or.inr ⟨⟨c.1, by omega⟩, rfl⟩⟩
        · rw [if_neg c] at a2
          subst a2
          exact ⟨rfl, rfl, rfl, Or.inl ⟨rfl, fun e => by simp [vkey] at c; omega⟩⟩
      have hs : vsame V (vren t F.2.1 1000 (V.2.1.filter (fun q => !vkey t 1000 q))) t np (np - 1) := by
        refine ⟨⟨fun j hj2 => ?_, fun q hq e => ?_⟩, fun i gi => ⟨hlt i gi, vat_eq ((vfind_ren (fun e => by have := hlt i gi; omega)).trans (vfind_filter (fun q _ hk => ?_)))⟩⟩
        · obtain ⟨q, q1, q2, q3⟩ := hi.1 j (by omega)
          exact ⟨q, List.mem_map.mpr ⟨q, List.mem_filter.mpr ⟨q1, by simp [vkey]; omega⟩, if_neg (by simp [vkey]; omega)⟩, q2, q3⟩
        · obtain ⟨p0, b1, b2, b3, b4, b5, b6⟩ := hmem q hq
          rcases b6 with ⟨b6, b7⟩ | ⟨b6, b7⟩
          · rcases hi.2 p0 b1 (by omega) with g | g
            · exact Or.inl (by omega)
            · exact Or.inr (by omega)
          · exact Or.inr b7
        · have hk : q.2.2.1 = t ∧ q.2.2.2 = (V.2.2.2 t i).2.1 := by simpa [vkey] using hk
          have := hlt i gi
          simp [vkey]
          omega
      have hk1 : V1.1 2067 = nI k := by rw [← hV1, vs_ne (by omega)]; exact hk
      obtain ⟨k', k1', k2'⟩ := vsp_lg (t := t) hk1
      have hOT : OT t V (vlg1 (vps (vsp V1 t) (vren t F.2.1 1000 (V.2.1.filter (fun q => !vkey t 1000 q))))) := by
        have := OT.lv (V := V) (t := t) (F := F) ht
        rw [vlv_2 h h1, hV1, hps] at this
        exact this
      refine ⟨?_, ?_, fun q hq => ?_, ⟨k' + 1, by omega, ?_⟩, fun i g1 g2 => ?_, np - 1, rfl, ?_, hs⟩
      · have hjV : VJ lim (vsp V1 t) := by
          have hjV1 : VJ lim V1 := by rw [← hV1]; exact VJ.vs hj (by omega)
          unfold vsp
          split
          · refine VJ.flt (V := vlg1 V1) (VJ.vs hjV1 (by omega)) (fun np2 g0 a1 a2 => Or.inl ?_)
            apply Classical.byContradiction
            intro hgt
            have a1 : Itp V1.2.1 t np2 := a1
            rw [e2p] at a1
            obtain ⟨q, q1, q2, q3⟩ := a1.1 999 (by omega)
            rcases hi.2 q q1 q2 with g | g <;> omega
          · exact hjV1
        refine VJ.vs ?_ (by omega)
        have hpsub : ((V.2.1.filter (fun q => !vkey t 1000 q))).Pairwise (fun p q => p.1 + p.2.1 ≤ q.1) := hj.2.1.1.sublist List.filter_sublist
        have hmap : ∀ p : vP, (if vkey t F.2.1 p then (p.1, p.2.1, p.2.2.1, 1000) else p).1 = p.1 ∧ (if vkey t F.2.1 p then (p.1, p.2.1, p.2.2.1, 1000) else p).2.1 = p.2.1 ∧ (if vkey t F.2.1 p then (p.1, p.2.1, p.2.2.1, 1000) else p).2.2.1 = p.2.2.1 := fun p => by split <;> exact ⟨rfl, rfl, rfl⟩
        refine VJ.ps (V := vsp V1 t) hjV ⟨?_, fun q hq => ?_⟩ ?_ (fun t' ht' h00 np' a1 a2 => ?_)
        · unfold vren
          rw [List.pairwise_map]
          refine hpsub.imp (fun {a b} g => ?_)
          rw [(hmap a).1, (hmap a).2.1, (hmap b).1]
          exact g
        · obtain ⟨p0, b1, b2, b3, b4, b5, b6⟩ := hmem q hq
          have := hj.2.1.2 p0 b1
          rw [b3, b4, b5]
          refine ⟨this.1, this.2.1, this.2.2.1, ?_⟩
          rcases b6 with ⟨b6, -⟩ | ⟨-, b6⟩ <;> omega
        · unfold vren
          rw [List.pairwise_map]
          refine List.Pairwise.imp_of_mem (fun {a b} ha hb g e => ?_) (hj.2.2.1.sublist (List.filter_sublist (p := fun q => !vkey t 1000 q)))
          obtain ⟨ha1, ha2⟩ := List.mem_filter.mp ha
          obtain ⟨hb1, hb2⟩ := List.mem_filter.mp hb
          simp [vkey] at ha2 hb2
          by_cases ca : vkey t F.2.1 a = true
          · by_cases cb : vkey t F.2.1 b = true
            · have ca : a.2.2.1 = t ∧ a.2.2.2 = F.2.1 := by simpa [vkey] using ca
              have cb : b.2.2.1 = t ∧ b.2.2.2 = F.2.1 := by simpa [vkey] using cb
              exact g ⟨by omega, by omega⟩
            · rw [if_pos ca, if_neg cb] at e
              have ca : a.2.2.1 = t ∧ a.2.2.2 = F.2.1 := by simpa [vkey] using ca
              have g1 : a.2.2.1 = b.2.2.1 := e.1
              have g2 : 1000 = b.2.2.2 := e.2
              omega
          · by_cases cb : vkey t F.2.1 b = true
            · rw [if_neg ca, if_pos cb] at e
              have cb : b.2.2.1 = t ∧ b.2.2.2 = F.2.1 := by simpa [vkey] using cb
              have g1 : a.2.2.1 = b.2.2.1 := e.1
              have g2 : a.2.2.2 = 1000 := e.2
              omega
            · rw [if_neg ca, if_neg cb] at e
              exact g e
        · have e22 : (vsp V1 t).2.2 = V.2.2 := by rw [vsp_22, e21]
          by_cases e : t' = t
          · subst e
            refine ⟨np - 1, hs.1, fun i gi => ?_⟩
            rw [show (vsp V1 t').2.2.1 = V.2.2.1 by rw [e22]] at gi
            rw [show (vsp V1 t').2.2.2 = V.2.2.2 by rw [e22]]
            refine ⟨(hs.2 i gi).1, vat_eq (vfind_ren (fun e => by have := hlt i gi; omega) |>.trans ?_)⟩
            rw [hps]
          · refine ⟨np', vsame_ot (V := vsp V1 t) e (fun q hq => ?_) (fun t2 n hne => ?_) a1 a2⟩
            · have g1 := hOT.2.2.2.1 q hq
              have g2 : q ∈ (vsp V1 t).2.1 ↔ q ∈ V.2.1 := by
                rw [hps, List.mem_filter]
                exact ⟨fun g => g.1, fun g => ⟨g, by simp [vkey]; omega⟩⟩
              exact g1.trans g2.symm
            · rw [hps]
              exact vfind_ren (fun e => hne e.1)
      · show (vsp V1 t).2.2 = V.2.2
        rw [vsp_22, e21]
      · obtain ⟨p0, b1, b2, b3, b4, b5, b6⟩ := hmem q hq
        rw [b4]
        exact hz p0 b1
      · rw [vlg1_at]
        show (vsp V1 t).1 2067 + 1 = _
        rw [k2', nI_1]
      · rw [vlg1_ne g1]
        show (vsp V1 t).1 i = _
        rw [vsp_w g1, ← hV1, vs_ne g2]
      · rw [vlg1_ne (by omega)]
        show (vsp V1 t).1 (4066 + t) = _
        rw [vsp_w (by omega), ← hV1, vs_at, hnp, li_sub (by omega)]
end
