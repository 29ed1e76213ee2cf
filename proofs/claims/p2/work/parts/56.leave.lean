/-! ===== the reference leaves a piece ===== -/
/-- pointers point to frames at or below -/
def vpt (V : vV) : Prop := ∀ t, t < 6 → ∀ i, i < V.2.2.1 t → (V.2.2.2 t i).1 < 10 ∧ ∀ k, k < vsz V.1 (V.2.2.2 t i).1 → bt (V.1 (2238 + (V.2.2.2 t i).1)) k → ∀ q, (V.2.2.2 t i).2.2.2.2.2 k = some q → q.1 ≤ i
theorem VJ.pt {lim : Nat} {V : vV} (hj : VJ lim V) : vpt V := fun t ht i hi => ⟨(hj.fit ht hi).1, fun k hk hb q hq => by
  obtain ⟨np, -, -, a3⟩ := hj.geo ht (by omega)
  exact (a3.2.2.2.2.2 i hi k hk hb q hq).1⟩
theorem vpt.w {V V' : vV} (h : vpt V) (hw : ∀ i, 2228 ≤ i → i < 2248 → V'.1 i = V.1 i) (h2 : V'.2.2 = V.2.2) : vpt V' := fun t ht i hi => by
  have e1 : V'.2.2.1 = V.2.2.1 := by rw [h2]
  have e2 : V'.2.2.2 = V.2.2.2 := by rw [h2]
  rw [e1] at hi
  rw [e2]
  obtain ⟨a1, a2⟩ := h t ht i hi
  refine ⟨a1, fun k hk hb q hq => a2 k ?_ ?_ q hq⟩
  · unfold vsz at hk ⊢
    rw [hw _ (by omega) (by omega)] at hk
    exact hk
  · rw [hw _ (by omega) (by omega)] at hb
    exact hb
theorem VM.ps2 {V V' : vV} {mm : Nat → Int32} (hI : vpt V) (h : VM mm V) (hw : ∀ i, 2228 ≤ i → i < 2248 → V'.1 i = V.1 i) (hf : ∀ t, t < 6 → V'.2.2.1 t ≤ V.2.2.1 t ∧ ∀ i, i < V'.2.2.1 t → V'.2.2.2 t i = V.2.2.2 t i ∧ vat V'.2.1 t (V.2.2.2 t i).2.1 = vat V.2.1 t (V.2.2.2 t i).2.1) : VM mm V' := by
  intro t ht
  obtain ⟨h1, h2⟩ := hf t ht
  refine MR_w hw ?_
  have hM : MR mm V.1 (V'.2.2.1 t) (V.2.2.2 t) (vpl V t) := fun i hi => h t ht i (by omega)
  have hM2 : MR mm V.1 (V'.2.2.1 t) (V.2.2.2 t) (vpl V' t) := by
    refine hM.pl (fun i hi => ?_) (fun i hi k hk hb q hq => (hI t ht i (by omega)).2 k hk hb q hq)
    unfold vpl
    rw [(h2 i hi).1, (h2 i hi).2]
  intro i hi
  rw [(h2 i hi).1]
  exact hM2 i hi
theorem RS.nf {s : wt_S} {V : vV} {t n : Nat} (h : RS s V) (hp : vpt V) (hn : n ≤ V.2.2.1 t) : RS s (vnf V t n) := by
  refine ⟨h.1, h.2.1, h.2.2.1, ?_⟩
  obtain ⟨mm, g3, g4⟩ := h.2.2.2
  refine ⟨mm, g3, g4.ps2 hp (fun _ _ _ => rfl) (fun t' ht' => ?_)⟩
  by_cases e : t' = t
  · subst e
    exact ⟨by show mj_upd V.2.2.1 t' n t' ≤ _; rw [mj_upd_self]; exact hn, fun i hi => ⟨rfl, rfl⟩⟩
  · exact ⟨by show mj_upd V.2.2.1 t n t' ≤ _; rw [mj_upd_ne e]; exact Nat.le_refl _, fun i hi => ⟨rfl, rfl⟩⟩
section
variable {s : wt_S} {V : vV} {t : Nat}
theorem q_spare2 {k : Nat} (h : RS s V) (ho : vo 2048 V.2.1) (hu : V.2.1.Pairwise (fun p q => ¬ (p.2.2.1 = q.2.2.1 ∧ p.2.2.2 = q.2.2.2))) (hp : vpt V) (ht : t < 6) (hn : vnof V t 1000) (hk : V.1 2067 = nI k) (hk2 : k < 2147483600) : ∃ s', gX11_givesSpare s (nI t) = some (rb ((V.2.1.find? (vkey t 1000)).isSome = true), s') ∧ RS s' (vsp V t) ∧ RF s s' := by
  have hpo := q_pieceOf (t := t) (number := 1000) h.2.2.1 ho ht (by omega)
  have hpo : gX11_pieceOf s (nI t) 1000 = _ := hpo
  unfold gX11_givesSpare
  rw [hpo, cl_some]
  cases e : vfi (vkey t 1000) V.2.1 0 with
  | none =>
    have hf := vfi_find.1.mp e
    refine ⟨s, ?_, ?_, RF.refl⟩
    · rw [oI_none, if_neg (by simp), rb_neg (by rw [hf]; simp)]
    · unfold vsp
      rw [if_neg (by rw [hf]; simp)]
      exact h
  | some x =>
    obtain ⟨-, h2, h3⟩ := vfi_find.2 x e
    rw [Nat.sub_zero] at h2 h3
    have hl256 := h.2.2.1.2.1
    have hsome : (V.2.1.find? (vkey t 1000)).isSome = true := by rw [h2, List.getElem?_eq_getElem h3]; rfl
    obtain ⟨s1, a1, a2, a3⟩ := q_log (a := 5) (b := nI t) (c := s 111 (2899 + x)) (d := s 111 (3155 + x)) h hk (by omega)
    obtain ⟨w2, b1, b2, b3⟩ := q_gives (s := s1) (ps := V.2.1) (k0 := x) a2.2.2.1 h3
    have hfe := vfi_erase hu e
    rw [Nat.sub_zero] at hfe
    rw [hfe] at b2
    refine ⟨wt_uf s1 111 w2, ?_, ?_, RF.trans a3 (RF.uf (Or.inl rfl))⟩
    · rw [oI_some, if_pos (nI_m1 (by omega)), li_add, ix_nI (by omega) (by omega), li_add, ix_nI (by omega) (by omega), a1, cl_some, b1, cl_some, rb_pos hsome]
    · unfold vsp
      rw [if_pos hsome]
      refine a2.uf (a2.2.ps b3 b2 (fun mm hm => ?_))
      exact hm.ps2 (V := vlg1 V) (hp.w (fun i h1 h2 => vlg1_ne (by omega)) rfl) (fun _ _ _ => rfl) (fun t' ht' => ⟨Nat.le_refl _, fun i hi => ⟨rfl, (vat_eq (vfind_filter (vnof_P hn t' ht' i hi))).1⟩⟩)
/-- numbers change twice -/
theorem vren_vren {n : Nat} {ps : List vP} (hn : n ≠ 1000) (h9 : ∀ q ∈ ps, ¬ (q.2.2.1 = t ∧ q.2.2.2 = 4294967295)) : vren t 4294967295 1000 ((vren t n 4294967295 ps).filter (fun q => !vkey t 1000 q)) = vren t n 1000 (ps.filter (fun q => !vkey t 1000 q)) := by
  induction ps with
  | nil => rfl
  | cons p ps ih =>
    have ih := ih (fun q hq => h9 q (List.mem_cons_of_mem _ hq))
    have hp := h9 p (List.mem_cons_self ..)
    show vren t 4294967295 1000 (((if vkey t n p then (p.1, p.2.1, p.2.2.1, 4294967295) else p) :: vren t n 4294967295 ps).filter (fun q => !vkey t 1000 q)) = _
    by_cases c : vkey t n p = true
    · have c' : p.2.2.1 = t ∧ p.2.2.2 = n := by simpa [vkey] using c
      rw [if_pos c, List.filter_cons_of_pos (by simp [vkey]), List.filter_cons_of_pos (by simp [vkey]; omega)]
      show (if vkey t 4294967295 (p.1, p.2.1, p.2.2.1, 4294967295) then _ else _) :: vren t 4294967295 1000 ((vren t n 4294967295 ps).filter (fun q => !vkey t 1000 q)) = (if vkey t n p then (p.1, p.2.1, p.2.2.1, 1000) else p) :: vren t n 1000 (ps.filter (fun q => !vkey t 1000 q))
      rw [ih, if_pos (by simp [vkey, c'.1]), if_pos c]
    · rw [if_neg c]
      by_cases c2 : vkey t 1000 p = true
      · rw [List.filter_cons_of_neg (by simp [c2]), List.filter_cons_of_neg (by simp [c2])]
        exact ih
      · rw [List.filter_cons_of_pos (by simp [c2]), List.filter_cons_of_pos (by simp [c2])]
        show (if vkey t 4294967295 p then _ else p) :: vren t 4294967295 1000 ((vren t n 4294967295 ps).filter (fun q => !vkey t 1000 q)) = (if vkey t n p then _ else p) :: vren t n 1000 (ps.filter (fun q => !vkey t 1000 q))
        rw [ih, if_neg (by simp [vkey]; omega), if_neg c]
theorem vfi_has {ps : List vP} (ho : vo 2048 ps) {q : vP} (hq : q ∈ ps) : ∃ x, vfi (vhas q.1) ps 0 = some x ∧ ps[x]? = some q ∧ x < ps.length := by
  cases e : vfi (vhas q.1) ps 0 with
  | none =>
    have := vfi_none e q hq
    have hb := ho.2 q hq
    simp [vhas] at this
    omega
  | some x =>
    obtain ⟨p, -, p1, p2⟩ := vfi_spec e
    rw [Nat.sub_zero] at p1
    have p2 : p.1 ≤ q.1 ∧ q.1 < p.1 + p.2.1 := by simpa [vhas] using p2
    have hpm := List.mem_of_getElem? p1
    have hpq : p = q := by
      apply Classical.byContradiction
      intro hne
      have hb := ho.2 q hq
      rcases vdisj ho p hpm q hq hne with h | h <;> omega
    subst hpq
    exact ⟨x, rfl, p1, (List.getElem?_eq_some_iff.mp p1).1⟩
/-- the frame F has been left; np is still the number of pieces -/
theorem q_leaves {np k : Nat} {F : vF} (h : RS s V) (ho : vo 2048 V.2.1) (hu : V.2.1.Pairwise (fun p q => ¬ (p.2.2.1 = q.2.2.1 ∧ p.2.2.2 = q.2.2.2))) (hp : vpt V) (ht : t < 6) (hnp : V.1 (4066 + t) = nI np) (hn : 1 ≤ np ∧ np ≤ 256) (hi : Itp V.2.1 t np) (hF : F.2.1 = np - 1) (hfit : F.2.2.1 < 2048) (hof : F.2.2.1 = 0 → np ≠ 1 → vnof V t (np - 1)) (hn1 : ∀ m, np ≤ m → vnof V t m) (hhot : V.1 2049 = 0 ∨ V.1 2049 = 1) (hk : V.1 2067 = nI k) (hk2 : k < 2147483500) : ∃ s', gX11_leaves s (nI t) (nI (vat V.2.1 t F.2.1 + F.2.2.1)) = some ((), s') ∧ RS s' (vlv V t F) ∧ RF s s' := by
  obtain ⟨x, q, e1, e2, e3, e4, e5, e6, e7, e8⟩ := vfi_some (hi.1 (np - 1) (by omega))
  have hl := h.2.2.1.2.1
  have hq := ho.2 q e4
  obtain ⟨r1, r2, r3, r4⟩ := h.2.2.1.2.2 x q e2
  have hlp : gX11_lastPiece s (nI t) = some (nI x, s) := by
    unfold gX11_lastPiece
    rw [li_add, ix_nI (by omega) (by omega), h.tk (c := 4066) (by omega) ht, hnp, li_sub (by omega), q_pieceOf h.2.2.1 ho ht (by omega), cl_some, e1]
    rfl
  unfold gX11_leaves
  rw [hlp, cl_some, li_add, ix_nI (by omega) (by omega), r1, hF, e7]
  unfold vlv
  by_cases c0 : F.2.2.1 = 0
  · rw [c0, Nat.add_zero, if_neg (by simp), li_add, ix_nI (by omega) (by omega), r4, e6, hF]
    by_cases c1 : np = 1
    · subst c1
      rw [if_neg (by decide), if_pos (Or.inr rfl)]
      exact ⟨s, rfl, h, RF.refl⟩
    · rw [if_pos (fun e => by have := (nI_inj (a := np - 1) (b := 0) (by omega) (by omega)).mp e; omega), if_neg (by omega), li_add, ix_nI (by omega) (by omega), ix_nI (by omega) (by omega), wr_eq, h.tk (c := 4066) (by omega) ht]
      have h1 := h.u (i := 4066 + t) (v := V.1 (4066 + t) - 1) (vtt (by omega) ht) (Or.inr (by omega))
      have hvn := hof c0 c1
      rw [h1.se (c := 2049) (by omega), vs_ne (by omega)]
      rcases hhot with hh | hh
      · -- given back
        rw [if_neg (by rw [hh]; simp), hh, if_pos rfl, li_add, ix_nI (by omega) (by omega)]
        obtain ⟨s2, a1, a2, a3⟩ := q_log (a := 5) (b := nI t) (c := nI q.1) (d := (wt_u s 111 (4066 + t) (V.1 (4066 + t) - 1)) 111 (3155 + x)) (k := k) h1 (by rw [vs_ne (by omega)]; exact hk) (by omega)
        obtain ⟨w3, b1, b2, b3⟩ := q_gives (s := s2) (ps := V.2.1) (k0 := x) a2.2.2.1 e3
        have hfe := vfi_erase hu e1
        rw [Nat.sub_zero] at hfe
        rw [hfe] at b2
        refine ⟨wt_uf s2 111 w3, by rw [a1, cl_some, b1, cl_some], ?_, RF.trans (RF.uf (Or.inl rfl)) (RF.trans a3 (RF.uf (Or.inl rfl)))⟩
        refine a2.uf (a2.2.ps b3 b2 (fun mm hm => ?_))
        exact hm.ps2 (V := vlg1 (vs V (4066 + t) (V.1 (4066 + t) - 1))) (hp.w (fun i h1 h2 => (vlg1_ne (by omega)).trans (vs_ne (by omega))) rfl) (fun _ _ _ => rfl) (fun t' ht' => ⟨Nat.le_refl _, fun i hi => ⟨rfl, (vat_eq (vfind_filter (vnof_P hvn t' ht' i hi))).1⟩⟩)
      · -- the spare
        have hh0 : ¬ V.1 2049 = 0 := by rw [hh]; decide
        rw [if_pos hh0, if_neg hh0, ix_nI (by omega) (by omega), wr_eq]
        generalize hV1 : vs V (4066 + t) (V.1 (4066 + t) - 1) = V1 at *
        have e21 : V1.2 = V.2 := by rw [← hV1]; rfl
        have e2p : V1.2.1 = V.2.1 := by rw [e21]
        have hw1 : ∀ i, 2228 ≤ i → i < 2248 → V1.1 i = V.1 i := fun i g1 g2 => by rw [← hV1]; exact vs_ne (by omega)
        have hp1 : vpt V1 := hp.w hw1 (by rw [e21])
        have hu1 : V1.2.1.Pairwise (fun p q => ¬ (p.2.2.1 = q.2.2.1 ∧ p.2.2.2 = q.2.2.2)) := by rw [e2p]; exact hu
        have h9 : ∀ q ∈ V.2.1, ¬ (q.2.2.1 = t ∧ q.2.2.2 = 4294967295) := fun q hq e => by
          rcases hi.2 q hq e.1 with g | g <;> omega
        have hno : ∀ m, vnof V t m → vnof V1 t m := fun m g i gi => by
          rw [e21] at gi ⊢
          exact g i gi
        -- no number
        have h2 : RS (wt_u (wt_u s 111 (4066 + t) (V.1 (4066 + t) - 1)) 111 (3667 + x) (-1)) (vps V1 (vren t (np - 1) 4294967295 V1.2.1)) := by
          refine h1.uf (h1.2.ps (fun i g => mj_upd_ne (by unfold vout at g; omega)) (vr_ren (n' := 4294967295) h1.2.2.1 hu1 (by rw [e2p]; exact e1)) (fun mm hm => ?_))
          exact hm.ps2 hp1 (fun _ _ _ => rfl) (fun t' ht' => ⟨Nat.le_refl _, fun i gi => ⟨rfl, (vat_eq (vfind_ren (fun e => by
            obtain ⟨rfl, e | e⟩ := e
            · exact hno _ hvn i gi e
            · exact hno _ (hn1 4294967295 (by omega)) i gi e))).1⟩⟩)
        have ho2 : vo 2048 (vren t (np - 1) 4294967295 V1.2.1) := by
          have hmap : ∀ p : vP, (if vkey t (np - 1) p then (p.1, p.2.1, p.2.2.1, 4294967295) else p).1 = p.1 ∧ (if vkey t (np - 1) p then (p.1, p.2.1, p.2.2.1, 4294967295) else p).2.1 = p.2.1 ∧ (if vkey t (np - 1) p then (p.1, p.2.1, p.2.2.1, 4294967295) else p).2.2.1 = p.2.2.1 := fun p => by split <;> exact ⟨rfl, rfl, rfl⟩
          rw [e2p]
          refine ⟨?_, fun p hp => ?_⟩
          · unfold vren
            rw [List.pairwise_map]
            refine ho.1.imp (fun {a b} g => ?_)
            rw [(hmap a).1, (hmap a).2.1, (hmap b).1]
            exact g
          · obtain ⟨p0, p1, rfl⟩ := List.mem_map.mp hp
            have := ho.2 p0 p1
            rw [(hmap p0).1, (hmap p0).2.1, (hmap p0).2.2]
            refine ⟨this.1, this.2.1, this.2.2.1, ?_⟩
            split
            · show 4294967295 < 4294967296; omega
            · exact this.2.2.2
        have hu2 : (vren t (np - 1) 4294967295 V1.2.1).Pairwise (fun p q => ¬ (p.2.2.1 = q.2.2.1 ∧ p.2.2.2 = q.2.2.2)) := by
          rw [e2p]
          unfold vren
          rw [List.pairwise_map]
          refine List.Pairwise.imp_of_mem (fun {a b} ha hb g e => ?_) hu
          have ka := h9 a ha
          have kb := h9 b hb
          by_cases ca : vkey t (np - 1) a = true
          · by_cases cb : vkey t (np - 1) b = true
            · have ca : a.2.2.1 = t ∧ a.2.2.2 = np - 1 := by simpa [vkey] using ca
              have cb : b.2.2.1 = t ∧ b.2.2.2 = np - 1 := by simpa [vkey] using cb
              exact g ⟨by omega, by omega⟩
            · rw [if_pos ca, if_neg cb] at e
              have ca : a.2.2.1 = t ∧ a.2.2.2 = np - 1 := by simpa [vkey] using ca
              have g1 : a.2.2.1 = b.2.2.1 := e.1
              have g2 : 4294967295 = b.2.2.2 := e.2
              exact kb ⟨by omega, g2.symm⟩
          · by_cases cb : vkey t (np - 1) b = true
            · rw [if_neg ca, if_pos cb] at e
              have cb : b.2.2.1 = t ∧ b.2.2.2 = np - 1 := by simpa [vkey] using cb
              have g1 : a.2.2.1 = b.2.2.1 := e.1
              have g2 : a.2.2.2 = 4294967295 := e.2
              exact ka ⟨by omega, g2⟩
            · rw [if_neg ca, if_neg cb] at e
              exact g e
        have hkV : (vps V1 (vren t (np - 1) 4294967295 V1.2.1)).1 2067 = nI k := by
          show V1.1 2067 = _
          rw [← hV1, vs_ne (by omega)]
          exact hk
        obtain ⟨s3, a1, a2, a3⟩ := q_spare2 (t := t) h2 ho2 hu2 (hp1.w (fun _ _ _ => rfl) rfl) ht (hno _ (hn1 1000 (by omega))) hkV (by omega)
        -- the pieces then
        have hvs : (vsp (vps V1 (vren t (np - 1) 4294967295 V1.2.1)) t) = vps (vsp V1 t) ((vren t (np - 1) 4294967295 V1.2.1).filter (fun q => !vkey t 1000 q)) := by
          unfold vsp
          have hfs : (vren t (np - 1) 4294967295 V1.2.1).find? (vkey t 1000) = V1.2.1.find? (vkey t 1000) := vfind_ren (fun e => by omega)
          show (if ((vren t (np - 1) 4294967295 V1.2.1).find? (vkey t 1000)).isSome = true then _ else _) = _
          rw [hfs]
          split
          · rfl
          · rename_i g
            have hnone : V1.2.1.find? (vkey t 1000) = none := by
              cases gg : V1.2.1.find? (vkey t 1000) with
              | none => rfl
              | some p => rw [gg] at g; exact absurd rfl g
            have hall : (vren t (np - 1) 4294967295 V1.2.1).filter (fun q => !vkey t 1000 q) = vren t (np - 1) 4294967295 V1.2.1 := by
              rw [List.filter_eq_self]
              intro p hp
              rw [hnone] at hfs
              have := List.find?_eq_none.mp hfs p hp
              simpa using this
            rw [hall]
        rw [hvs] at a2
        have hqin : q ∈ V1.2.1 := by rw [e2p]; exact e4
        have hq9 : (q.1, q.2.1, q.2.2.1, 4294967295) ∈ (vren t (np - 1) 4294967295 V1.2.1).filter (fun q => !vkey t 1000 q) := List.mem_filter.mpr ⟨List.mem_map.mpr ⟨q, hqin, if_pos (by simp [vkey, e5, e6])⟩, by simp [vkey]⟩
        have ho3 : vo 2048 ((vren t (np - 1) 4294967295 V1.2.1).filter (fun q => !vkey t 1000 q)) := vo_sub ho2 List.filter_sublist
        have hu3 := hu2.sublist (List.filter_sublist (p := fun q => !vkey t 1000 q) (l := vren t (np - 1) 4294967295 V1.2.1))
        obtain ⟨y, y1, y2, y3⟩ := vfi_has ho3 hq9
        have hy256 := a2.2.2.1.2.1
        have hy256 : ((vren t (np - 1) 4294967295 V1.2.1).filter (fun q => !vkey t 1000 q)).length ≤ 256 := hy256
        have hpa : gX11_pieceAt s3 (nI q.1) = some (oI (some y), s3) := by
          have := q_pieceAt (p := q.1) a2.2.2.1 ho3 (by omega)
          rw [show (vps (vsp V1 t) ((vren t (np - 1) 4294967295 V1.2.1).filter (fun q => !vkey t 1000 q))).2.1 = (vren t (np - 1) 4294967295 V1.2.1).filter (fun q => !vkey t 1000 q) from rfl, y1] at this
          exact this
        have hyk : vfi (vkey t 4294967295) ((vren t (np - 1) 4294967295 V1.2.1).filter (fun q => !vkey t 1000 q)) 0 = some y := by
          obtain ⟨y', q', z1, z2, z3, z4, z5, z6, -⟩ := vfi_some (t := t) (n := 4294967295) (ps := (vren t (np - 1) 4294967295 V1.2.1).filter (fun q => !vkey t 1000 q)) ⟨_, hq9, e5, rfl⟩
          have hqq : q' = (q.1, q.2.1, q.2.2.1, 4294967295) := vuniq hu3 q' z4 _ hq9 (z5.trans e5.symm) z6
          rw [z1]
          congr 1
          have hpw := List.pairwise_iff_getElem.mp ho3.1
          rw [List.getElem?_eq_getElem z3] at z2
          rw [List.getElem?_eq_getElem y3] at y2
          have g1 := Option.some.inj z2
          have g2 := Option.some.inj y2
          apply Classical.byContradiction
          intro hne
          have hb := ho3.2 _ hq9
          rcases Nat.lt_or_gt_of_ne hne with g | g
          · have := hpw y' y z3 y3 g
            rw [g1, g2, hqq] at this
            omega
          · have := hpw y y' y3 z3 g
            rw [g1, g2, hqq] at this
            omega
        have hp3 : vpt (vps (vsp V1 t) ((vren t (np - 1) 4294967295 V1.2.1).filter (fun q => !vkey t 1000 q))) := by
          refine hp1.w (fun i g1 g2 => ?_) ?_
          · show (vsp V1 t).1 i = V1.1 i
            unfold vsp
            split
            · exact vlg1_ne (by omega)
            · rfl
          · show (vsp V1 t).2.2 = V1.2.2
            unfold vsp
            split <;> rfl
        have h22 : (vsp V1 t).2.2 = V1.2.2 := by unfold vsp; split <;> rfl
        have hno3 : ∀ m, vnof V t m → vnof (vps (vsp V1 t) ((vren t (np - 1) 4294967295 V1.2.1).filter (fun q => !vkey t 1000 q))) t m := fun m g i gi => by
          have gi : i < (vsp V1 t).2.2.1 t := gi
          show ((vsp V1 t).2.2.2 t i).2.1 ≠ m
          rw [h22] at gi ⊢
          exact hno m g i gi
        have h4 : RS (wt_u s3 111 (3667 + y) 1000) (vps (vsp V1 t) (vren t (np - 1) 1000 (V1.2.1.filter (fun q => !vkey t 1000 q)))) := by
          rw [← vren_vren (t := t) (n := np - 1) (ps := V1.2.1) (by omega) (by rw [e2p]; exact h9)]
          refine a2.uf (a2.2.ps (fun i g => mj_upd_ne (by unfold vout at g; omega)) (vr_ren (n' := 1000) a2.2.2.1 hu3 hyk) (fun mm hm => ?_))
          exact hm.ps2 hp3 (fun _ _ _ => rfl) (fun t' ht' => ⟨Nat.le_refl _, fun i gi => ⟨rfl, (vat_eq (vfind_ren (fun e => by
            obtain ⟨rfl, e | e⟩ := e
            · exact hno3 _ (hn1 4294967295 (by omega)) i gi e
            · exact hno3 _ (hn1 1000 (by omega)) i gi e))).1⟩⟩)
        have hvp : (vsp V1 t).2.1 = V1.2.1.filter (fun q => !vkey t 1000 q) := by
          unfold vsp
          split
          · rfl
          · rename_i g
            symm
            rw [List.filter_eq_self]
            intro p hp
            have hnone : V1.2.1.find? (vkey t 1000) = none := by
              cases gg : V1.2.1.find? (vkey t 1000) with
              | none => rfl
              | some p => rw [gg] at g; exact absurd rfl g
            have := List.find?_eq_none.mp hnone p hp
            simpa using this
        have hlk : ∃ k', k' ≤ k + 1 ∧ (vsp V1 t).1 2067 = nI k' := by
          have hk1 : V1.1 2067 = nI k := by rw [← hV1, vs_ne (by omega)]; exact hk
          unfold vsp
          split
          · refine ⟨k + 1, Nat.le_refl _, ?_⟩
            show (vlg1 V1).1 2067 = _
            rw [vlg1_at, hk1, nI_1]
          · exact ⟨k, by omega, hk1⟩
        obtain ⟨k', g1, g2⟩ := hlk
        obtain ⟨s5, b1, b2, b3⟩ := q_log (a := 3) (b := nI t) (c := nI q.1) (d := (wt_u s3 111 (3667 + y) 1000) 111 (3155 + y)) (k := k') h4 g2 (by omega)
        refine ⟨s5, ?_, ?_, RF.trans (RF.uf (Or.inl rfl)) (RF.trans (RF.uf (Or.inl rfl)) (RF.trans a3 (RF.trans (RF.uf (Or.inl rfl)) b3)))⟩
        · rw [a1, cl_some, hpa, cl_some, oI_some, li_add, ix_nI (by omega) (by omega), wr_eq, li_add, ix_nI (by omega) (by omega), b1, cl_some]
        · rw [← hvp] at b2
          exact b2
  · rw [if_pos (fun e => by have := (nI_inj (a := q.1) (b := q.1 + F.2.2.1) (by omega) (by omega)).mp e; omega), if_pos (Or.inl c0)]
    exact ⟨s, rfl, h, RF.refl⟩
end
