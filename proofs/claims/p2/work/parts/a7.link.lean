/-! ===== the class: another piece is linked ===== -/
theorem vad_c {W : vV} {e i : Nat} {E v : Int32} (h : i ≠ e) : vs (vs W e E) i ((vs W e E).1 i + v) = vs (vs W i (W.1 i + v)) e E := by
  rw [vs_ne h]
  refine Prod.ext ?_ rfl
  funext j
  show mj_upd (mj_upd W.1 e E) i _ j = mj_upd (mj_upd W.1 i _) e E j
  rw [mj_upd_eq, mj_upd_eq, mj_upd_eq, mj_upd_eq]
  by_cases c1 : j = i
  · subst c1
    simp [h]
  · simp [c1]
section
variable {b lim : Nat} {s s' : wt_S} {V V' : vV} {zs zs' : List (vP × Nat)} {fr fr' : List Nat} {t np z need : Nat} {w w' : Nat → Int32}
theorem Ks.keep (h : Ks b s w t) (hT : ∀ j, j ≠ 12 → j ≠ 13 → s' (b + 17 + 2 * t) j = s (b + 17 + 2 * t) j) (hS : s' (b + 17 + 2 * t + 1) = s (b + 17 + 2 * t + 1)) (ht : t < 6) (hw : ∀ i, 3926 ≤ i → i < 4066 → w' i = w i) : Ks b s' w' t := by
  obtain ⟨a0, a1, a2⟩ := h
  have p1 : ∀ e ∈ tf, e.2 ≤ 4059 := by decide
  have p2 : ∀ e ∈ ts, e.2 ≤ 4059 := by decide
  refine ⟨by rw [hT _ (by omega) (by omega)]; exact a0, fun e he => ?_, fun e he => ?_⟩
  · have := tf_n e he
    have := tf_p e he
    have := p1 e he
    rw [hT _ (by omega) (by omega), hw _ (by omega) (by omega)]; exact a1 e he
  · have := ts_p e he
    have := p2 e he
    rw [hS, hw _ (by omega) (by omega)]; exact a2 e he
theorem Kl.keep (h : Kl b s V t) (hT : ∀ j, j ≠ 12 → j ≠ 13 → s' (b + 17 + 2 * t) j = s (b + 17 + 2 * t) j) (h2 : V'.2.2 = V.2.2) (hw : V'.1 (3968 + t) = V.1 (3968 + t)) (hv : 0 < V.2.2.1 t → vpl V' t (V.2.2.1 t - 1) = vpl V t (V.2.2.1 t - 1)) : Kl b s' V' t := by
  obtain ⟨l1, l2⟩ := h
  unfold Kl
  rw [hT 10 (by omega) (by omega), hT 11 (by omega) (by omega), h2, hw]
  exact ⟨l1, fun h0 => by rw [hv h0]; exact l2 h0⟩
theorem Kg.keep (h : Kg b s w t) (hT : ∀ j, j ≠ 12 → j ≠ 13 → s' (b + 17 + 2 * t) j = s (b + 17 + 2 * t) j) (ht : t < 6) (hw : ∀ i, 3926 ≤ i → i < 4066 → w' i = w i) : Kg b s' w' t := by
  unfold Kg
  rw [hT 15 (by omega) (by omega), hw _ (by omega) (by omega), hw _ (by omega) (by omega)]
  exact h
theorem CG.keep (h : CG b s w) (h1 : s' (b + 1) = s (b + 1)) (h2 : s' (b + 13) = s (b + 13)) (hw : ∀ i, 2048 ≤ i → i < 2066 → w' i = w i) : CG b s' w' := by
  refine ⟨fun j hj => ?_, fun j hj => ?_⟩
  · rw [h1, hw _ (by omega) (by omega)]; exact h.1 j hj
  · rw [h2, hw _ (by omega) (by omega)]; exact h.2 j hj
/-- the pieces of a task that stay where they are -/
theorem vpl_find {ps' : List vP} {n : Nat} (h : ps'.find? (vkey t (V.2.2.2 t n).2.1) = V.2.1.find? (vkey t (V.2.2.2 t n).2.1)) (h2 : V'.2 = (ps', V.2.2)) : vpl V' t n = vpl V t n := by
  unfold vpl
  rw [h2, (vat_eq h).1]
theorem Ico.mn (h : Ico V t np) : V.1 (4066 + t) = nI np ∧ 1 ≤ np ∧ np ≤ 256 := ⟨h.2.1, h.2.2.1⟩
theorem Ico.num (h : Ico V t np) {q : vP} (hq : q ∈ V.2.1) (ht : q.2.2.1 = t) : q.2.2.2 < np ∨ q.2.2.2 = 1000 := h.2.2.2.1.2 q hq ht
/-- the spare is used again -/
theorem c_again (h : RC b lim s V zs fr) (hx : CX b lim) (hP : Vpre lim V t np z) (hm : V.1 (3933 + t) = 1) {x : Nat} {y : vP × Nat} (hy : zs[x]? = some y) (hk : y.1.2.2.1 = t ∧ y.1.2.2.2 = 1000) : ∃ zs', RC b lim (wt_u (wt_u (wt_u s (b + 17 + 2 * t) 13 (-1)) (b + 6) y.2 (s (b + 17 + 2 * t) 12)) (b + 17 + 2 * t) 12 (nI y.2)) (vs (vps V (vren t 1000 np V.2.1)) (4066 + t) (nI (np + 1))) zs' fr := by
  have hb := hx.b
  have hj := hP.1
  have hc := hP.2.1
  have ht := hP.2.2.1
  obtain ⟨n1, n2, n3⟩ := hc.mn
  have hym := List.mem_of_getElem? hy
  obtain ⟨k1, k2, k3, k4, k5, k6⟩ := h.2.2.2.1 t ht
  let re : vP × Nat → vP × Nat := fun z => if vkey t 1000 z.1 then ((z.1.1, z.1.2.1, z.1.2.2.1, np), z.2) else z
  have re2 : ∀ z, (re z).2 = z.2 := fun z => by show (if _ then _ else _ : vP × Nat).2 = _; split <;> rfl
  have re1 : ∀ z, (re z).1 = if vkey t 1000 z.1 then (z.1.1, z.1.2.1, z.1.2.2.1, np) else z.1 := fun z => by show (if _ then _ else _ : vP × Nat).1 = _; split <;> rfl
  have hmap : (zs.map re).map Prod.fst = vren t 1000 np V.2.1 := by
    rw [← h.1, List.map_map]
    unfold vren
    rw [List.map_map]
    exact List.map_congr_left (fun z _ => re1 z)
  have hids : zids (zs.map re) fr = zids zs fr := by
    unfold zids
    rw [List.map_map]
    congr 1
    exact List.map_congr_left (fun z _ => re2 z)
  have hro : ∀ z, (re z).1.1 = z.1.1 ∧ (re z).1.2.1 = z.1.2.1 ∧ (re z).1.2.2.1 = z.1.2.2.1 := fun z => by
    rw [re1]; split <;> exact ⟨rfl, rfl, rfl⟩
  have hva : ∀ l : List (vP × Nat), vall ((l.map re).map Prod.fst) = vall (l.map Prod.fst) := fun l => by
    induction l with
    | nil => rfl
    | cons z l ih =>
      show (re z).1.2.1 + vall ((l.map re).map Prod.fst) = z.1.2.1 + vall (l.map Prod.fst)
      rw [ih, (hro z).2.1]
  have hT : ∀ j, j ≠ 12 → j ≠ 13 → wt_u (wt_u (wt_u s (b + 17 + 2 * t) 13 (-1)) (b + 6) y.2 (s (b + 17 + 2 * t) 12)) (b + 17 + 2 * t) 12 (nI y.2) (b + 17 + 2 * t) j = s (b + 17 + 2 * t) j := fun j h1 h2 => by
    rw [wt_u_nk h1, wt_u_ne (by omega), wt_u_nk h2]
  have hC : ∀ c, c ≠ b + 6 → c ≠ b + 17 + 2 * t → wt_u (wt_u (wt_u s (b + 17 + 2 * t) 13 (-1)) (b + 6) y.2 (s (b + 17 + 2 * t) 12)) (b + 17 + 2 * t) 12 (nI y.2) c = s c := fun c h1 h2 => by
    rw [wt_u_ne h2, wt_u_ne h1, wt_u_ne h2]
  have h6 : ∀ i, i ≠ y.2 → wt_u (wt_u (wt_u s (b + 17 + 2 * t) 13 (-1)) (b + 6) y.2 (s (b + 17 + 2 * t) 12)) (b + 17 + 2 * t) 12 (nI y.2) (b + 6) i = s (b + 6) i := fun i hi => by
    rw [wt_u_ne (by omega), wt_u_nk hi, wt_u_ne (by omega)]
  have h6y : wt_u (wt_u (wt_u s (b + 17 + 2 * t) 13 (-1)) (b + 6) y.2 (s (b + 17 + 2 * t) 12)) (b + 17 + 2 * t) 12 (nI y.2) (b + 6) y.2 = s (b + 17 + 2 * t) 12 := by
    rw [wt_u_ne (by omega), wt_u_self]
  have h12 : wt_u (wt_u (wt_u s (b + 17 + 2 * t) 13 (-1)) (b + 6) y.2 (s (b + 17 + 2 * t) 12)) (b + 17 + 2 * t) 12 (nI y.2) (b + 17 + 2 * t) 12 = nI y.2 := wt_u_self
  have h13 : wt_u (wt_u (wt_u s (b + 17 + 2 * t) 13 (-1)) (b + 6) y.2 (s (b + 17 + 2 * t) 12)) (b + 17 + 2 * t) 12 (nI y.2) (b + 17 + 2 * t) 13 = -1 := by
    rw [wt_u_nk (by omega), wt_u_ne (by omega), wt_u_self]
  have hto : TO b t s (wt_u (wt_u (wt_u s (b + 17 + 2 * t) 13 (-1)) (b + 6) y.2 (s (b + 17 + 2 * t) 12)) (b + 17 + 2 * t) 12 (nI y.2)) := ((TO.u (by omega) ht).trans (TO.u (by omega) ht)).trans (TO.u (by omega) ht)
  generalize wt_u (wt_u (wt_u s (b + 17 + 2 * t) 13 (-1)) (b + 6) y.2 (s (b + 17 + 2 * t) 12)) (b + 17 + 2 * t) 12 (nI y.2) = s1 at *
  have hn1 : vnof V t 1000 := hc.nof (by omega)
  have hn2 : vnof V t np := hc.nof (Nat.le_refl _)
  have hw : ∀ i, i ≠ 4066 + t → (vs (vps V (vren t 1000 np V.2.1)) (4066 + t) (nI (np + 1))).1 i = V.1 i := fun i hi => vs_ne hi
  have hot : OT t V (vs (vps V (vren t 1000 np V.2.1)) (4066 + t) (nI (np + 1))) := OT.ren.trans (OT.vs ht (vown_t (by omega)))
  have hmem : ∀ z, z ∈ zs.map re ↔ ∃ z0 ∈ zs, re z0 = z := fun z => List.mem_map
  -- a piece of the new list: the old spare, or an old one
  have hcase : ∀ z, z ∈ zs.map re → (z.2 = y.2 ∧ z.1.2.2.1 = t ∧ z.1.2.2.2 = np) ∨ (z ∈ zs ∧ ¬ (z.1.2.2.1 = t ∧ z.1.2.2.2 = 1000)) := fun z hz => by
    obtain ⟨z0, hz0, rfl⟩ := (hmem z).mp hz
    by_cases c : z0.1.2.2.1 = t ∧ z0.1.2.2.2 = 1000
    · left
      have hz1 : z0.1 = y.1 := vuniq hj.2.2.1 z0.1 (h.mem hz0) y.1 (h.mem hym) (c.1.trans hk.1.symm) (c.2.trans hk.2.symm)
      have hkk : vkey t 1000 z0.1 = true := by simp [vkey, c]
      rw [re2, re1, if_pos hkk]
      refine ⟨?_, c.1, rfl⟩
      obtain ⟨x0, hx0⟩ := List.getElem?_of_mem hz0
      have hxx : x0 = x := by
        have hu := hj.2.2.1
        rw [← h.1, List.pairwise_iff_getElem] at hu
        have l1 := (List.getElem?_eq_some_iff.mp hx0).1
        have l2 := (List.getElem?_eq_some_iff.mp hy).1
        rcases Nat.lt_trichotomy x0 x with c1 | c1 | c1
        · have := hu x0 x (by rw [List.length_map]; exact l1) (by rw [List.length_map]; exact l2) c1
          rw [List.getElem_map, List.getElem_map, (List.getElem?_eq_some_iff.mp hx0).2, (List.getElem?_eq_some_iff.mp hy).2, hz1] at this
          exact absurd ⟨rfl, rfl⟩ this
        · exact c1
        · have := hu x x0 (by rw [List.length_map]; exact l2) (by rw [List.length_map]; exact l1) c1
          rw [List.getElem_map, List.getElem_map, (List.getElem?_eq_some_iff.mp hx0).2, (List.getElem?_eq_some_iff.mp hy).2, hz1] at this
          exact absurd ⟨rfl, rfl⟩ this
      subst hxx
      rw [hy] at hx0
      rw [Option.some.inj hx0]
    · right
      have hkk : vkey t 1000 z0.1 = false := by simp only [vkey, decide_eq_false_iff_not]; exact c
      have e0 : re z0 = z0 := by show (if _ then _ else _) = _; rw [hkk]; rfl
      rw [e0]
      exact ⟨hz0, c⟩
  refine ⟨zs.map re, h.op hx hj.1 hot ht hto hj.vfr (fun z hz => ?_) (fun z hz hzt => ?_) hmap ⟨?_, ?_, ?_, ?_, ?_, ?_, ?_, ?_⟩ ?_ ⟨?_, ?_, ⟨?_, ?_⟩, ⟨?_, ?_⟩, ?_, ?_⟩ ?_⟩
  · constructor
    · intro hz1
      rcases hcase z hz1 with c | c
      · exact absurd c.2.1 hz
      · exact c.1
    · intro hz1
      refine (hmem z).mpr ⟨z, hz1, ?_⟩
      have hkk : vkey t 1000 z.1 = false := by simp only [vkey, decide_eq_false_iff_not]; exact fun c => hz c.1
      show (if _ then _ else _) = _
      rw [hkk]; rfl
  · have hne : z.2 ≠ y.2 := fun e => hzt (by rw [h.2.1.inj hz hym e]; exact hk.1)
    rw [hC (b + 5) (by omega) (by omega), h6 _ hne]
    exact ⟨rfl, rfl⟩
  · rw [hC _ (by omega) (by omega), List.length_map]; exact h.2.1.1
  · rw [hC _ (by omega) (by omega), hva]; exact h.2.1.2.1
  · rw [hC _ (by omega) (by omega)]; exact h.2.1.2.2.1
  · rw [hids]; exact h.2.1.2.2.2.1
  · rw [hids]; exact h.2.1.2.2.2.2.1
  · rw [hids]; exact h.2.1.2.2.2.2.2.1
  · rw [hids, hC _ (by omega) (by omega)]; exact h.2.1.2.2.2.2.2.2.1
  · intro z hz
    obtain ⟨z0, hz0, rfl⟩ := (hmem z).mp hz
    rw [hC _ (by omega) (by omega), hC _ (by omega) (by omega), hC _ (by omega) (by omega), re2, (hro z0).1, (hro z0).2.1, (hro z0).2.2]
    exact (h.2.1.mem hz0).2
  · exact h.2.2.1.keep (hC _ (by omega) (by omega)) (hC _ (by omega) (by omega)) (fun i i1 i2 => hw i (by omega))
  · exact k1.keep hT (hC _ (by omega) (by omega)) ht (fun i i1 i2 => hw i (by omega))
  · refine k2.keep hT rfl (hw _ (by omega)) (fun h0 => vpl_find (ps' := vren t 1000 np V.2.1) (vfind_ren (fun e => ?_)) rfl)
    have q1 := hn1 (V.2.2.1 t - 1) (by omega)
    have q2 := hn2 (V.2.2.1 t - 1) (by omega)
    rcases e.2 with e | e
    · exact q1 e
    · exact q2 e
  · intro e
    rw [vs_at] at e
    have := congrArg Int32.toInt e
    rw [nI_int (by omega)] at this
    rw [ci0] at this
    omega
  · intro z hz hzt hzn
    rw [vs_at] at hzn
    rcases hcase z hz with c | c
    · rw [h12, c.1]
    · have := hc.num (h.mem c.1) hzt
      have e2 := (nI_inj (by omega) (by omega)).mp hzn
      omega
  · intro z hz hzt hzn
    rcases hcase z hz with c | c
    · omega
    · exact absurd ⟨hzt, hzn⟩ c.2
  · intro _
    exact h13
  · exact k5.keep hT ht (fun i i1 i2 => hw i (by omega))
  · intro z hz hzt
    have hvu : ∀ n, vud (vs (vps V (vren t 1000 np V.2.1)) (4066 + t) (nI (np + 1))).1 (V.2.2.2 t) n (V.2.2.1 t) = vud V.1 (V.2.2.2 t) n (V.2.2.1 t) := fun n => vud_pe hot.1 (hj.vfr t ht)
    show s1 (b + 5) z.2 = nI (vud (vs (vps V (vren t 1000 np V.2.1)) (4066 + t) (nI (np + 1))).1 (V.2.2.2 t) z.1.2.2.2 (V.2.2.1 t)) ∧ _
    rw [hvu, hC _ (by omega) (by omega)]
    rcases hcase z hz with c | c
    · obtain ⟨u1, -, -⟩ := k6 y hym hk.1
      rw [c.1, u1, hk.2, c.2.2, vud_zero hn1, vud_zero hn2]
      refine ⟨rfl, fun e => by omega, fun z' hz' hzt' hzn' => ?_⟩
      rw [h6y]
      rcases hcase z' hz' with c' | c'
      · omega
      · refine k3.2 z' c'.1 hzt' ?_
        rw [n1, ← hzn']
    · have hne : z.2 ≠ y.2 := fun e => c.2 (by rw [h.2.1.inj c.1 hym e]; exact hk)
      obtain ⟨u1, u2, u3⟩ := k6 z c.1 hzt
      rw [h6 _ hne]
      refine ⟨u1, u2, fun z' hz' hzt' hzn' => ?_⟩
      rcases hcase z' hz' with c' | c'
      · have := hc.num (h.mem c.1) hzt
        omega
      · exact u3 z' c'.1 hzt' hzn'
  · rw [hC _ (by omega) (by omega)]
    exact VM_vs (Or.inr (by omega)) (VM.ren hj h.2.2.2.2.1 hn1 hn2)
end
