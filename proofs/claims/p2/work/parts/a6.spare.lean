/-! ===== the class: a spare is given back ===== -/
/-- all but pieces, log and the task itself stays -/
def XF (b t : Nat) (s s' : wt_S) : Prop := ∀ c, ¬ (b + 2 ≤ c ∧ c ≤ b + 9) → c ≠ b + 11 → c ≠ b + 12 → c ≠ b + 17 + 2 * t → s' c = s c
section
variable {b lim : Nat} {s s' : wt_S} {V V' : vV} {zs zs' : List (vP × Nat)} {fr fr' : List Nat} {t : Nat}
theorem XF.to (h : XF b t s s') (ht : t < 6) : TO b t s s' := ⟨fun k hk hne => ⟨h _ (by omega) (by omega) (by omega) (by omega), h _ (by omega) (by omega) (by omega) (by omega)⟩, fun c hc => h c (by omega) (by omega) (by omega) (by omega)⟩
theorem XF.trans {s2 : wt_S} (h : XF b t s s') (h' : XF b t s' s2) : XF b t s s2 := fun c h1 h2 h3 h4 => (h' c h1 h2 h3 h4).trans (h c h1 h2 h3 h4)
theorem XF.refl : XF b t s s := fun _ _ _ _ _ => rfl
theorem XF.pf (h : PF b s s') : XF b t s s' := fun c h1 _ _ _ => h c h1
theorem XF.lf (h : LF b s s') : XF b t s s' := fun c _ h2 h3 _ => h c h2 h3
theorem XF.u {j : Nat} {v : Int32} : XF b t s (wt_u s (b + 17 + 2 * t) j v) := fun c _ _ _ h4 => wt_u_ne h4
/-- a piece of the picture and its id -/
theorem zfind {ps : List vP} {n : Nat} (h : zs.map Prod.fst = ps) (hu : ps.Pairwise (fun p q => ¬ (p.2.2.1 = q.2.2.1 ∧ p.2.2.2 = q.2.2.2))) (hq : ∃ q ∈ ps, q.2.2.1 = t ∧ q.2.2.2 = n) : ∃ x z, zs[x]? = some z ∧ z ∈ zs ∧ z.1.2.2.1 = t ∧ z.1.2.2.2 = n ∧ vat ps t n = z.1.1 ∧ vln ps t n = z.1.2.1 ∧ (zs.eraseIdx x).map Prod.fst = ps.filter (fun q => !vkey t n q) ∧ ∀ y, y ∈ zs.eraseIdx x ↔ y ∈ zs ∧ ¬ (y.1.2.2.1 = t ∧ y.1.2.2.2 = n) := by
  obtain ⟨x, q, e1, e2, e3, e4, e5, e6, e7, e8⟩ := vfi_some hq
  rw [← h, List.getElem?_map] at e2
  obtain ⟨z, hz, rfl⟩ := Option.map_eq_some_iff.mp e2
  have he := vfi_erase hu e1
  rw [Nat.sub_zero] at he
  refine ⟨x, z, hz, List.mem_of_getElem? hz, e5, e6, e7, e8, ?_, fun y => ?_⟩
  · rw [er_map, h]; exact he
  · rw [List.mem_eraseIdx_iff_getElem?]
    have key : ∀ i y, zs[i]? = some y → y.1.2.2.1 = t → y.1.2.2.2 = n → i = x := fun i y hi h1 h2 => by
      rcases Nat.lt_trichotomy i x with c | c | c
      · exfalso
        rw [← h, List.pairwise_iff_getElem] at hu
        have l1 := (List.getElem?_eq_some_iff.mp hi).1
        have l2 := (List.getElem?_eq_some_iff.mp hz).1
        have := hu i x (by rw [List.length_map]; exact l1) (by rw [List.length_map]; exact l2) c
        rw [List.getElem_map, List.getElem_map, (List.getElem?_eq_some_iff.mp hi).2, (List.getElem?_eq_some_iff.mp hz).2] at this
        exact this ⟨h1.trans e5.symm, h2.trans e6.symm⟩
      · exact c
      · exfalso
        rw [← h, List.pairwise_iff_getElem] at hu
        have l1 := (List.getElem?_eq_some_iff.mp hi).1
        have l2 := (List.getElem?_eq_some_iff.mp hz).1
        have := hu x i (by rw [List.length_map]; exact l2) (by rw [List.length_map]; exact l1) c
        rw [List.getElem_map, List.getElem_map, (List.getElem?_eq_some_iff.mp hi).2, (List.getElem?_eq_some_iff.mp hz).2] at this
        exact this ⟨e5.trans h1.symm, e6.trans h2.symm⟩
    constructor
    · rintro ⟨i, hne, hi⟩
      exact ⟨List.mem_of_getElem? hi, fun hq => hne (key i y hi hq.1 hq.2)⟩
    · rintro ⟨hy, hn⟩
      obtain ⟨i, hi⟩ := List.getElem?_of_mem hy
      refine ⟨i, fun e => ?_, hi⟩
      subst e
      rw [hz] at hi
      cases hi
      exact hn ⟨e5, e6⟩
theorem RC.mem (h : RC b lim s V zs fr) {z : vP × Nat} (hz : z ∈ zs) : z.1 ∈ V.2.1 := by
  rw [← h.1]
  exact List.mem_map.mpr ⟨z, hz, rfl⟩
theorem RC.mm (h : RC b lim s V zs fr) {q : vP} (hq : q ∈ V.2.1) : ∃ z ∈ zs, z.1 = q := by
  rw [← h.1] at hq
  obtain ⟨z, hz, e⟩ := List.mem_map.mp hq
  exact ⟨z, hz, e⟩
/-- without the spare -/
theorem c_spare (h : RC b lim s V zs fr) (hx : CX b lim) (hj : VJ lim V) (ht : t < 6) (hn : vnof V t 1000) : ∃ s' zs' fr', gX4_dropSpare b (b + 17 + 2 * t) s = some (rb ((V.2.1.find? (vkey t 1000)).isSome = true), s') ∧ RC b lim s' (vsp V t) zs' fr' ∧ XF b t s s' ∧ s' (b + 17 + 2 * t) = mj_upd (s (b + 17 + 2 * t)) 13 (-1) := by
  have hb := hx.b
  have hT : (s (b + 17 + 2 * t)) 13 = -1 → mj_upd (s (b + 17 + 2 * t)) 13 (-1) = s (b + 17 + 2 * t) := fun e => by
    funext j
    by_cases c : j = 13
    · subst c; rw [mj_upd_self, e]
    · rw [mj_upd_ne c]
  obtain ⟨r1, r2⟩ := (h.2.2.2.1 t ht).2.2.2.1
  unfold gX4_dropSpare
  cases e : V.2.1.find? (vkey t 1000) with
  | none =>
    have hno : ∀ q ∈ V.2.1, ¬ (q.2.2.1 = t ∧ q.2.2.2 = 1000) := fun q hq hk => by
      have := List.find?_eq_none.mp e q hq
      simp [vkey, hk] at this
    have e13 := r2 hno
    refine ⟨s, zs, fr, ?_, ?_, XF.refl, (hT e13).symm⟩
    · rw [if_neg (fun c => c e13), rb_neg (by simp)]
    · unfold vsp
      rw [e]
      exact h
  | some q =>
    have hq1 := List.mem_of_find?_eq_some e
    have hq2 := List.find?_some e
    have hq2 : q.2.2.1 = t ∧ q.2.2.2 = 1000 := by simpa [vkey] using hq2
    obtain ⟨x, z, z1, z2, z3, z4, -, -, z5, z6⟩ := zfind h.1 hj.2.2.1 ⟨q, hq1, hq2⟩
    have e13 := r1 z z2 z3 z4
    have hid := (h.2.1.mem z2).1
    obtain ⟨s2, w1, w2⟩ := c_writeLog (b := b) (s := wt_u s (b + 17 + 2 * t) 13 (-1)) (i1 := 5) hid
    have hP2 : PC b lim s2 zs fr := h.2.1.eq (fun c hc => by rw [w2 c (by omega) (by omega), wt_u_ne (by omega)])
    obtain ⟨s3, g1, g2, g3, g4, g5, g6⟩ := c_give hP2 (by rw [h.1]; exact hj.2.1) hx.2.2 z1
    have hX : XF b t s s3 := (XF.u.trans (XF.lf w2)).trans (XF.pf g6)
    have hT3 : s3 (b + 17 + 2 * t) = mj_upd (s (b + 17 + 2 * t)) 13 (-1) := by
      rw [g6 _ (by omega), w2 _ (by omega) (by omega), wt_u_at]
    have h5 : s3 (b + 5) = s (b + 5) := by rw [g3, w2 _ (by omega) (by omega), wt_u_ne (by omega)]
    have h6 : s3 (b + 6) = s (b + 6) := by rw [g4, w2 _ (by omega) (by omega), wt_u_ne (by omega)]
    have hv : vsp V t = vps (vlg1 V) (V.2.1.filter (fun q => !vkey t 1000 q)) := by
      unfold vsp
      rw [e]
      rfl
    refine ⟨s3, zs.eraseIdx x, z.2 :: fr, ?_, ?_, hX, hT3⟩
    · rw [e13, if_pos (nI_m1 (by omega)), wr_eq, w1, cl_some, g1, cl_some, rb_pos (by simp)]
    · obtain ⟨⟨a0, a1, a2⟩, ⟨l1, l2⟩, ⟨p1, p2⟩, -, g, zz⟩ := h.2.2.2.1 t ht
      have hw : ∀ i, i ≠ 2067 → (vsp V t).1 i = V.1 i := fun i hi => vsp_w hi
      have h22 : (vsp V t).2.2 = V.2.2 := vsp_22
      have hot : OT t V (vsp V t) := OT.sp ht
      have tj : ∀ j, j ≠ 13 → s3 (b + 17 + 2 * t) j = s (b + 17 + 2 * t) j := fun j hj => by rw [hT3, mj_upd_ne hj]
      refine h.op hx hj.1 hot ht (hX.to ht) hj.vfr (fun y hy => ?_) (fun y _ _ => by rw [h5, h6]; exact ⟨rfl, rfl⟩) ?_ g2 ⟨fun j hj => ?_, fun j hj => ?_⟩ ⟨⟨?_, fun e' he' => ?_, fun e' he' => ?_⟩, ⟨?_, ?_⟩, ⟨?_, fun y hy => ?_⟩, ⟨fun y hy h1 h2 => ?_, fun _ => ?_⟩, ?_, fun y hy hyt => ?_⟩ ?_
      · rw [z6]
        exact ⟨fun q => q.1, fun q => ⟨q, fun c => hy c.1⟩⟩
      · rw [z5, hv]; rfl
      · rw [hX _ (by omega) (by omega) (by omega) (by omega), hw _ (by omega)]; exact h.2.2.1.1 j hj
      · rw [hX _ (by omega) (by omega) (by omega) (by omega), hw _ (by omega)]; exact h.2.2.1.2 j hj
      · rw [tj _ (by omega)]; exact a0
      · have := tf_p e' he'
        have := tf_n e' he'
        rw [tj _ (by omega), hw _ (by omega)]; exact a1 e' he'
      · have := ts_p e' he'
        rw [hX _ (by omega) (by omega) (by omega) (by omega), hw _ (by omega)]; exact a2 e' he'
      · rw [h22, tj _ (by omega), tj _ (by omega)]; exact l1
      · have hvp : vpl (vsp V t) t ((vsp V t).2.2.1 t - 1) = vpl V t (V.2.2.1 t - 1) ∨ V.2.2.1 t = 0 := by
          by_cases c0 : V.2.2.1 t = 0
          · exact Or.inr c0
          · left
            unfold vpl
            rw [h22, vsp_ps]
            congr 1
            refine (vat_eq (vfind_filter (fun q hq hk => ?_))).1
            have := hn (V.2.2.1 t - 1) (by omega)
            have hk : q.2.2.1 = t ∧ q.2.2.2 = (V.2.2.2 t (V.2.2.1 t - 1)).2.1 := by simpa [vkey] using hk
            simp only [vkey, Bool.not_eq_true', decide_eq_false_iff_not]
            intro hc
            exact this (hk.2.symm.trans hc.2)
        intro h0
        rw [h22] at h0
        rw [tj _ (by omega), tj _ (by omega), hw _ (by omega)]
        rcases hvp with hvp | hvp
        · rw [hvp]; exact l2 h0
        · omega
      · rw [tj _ (by omega), hw _ (by omega)]; exact p1
      · rw [tj _ (by omega), hw _ (by omega)]
        exact p2 y ((z6 y).mp hy).1
      · exact absurd ⟨h1, h2⟩ ((z6 y).mp hy).2
      · rw [hT3, mj_upd_self]
      · unfold Kg
        rw [tj _ (by omega), hw _ (by omega), hw _ (by omega)]; exact g
      · rw [h5, h6, h22]
        obtain ⟨q1, q2, q3⟩ := zz y ((z6 y).mp hy).1 hyt
        rw [vud_pe hot.1 (hj.vfr t ht)]
        exact ⟨q1, q2, fun y' hy' => q3 y' ((z6 y').mp hy').1⟩
      · rw [hX _ (by omega) (by omega) (by omega) (by omega)]
        rw [hv]
        exact VM_vs (Or.inl (by omega)) (VM.sp hj h.2.2.2.2.1 (vnof_P hn))
end
