/-! ===== the class: between two states (a frame has gone, LINE and AT aren't set yet) ===== -/
section
variable {b lim : Nat} {s s' : wt_S} {V V' : vV} {zs zs' : List (vP × Nat)} {fr fr' : List Nat} {t np k : Nat}
def RBtk (b : Nat) (s : wt_S) (V : vV) (zs : List (vP × Nat)) (k : Nat) : Prop := Ks b s V.1 k ∧ True ∧ Ka b s V zs k ∧ Kr b s V zs k ∧ Kg b s V.1 k ∧ Kz b s V zs k
def RBt (b lim : Nat) (s : wt_S) (V : vV) (zs : List (vP × Nat)) (fr : List Nat) (t : Nat) : Prop := zs.map Prod.fst = V.2.1 ∧ PC b lim s zs fr ∧ CG b s V.1 ∧ ((∀ k, k < 6 → k ≠ t → RCk b s V zs k) ∧ RBtk b s V zs t) ∧ VM (s (b + 15)) V ∧ RP 5 s V.1
theorem RC.op1 (h : RC b lim s V zs fr) (hx : CX b lim) (hp : Ipr V.1) (ho : OT t V V') (ht : t < 6) (hto : TO b t s s') (hfr : ∀ k, k < 6 → ∀ i, i < V.2.2.1 k → (V.2.2.2 k i).1 < 10) (hz : ∀ z : vP × Nat, z.1.2.2.1 ≠ t → (z ∈ zs' ↔ z ∈ zs)) (hu : ∀ z ∈ zs, z.1.2.2.1 ≠ t → s' (b + 5) z.2 = s (b + 5) z.2 ∧ s' (b + 6) z.2 = s (b + 6) z.2) (h1 : zs'.map Prod.fst = V'.2.1) (h2 : PC b lim s' zs' fr') (h3 : CG b s' V'.1) (h4 : RBtk b s' V' zs' t) (h5 : VM (s' (b + 15)) V') : RBt b lim s' V' zs' fr' t := by
  have hb := hx.b
  exact ⟨h1, h2, h3, ⟨fun k hk e => (h.2.2.2.1 k hk).ot ho hk e (hfr k hk) (hto.1 k hk e) hz (fun z hz1 hz2 => hu z hz1 (by omega)), h4⟩, h5, h.2.2.2.2.2.eq hp ho.1 (fun c c1 c2 => hto.2 c (by omega))⟩
theorem RBt.op (h : RBt b lim s V zs fr t) (hx : CX b lim) (hp : Ipr V.1) (ho : OT t V V') (ht : t < 6) (hto : TO b t s s') (hfr : ∀ k, k < 6 → ∀ i, i < V.2.2.1 k → (V.2.2.2 k i).1 < 10) (hz : ∀ z : vP × Nat, z.1.2.2.1 ≠ t → (z ∈ zs' ↔ z ∈ zs)) (hu : ∀ z ∈ zs, z.1.2.2.1 ≠ t → s' (b + 5) z.2 = s (b + 5) z.2 ∧ s' (b + 6) z.2 = s (b + 6) z.2) (h1 : zs'.map Prod.fst = V'.2.1) (h2 : PC b lim s' zs' fr') (h3 : CG b s' V'.1) (h4 : RBtk b s' V' zs' t) (h5 : VM (s' (b + 15)) V') : RBt b lim s' V' zs' fr' t := by
  have hb := hx.b
  exact ⟨h1, h2, h3, ⟨fun k hk e => (h.2.2.2.1.1 k hk e).ot ho hk e (hfr k hk) (hto.1 k hk e) hz (fun z hz1 hz2 => hu z hz1 (by omega)), h4⟩, h5, h.2.2.2.2.2.eq hp ho.1 (fun c c1 c2 => hto.2 c (by omega))⟩
/-- without the spare, between -/
theorem c_spareL (h : RBt b lim s V zs fr t) (hx : CX b lim) (hj : VJ lim V) (ht : t < 6) (hn : vnof V t 1000) : ∃ s' zs' fr', gX4_dropSpare b (b + 17 + 2 * t) s = some (rb ((V.2.1.find? (vkey t 1000)).isSome = true), s') ∧ RBt b lim s' (vsp V t) zs' fr' t ∧ XF b t s s' ∧ s' (b + 17 + 2 * t) = mj_upd (s (b + 17 + 2 * t)) 13 (-1) ∧ (∀ z ∈ zs', z ∈ zs) := by
  have hb := hx.b
  have hT : (s (b + 17 + 2 * t)) 13 = -1 → mj_upd (s (b + 17 + 2 * t)) 13 (-1) = s (b + 17 + 2 * t) := fun e => by
    funext j
    by_cases c : j = 13
    · subst c; rw [mj_upd_self, e]
    · rw [mj_upd_ne c]
  obtain ⟨r1, r2⟩ := h.2.2.2.1.2.2.2.2.1
  unfold gX4_dropSpare
  cases e : V.2.1.find? (vkey t 1000) with
  | none =>
    have hno : ∀ q ∈ V.2.1, ¬ (q.2.2.1 = t ∧ q.2.2.2 = 1000) := fun q hq hk => by
      have := List.find?_eq_none.mp e q hq
      simp [vkey, hk] at this
    have e13 := r2 hno
    refine ⟨s, zs, fr, ?_, ?_, XF.refl, (hT e13).symm, fun z hz => hz⟩
    · rw [if_neg (fun c => c e13), rb_neg (by simp)]
    · unfold vsp
      rw [e]
      exact h
  | some q =>
    have hq1 := List.mem_of_find?_eq_some e
    have hq2 := List.find?_some e
    have hq2 : q.2.2.1 = t ∧ q.2.2.2 = 1000 := by simpa [vkey] using hq2
    obtain ⟨x, z, z1, z2, z3, z4, -, -, z5, z6⟩ := zfind h.1 hj.2.2.1 ⟨q, hq1, hq2⟩
    have e13 := r1 z z2 z3 z4
    have hid := (h.2.1.mem z2).1
    obtain ⟨s2, w1, w2⟩ := c_writeLog (b := b) (s := wt_u s (b + 17 + 2 * t) 13 (-1)) (i1 := 5) hid
    have hP2 : PC b lim s2 zs fr := h.2.1.eq (fun c hc => by rw [w2 c (by omega) (by omega), wt_u_ne (by omega)])
    obtain ⟨s3, g1, g2, g3, g4, g5, g6⟩ := c_give hP2 (by rw [h.1]; exact hj.2.1) hx.2.2 z1
    have hX : XF b t s s3 := (XF.u.trans (XF.lf w2)).trans (XF.pf g6)
    have hT3 : s3 (b + 17 + 2 * t) = mj_upd (s (b + 17 + 2 * t)) 13 (-1) := by
      rw [g6 _ (by omega), w2 _ (by omega) (by omega), wt_u_at]
    have h5 : s3 (b + 5) = s (b + 5) := by rw [g3, w2 _ (by omega) (by omega), wt_u_ne (by omega)]
    have h6 : s3 (b + 6) = s (b + 6) := by rw [g4, w2 _ (by omega) (by omega), wt_u_ne (by omega)]
    have hv : vsp V t = vps (vlg1 V) (V.2.1.filter (fun q => !vkey t 1000 q)) := by
      unfold vsp
      rw [e]
      rfl
    refine ⟨s3, zs.eraseIdx x, z.2 :: fr, ?_, ?_, hX, hT3, fun y hy => ((z6 y).mp hy).1⟩
    · rw [e13, if_pos (nI_m1 (by omega)), wr_eq, w1, cl_some, g1, cl_some, rb_pos (by simp)]
    · obtain ⟨⟨a0, a1, a2⟩, -, ⟨p1, p2⟩, -, g, zz⟩ := h.2.2.2.1.2
      have hw : ∀ i, i ≠ 2067 → (vsp V t).1 i = V.1 i := fun i hi => vsp_w hi
      have h22 : (vsp V t).2.2 = V.2.2 := vsp_22
      have hot : OT t V (vsp V t) := OT.sp ht
      have tj : ∀ j, j ≠ 13 → s3 (b + 17 + 2 * t) j = s (b + 17 + 2 * t) j := fun j hj => by rw [hT3, mj_upd_ne hj]
      refine h.op hx hj.1 hot ht (hX.to ht) hj.vfr (fun y hy => ?_) (fun y _ _ => by rw [h5, h6]; exact ⟨rfl, rfl⟩) ?_ g2 ⟨fun j hj => ?_, fun j hj => ?_⟩ ⟨⟨?_, fun e' he' => ?_, fun e' he' => ?_⟩, trivial, ⟨?_, fun y hy => ?_⟩, ⟨fun y hy h1 h2 => ?_, fun _ => ?_⟩, ?_, fun y hy hyt => ?_⟩ ?_
      · rw [z6]
        exact ⟨fun q => q.1, fun q => ⟨q, fun c => hy c.1⟩⟩
      · rw [z5, hv]; rfl
      · rw [hX _ (by omega) (by omega) (by omega) (by omega), hw _ (by omega)]; exact h.2.2.1.1 j hj
      · rw [hX _ (by omega) (by omega) (by omega) (by omega), hw _ (by omega)]; exact h.2.2.1.2 j hj
      · rw [tj _ (by omega)]; exact a0
      · have := tf_p e' he'
        have := tf_n e' he'
        rw [tj _ (by omega), hw _ (by omega)]; exact a1 e' he'
      · have := ts_p e' he'
        rw [hX _ (by omega) (by omega) (by omega) (by omega), hw _ (by omega)]; exact a2 e' he'
      · rw [tj _ (by omega), hw _ (by omega)]; exact p1
      · rw [tj _ (by omega), hw _ (by omega)]
        exact p2 y ((z6 y).mp hy).1
      · exact absurd ⟨h1, h2⟩ ((z6 y).mp hy).2
      · rw [hT3, mj_upd_self]
      · unfold Kg
        rw [tj _ (by omega), hw _ (by omega), hw _ (by omega)]; exact g
      · rw [h5, h6, h22]
        obtain ⟨q1, q2, q3⟩ := zz y ((z6 y).mp hy).1 hyt
        rw [vud_pe hot.1 (hj.vfr t ht)]
        exact ⟨q1, q2, fun y' hy' => q3 y' ((z6 y').mp hy').1⟩
      · rw [hX _ (by omega) (by omega) (by omega) (by omega)]
        rw [hv]
        exact VM_vs (Or.inl (by omega)) (VM.sp hj h.2.2.2.2.1 (vnof_P hn))
end
