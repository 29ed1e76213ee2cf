/-! ===== the class: a task ends, whole ===== -/
section
variable {b lim : Nat} {s s' : wt_S} {V V' : vV} {zs zs' : List (vP × Nat)} {fr fr' : List Nat} {t np z need : Nat}
theorem c_end {ps : List vP} {st : Int32} {k : Nat} (hst : (st = 3 ∧ k = 0) ∨ (st = 4 ∧ k = 1)) (hx : CX b lim) (ht : t < 6) (hp : Ipr V.1) (hf : VFR V) (hP : PC b lim s zs fr) (hm : zs.map Prod.fst = ps) (ho : vo lim ps) (hu : ps.Pairwise (fun p q => ¬ (p.2.2.1 = q.2.2.1 ∧ p.2.2.2 = q.2.2.2))) (hit : Itp ps t np) (hnp : np ≤ 256) (hch : Ch b s zs t np) (hps : ps.filter (fun q => decide (q.2.2.1 ≠ t)) = V.2.1.filter (fun q => decide (q.2.2.1 ≠ t))) (hg : CG b s V.1) (hoth : ∀ k, k < 6 → k ≠ t → RCk b s V zs k) (hks : Ks b s V.1 t) (hkg : s (b + 17 + 2 * t) 15 = V.1 (4052 + t)) (hvm : VM (s (b + 15)) (vga V t)) (hrp : RP 5 s V.1) (hsd : V.1 (3989 + t) = -1 ∨ ∃ k, k < 3 ∧ V.1 (3989 + t) = nI k ∧ V.1 (3923 + k) = nI t) :
    ∃ s' zs' fr', gX2_end b (b + 17 + 2 * t) s st = some ((), s') ∧ RC b lim s' (vlg1 (vcn (vs (vga V t) (3926 + t) st) k 1)) zs' fr' ∧ TO b t s s' := by
  have hb := hx.b
  have hsd' : V.1 (3989 + t) = -1 ∨ ∃ k, k < 3 ∧ V.1 (3989 + t) = nI k := by
    rcases hsd with e | ⟨k, e1, e2, -⟩
    · exact Or.inl e
    · exact Or.inr ⟨k, e1, e2⟩
  have hst0 : st ≠ 0 := by rcases hst with ⟨rfl, -⟩ | ⟨rfl, -⟩ <;> decide
  obtain ⟨s1, zs1, fr1, a1, a2, a3, a4, a5, a6, a7, a8⟩ := c_rel hx ht hP hm ho hu hit hnp hch
  obtain ⟨s2, d1, d2, d3⟩ := c_drop (s := s1) (T := b + 17 + 2 * t)
  generalize hs3 : wt_u s2 (b + 17 + 2 * t) 1 st = s3
  have f3 : ∀ c, ¬ (b + 2 ≤ c ∧ c ≤ b + 9) → c ≠ b + 17 + 2 * t → s3 c = s c := fun c h1 h2 => by
    rw [← hs3, wt_u_ne h2, d2 c h2, a7 c h1 h2]
  have f3p : ∀ c, c ≠ b + 17 + 2 * t → s3 c = s1 c := fun c h2 => by rw [← hs3, wt_u_ne h2, d2 c h2]
  have fT : ∀ j, j ≠ 1 → s3 (b + 17 + 2 * t) j = dst (mj_upd (s (b + 17 + 2 * t)) 13 (-1)) j := fun j hj => by
    rw [← hs3, wt_u_nk hj, d3, a8]
  have fTk : ∀ j, j ≠ 1 → j ≠ 4 → j ≠ 5 → ¬ (7 ≤ j ∧ j ≤ 13) → s3 (b + 17 + 2 * t) j = s (b + 17 + 2 * t) j := fun j h1 h2 h3 h4 => by
    rw [fT j h1]
    unfold dst
    rw [if_neg (by omega), if_neg (by omega), mj_upd_ne (by omega)]
  have fTm : ∀ j, j = 7 ∨ (9 ≤ j ∧ j ≤ 13) → s3 (b + 17 + 2 * t) j = -1 := fun j h1 => by
    rw [fT j (by omega)]
    unfold dst
    rw [if_neg (by omega), if_pos h1]
  have fTz : ∀ j, j = 4 ∨ j = 5 ∨ j = 8 → s3 (b + 17 + 2 * t) j = 0 := fun j h1 => by
    rw [fT j (by omega)]
    unfold dst
    rw [if_pos h1]
  have fT1 : s3 (b + 17 + 2 * t) 1 = st := by rw [← hs3]; exact wt_u_self
  have hv : ∀ i, 3926 ≤ i → i ≠ 3926 + t → (vs (vga V t) (3926 + t) st).1 i = if i = 3975 + t ∨ i = 3989 + t then -1 else if i = 3961 + t ∨ i = 3954 + t ∨ i = 4066 + t ∨ i = 3996 + t then 0 else V.1 i := fun i h1 h2 => by
    rw [vs_ne h2]; exact (vga_i hsd').1 h1
  have hvl : ∀ i, i < 3923 → (vs (vga V t) (3926 + t) st).1 i = V.1 i := fun i h1 => by
    rw [vs_ne (by omega)]; exact (vga_i hsd').2 h1
  have hot : OT t V (vs (vga V t) (3926 + t) st) := (ot_ga0 ht hsd).trans (OT.vs ht (vown_t (by omega)))
  have hps2 : (vs (vga V t) (3926 + t) st).2.1 = V.2.1.filter (fun q => decide (q.2.2.1 ≠ t)) := by
    show (vga V t).2.1 = _
    rw [vga_2]
  have hn0 : (vs (vga V t) (3926 + t) st).2.2.1 t = 0 := by
    show (vga V t).2.2.1 t = 0
    rw [vga_2]; exact mj_upd_self
  have h0 : RC b lim s3 (vs (vga V t) (3926 + t) st) zs1 fr1 := by
    refine ⟨by rw [a3, hps, hps2], a2.eq (fun c hc => f3p c (by omega)), ⟨fun j hj => ?_, fun j hj => ?_⟩, fun k hk => ?_, ?_, hrp.eq hp hot.1 (fun c c1 c2 => f3 c (by omega) (by omega))⟩
    · rw [f3 _ (by omega) (by omega), hvl _ (by omega)]; exact hg.1 j hj
    · rw [f3 _ (by omega) (by omega), hvl _ (by omega)]; exact hg.2 j hj
    · by_cases e : k = t
      · subst e
        refine ⟨⟨?_, fun e he => ?_, fun e he => ?_⟩, ⟨fun _ => ⟨fTm _ (by omega), fTm _ (by omega)⟩, fun h1 => by omega⟩, ⟨fun _ => fTm _ (by omega), fun y hy hyt => absurd hyt ((a4 y).mp hy).2⟩, ⟨fun y hy hyt => absurd hyt ((a4 y).mp hy).2, fun _ => fTm _ (by omega)⟩, fun _ => ?_, fun y hy hyt => absurd hyt ((a4 y).mp hy).2⟩
        · rw [fTk _ (by omega) (by omega) (by omega) (by omega)]; exact hks.1
        · have hk1 := hks.2.1 e he
          simp only [tf, List.mem_cons, List.not_mem_nil, or_false] at he
          rcases he with rfl | rfl | rfl | rfl | rfl | rfl | rfl | rfl | rfl | rfl
          · rw [vs_at]; exact fT1
          · rw [hv _ (by omega) (by omega), if_neg (by omega), if_neg (by omega), fTk _ (by omega) (by omega) (by omega) (by omega)]; exact hk1
          · rw [hv _ (by omega) (by omega), if_neg (by omega), if_neg (by omega), fTk _ (by omega) (by omega) (by omega) (by omega)]; exact hk1
          · rw [hv _ (by omega) (by omega), if_neg (by omega), if_pos (by omega)]; exact fTz _ (by omega)
          · rw [hv _ (by omega) (by omega), if_neg (by omega), if_pos (by omega)]; exact fTz _ (by omega)
          · rw [hv _ (by omega) (by omega), if_neg (by omega), if_neg (by omega), fTk _ (by omega) (by omega) (by omega) (by omega)]; exact hk1
          · rw [hv _ (by omega) (by omega), if_pos (by omega)]; exact fTm _ (by omega)
          · rw [hv _ (by omega) (by omega), if_neg (by omega), if_pos (by omega)]; exact fTz _ (by omega)
          · rw [hv _ (by omega) (by omega), if_pos (by omega)]; exact fTm _ (by omega)
          · rw [hv _ (by omega) (by omega), if_neg (by omega), if_neg (by omega), fTk _ (by omega) (by omega) (by omega) (by omega)]; exact hk1
        · have hk1 := hks.2.2 e he
          have ep := ts_p e he
          have hne : e.2 ≠ 3975 ∧ e.2 ≠ 3989 ∧ e.2 ≠ 3961 ∧ e.2 ≠ 3954 ∧ e.2 ≠ 4066 ∧ e.2 ≠ 3996 ∧ e.2 ≠ 3926 := by
            have : ∀ e ∈ ts, e.2 ≠ 3975 ∧ e.2 ≠ 3989 ∧ e.2 ≠ 3961 ∧ e.2 ≠ 3954 ∧ e.2 ≠ 4066 ∧ e.2 ≠ 3996 ∧ e.2 ≠ 3926 := by decide
            exact this e he
          rw [hv _ (by omega) (by omega), if_neg (by omega), if_neg (by omega), f3 _ (by omega) (by omega)]; exact hk1
        · rw [hv _ (by omega) (by omega), if_neg (by omega), if_neg (by omega), fTk _ (by omega) (by omega) (by omega) (by omega)]; exact hkg
      · refine (hoth k hk e).ot hot hk e (hf k hk) ⟨f3 _ (by omega) (by omega), f3 _ (by omega) (by omega)⟩ (fun y hy => ?_) (fun y hy hyt => ⟨by rw [f3p _ (by omega), a5], by rw [f3p _ (by omega), a6]⟩)
        rw [a4]
        exact ⟨fun q => q.1, fun q => ⟨q, hy⟩⟩
    · rw [f3 _ (by omega) (by omega)]
      exact VM_vs (Or.inr (by omega)) hvm
  have hp1 : Ipr (vs (vga V t) (3926 + t) st).1 := hp.ww hot.1
  have hf1 : VFR (vs (vga V t) (3926 + t) st) := fun k hk i hi => by
    show ((vga V t).2.2.2 k i).1 < 10
    rw [vga_2]
    refine hf k hk i ?_
    have hi : i < (vga V t).2.2.1 k := hi
    rw [vga_2] at hi
    by_cases e : k = t
    · subst e
      have : i < 0 := by simpa [mj_upd_self] using hi
      omega
    · have hi : i < mj_upd V.2.2.1 t 0 k := hi
      rw [mj_upd_ne e] at hi
      exact hi
  obtain ⟨s4, c1, c2, c3, c4⟩ := c_addn h0 hx hp1 hf1 ht (k := k) (by omega) (v := 1)
  have hto3 : TO b t s s3 := ⟨fun k hk hne => ⟨f3 _ (by omega) (by omega), f3 _ (by omega) (by omega)⟩, fun c hc => f3 c (by omega) (by omega)⟩
  obtain ⟨r, s5, w1, w2⟩ := c_write (b := b) (s := s4) (i1 := if st = 3 then 9 else 8) (i2 := s4 (b + 17 + 2 * t) 0) (i3 := -1) (i4 := -1)
  have hp2 : Ipr (vcn (vs (vga V t) (3926 + t) st) k 1).1 := Ipr.vs1 hp1 (by omega)
  refine ⟨s5, zs1, fr1, ?_, (c2.lf hx w2).v hx hp2 hf1 (by omega), (hto3.trans c3).trans (TO.lf w2)⟩
  unfold gX2_end
  rw [a1, cl_some, d1, cl_some, wr_eq, hs3]
  unfold gX2_end_32 gX2_end_55
  rcases hst with ⟨rfl, rfl⟩ | ⟨rfl, rfl⟩
  · have c1 : gX9_add b (b + 17 + 2 * t) s3 0 1 = some ((), s4) := c1
    rw [if_pos rfl] at w1
    rw [if_neg (by decide), c1, cl_some, if_neg (by decide), w1, cl_some]
  · have c1 : gX9_add b (b + 17 + 2 * t) s3 1 1 = some ((), s4) := c1
    rw [if_neg (by decide)] at w1
    rw [if_pos (by decide), c1, cl_some, if_pos (by decide), w1, cl_some]
/-- out -/
theorem c_out (h : RC b lim s V zs fr) (hx : CX b lim) (hj : VJ lim V) (ht : t < 6) (hn : V.1 (4066 + t) = nI np) (hnp : np ≤ 256) (hit : Itp V.2.1 t np) (hst : V.1 (3926 + t) ≠ 0) (hsd : V.1 (3989 + t) = -1 ∨ ∃ k, k < 3 ∧ V.1 (3989 + t) = nI k ∧ V.1 (3923 + k) = nI t) : ∃ s' zs' fr', gX2_end b (b + 17 + 2 * t) s 4 = some ((), s') ∧ RC b lim s' (vot V t) zs' fr' ∧ TO b t s s' := by
  have hsd' : V.1 (3989 + t) = -1 ∨ ∃ k, k < 3 ∧ V.1 (3989 + t) = nI k := by
    rcases hsd with e | ⟨k, e1, e2, -⟩
    · exact Or.inl e
    · exact Or.inr ⟨k, e1, e2⟩
  exact c_end (V := V) (st := 4) (k := 1) (Or.inr ⟨rfl, rfl⟩) hx ht hj.1 hj.vfr h.2.1 h.1 hj.2.1 hj.2.2.1 hit hnp (h.ch ht hn) rfl h.2.2.1 (fun k hk _ => h.2.2.2.1 k hk) (h.2.2.2.1 t ht).1 ((h.2.2.2.1 t ht).2.2.2.2.1 hst) (VM.ga hj ht h.2.2.2.2.1 hsd') h.2.2.2.2.2 hsd
end
