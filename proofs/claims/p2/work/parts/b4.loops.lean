/-! ===== the class: all old pieces of a task go, the new one (number 5000) stays ===== -/
section
variable {b lim : Nat} {s s' : wt_S} {V V' : vV} {zs zs' : List (vP × Nat)} {fr fr' : List Nat} {t np z need g words : Nat}
/-- the pieces from a number on have gone -/
def vPe5 (t m : Nat) (q : vP) : Bool := decide (¬ (q.2.2.1 = t ∧ m ≤ q.2.2.2 ∧ q.2.2.2 ≠ 1000 ∧ q.2.2.2 ≠ 5000))
theorem c_rel5_loop {ps : List vP} (hx : CX b lim) (hm : zs.map Prod.fst = ps) (ho : vo lim ps) (hu : ps.Pairwise (fun p q => ¬ (p.2.2.1 = q.2.2.1 ∧ p.2.2.2 = q.2.2.2))) (hit : (∀ k, k < np → ∃ q ∈ ps, q.2.2.1 = t ∧ q.2.2.2 = k) ∧ ∀ q ∈ ps, q.2.2.1 = t → q.2.2.2 < np ∨ q.2.2.2 = 1000 ∨ q.2.2.2 = 5000) (hnp : np ≤ 256) (hch : Ch b s zs t np) : ∀ (m i fu : Nat) (s1 : wt_S) (zs1 : List (vP × Nat)) (fr1 : List Nat) (p : Int32), m ≤ np → i + m ≤ 256 → m < fu → PC b lim s1 zs1 fr1 → zs1.map Prod.fst = ps.filter (vPe5 t m) → (∀ y, y ∈ zs1 ↔ y ∈ zs ∧ vPe5 t m y.1 = true) → PF b s s1 → s1 (b + 5) = s (b + 5) → s1 (b + 6) = s (b + 6) → (m = 0 → p = -1) → (∀ z ∈ zs, z.1.2.2.1 = t → z.1.2.2.2 + 1 = m → p = nI z.2) →
    ∃ s2 zs2 fr2, gX9_releasePieces_7 b (b + 17 + 2 * t) fu s1 p (nI i) = gX9_releasePieces_42 b (b + 17 + 2 * t) s2 ∧ PC b lim s2 zs2 fr2 ∧ zs2.map Prod.fst = ps.filter (vPe5 t 0) ∧ (∀ y, y ∈ zs2 ↔ y ∈ zs ∧ vPe5 t 0 y.1 = true) ∧ PF b s s2 ∧ s2 (b + 5) = s (b + 5) ∧ s2 (b + 6) = s (b + 6) := by
  have hb := hx.b
  intro m
  induction m with
  | zero =>
    intro i fu s1 zs1 fr1 p _ him hf h1 h2 h3 h4 h5 h6 h7 _
    obtain ⟨fu, rfl⟩ : ∃ k, fu = k + 1 := ⟨fu - 1, by omega⟩
    refine ⟨s1, zs1, fr1, ?_, h1, h2, h3, h4, h5, h6⟩
    rw [gX9_releasePieces_7, h7 rfl]
    by_cases c : (256 : Int32).toInt ≤ (nI i).toInt
    · rw [if_pos c]
    · rw [if_neg c, if_pos rfl]
  | succ m ih =>
    intro i fu s1 zs1 fr1 p hmn him hf h1 h2 h3 h4 h5 h6 _ h8
    obtain ⟨fu, rfl⟩ : ∃ k, fu = k + 1 := ⟨fu - 1, by omega⟩
    have hu1 : (zs1.map Prod.fst).Pairwise (fun p q => ¬ (p.2.2.1 = q.2.2.1 ∧ p.2.2.2 = q.2.2.2)) := by rw [h2]; exact hu.sublist List.filter_sublist
    have ho1 : vo lim (zs1.map Prod.fst) := by rw [h2]; exact vo_sub ho List.filter_sublist
    obtain ⟨q, q1, q2, q3⟩ := hit.1 m (by omega)
    obtain ⟨z0, z0m, z0q⟩ : ∃ z ∈ zs, z.1 = q := by rw [← hm] at q1; obtain ⟨z, hz, e⟩ := List.mem_map.mp q1; exact ⟨z, hz, e⟩
    have z0t : z0.1.2.2.1 = t := by rw [z0q]; exact q2
    have z0n : z0.1.2.2.2 = m := by rw [z0q]; exact q3
    have z0m1 : z0 ∈ zs1 := (h3 z0).mpr ⟨z0m, by unfold vPe5; rw [decide_eq_true_eq]; omega⟩
    obtain ⟨x, z, x1, x2, x3, x4, -, -, x5, x6⟩ := zfind (t := t) (n := m) (rfl : zs1.map Prod.fst = _) hu1 ⟨z0.1, List.mem_map.mpr ⟨z0, z0m1, rfl⟩, z0t, z0n⟩
    have hzz : z = z0 := zuniq (rfl : zs1.map Prod.fst = _) hu1 x2 z0m1 (x3.trans z0t.symm) (x4.trans z0n.symm)
    subst hzz
    have hid := (h1.mem x2).1
    have hp := h8 z z0m x3 (by omega)
    obtain ⟨s2, g1, g2, g3, g4, g5, g6⟩ := c_give h1 ho1 hx.2.2 x1
    have hc := hch.2.2 z z0m x3
    have hfil : (zs1.eraseIdx x).map Prod.fst = ps.filter (vPe5 t m) := by
      rw [x5, h2, List.filter_filter]
      refine List.filter_congr (fun q _ => ?_)
      unfold vPe5 vkey
      rw [Bool.eq_iff_iff, Bool.and_eq_true, Bool.not_eq_true', decide_eq_false_iff_not, decide_eq_true_eq, decide_eq_true_eq]
      omega
    have hmem : ∀ y, y ∈ zs1.eraseIdx x ↔ y ∈ zs ∧ vPe5 t m y.1 = true := fun y => by
      rw [x6, h3]
      unfold vPe5
      rw [decide_eq_true_eq, decide_eq_true_eq]
      constructor
      · rintro ⟨⟨a1, a2⟩, a3⟩; exact ⟨a1, by omega⟩
      · rintro ⟨a1, a2⟩; exact ⟨⟨a1, by omega⟩, by omega⟩
    have e6 : s2 (b + 6) = s (b + 6) := by rw [g4, h6]
    rw [gX9_releasePieces_7, hp, if_neg (c_hi (by omega)), if_neg (nI_m1 (by omega)), g1, cl_some, c_belowOf hid, cl_some, e6, show nI i + 1 = nI (i + 1) from nI_add i 1]
    refine ih (i + 1) fu s2 (zs1.eraseIdx x) (z.2 :: fr1) (s (b + 6) z.2) (by omega) (by omega) (by omega) g2 hfil hmem (h4.trans g6) (by rw [g3, h5]) e6 (fun e => hc.1 (by omega)) (fun y hy hyt hyn => hc.2 y hy hyt (by omega))
theorem c_rel5 {ps : List vP} (hx : CX b lim) (ht : t < 6) (hP : PC b lim s zs fr) (hm : zs.map Prod.fst = ps) (ho : vo lim ps) (hu : ps.Pairwise (fun p q => ¬ (p.2.2.1 = q.2.2.1 ∧ p.2.2.2 = q.2.2.2))) (hit : (∀ k, k < np → ∃ q ∈ ps, q.2.2.1 = t ∧ q.2.2.2 = k) ∧ ∀ q ∈ ps, q.2.2.1 = t → q.2.2.2 < np ∨ q.2.2.2 = 1000 ∨ q.2.2.2 = 5000) (hnp : np ≤ 256) (hch : Ch b s zs t np) : ∃ s' zs' fr', gX9_releasePieces b (b + 17 + 2 * t) s = some ((), s') ∧ PC b lim s' zs' fr' ∧ zs'.map Prod.fst = ps.filter (fun q => decide (q.2.2.1 ≠ t ∨ q.2.2.2 = 5000)) ∧ (∀ y, y ∈ zs' ↔ y ∈ zs ∧ (y.1.2.2.1 ≠ t ∨ y.1.2.2.2 = 5000)) ∧ s' (b + 5) = s (b + 5) ∧ s' (b + 6) = s (b + 6) ∧ (∀ c, ¬ (b + 2 ≤ c ∧ c ≤ b + 9) → c ≠ b + 17 + 2 * t → s' c = s c) ∧ s' (b + 17 + 2 * t) = mj_upd (s (b + 17 + 2 * t)) 13 (-1) := by
  have hb := hx.b
  have hall : ∀ y ∈ zs, vPe5 t np y.1 = true := fun y hy => by
    unfold vPe5
    rw [decide_eq_true_eq]
    intro c
    have := hit.2 y.1 (by rw [← hm]; exact List.mem_map.mpr ⟨y, hy, rfl⟩) c.1
    omega
  have hfil : zs.map Prod.fst = ps.filter (vPe5 t np) := by
    rw [← hm, List.filter_eq_self.mpr (fun q hq => ?_)]
    obtain ⟨y, hy, rfl⟩ := List.mem_map.mp hq
    exact hall y hy
  obtain ⟨s2, zs2, fr2, a1, a2, a3, a4, a5, a6, a7⟩ := c_rel5_loop hx hm ho hu hit hnp hch np 0 wt_N s zs fr (s (b + 17 + 2 * t) 12) (Nat.le_refl _) (by omega) (by unfold wt_N; omega) hP hfil (fun y => ⟨fun q => ⟨q, hall y q⟩, fun q => q.1⟩) PF.refl rfl rfl hch.1.1 hch.1.2
  unfold gX9_releasePieces
  rw [show (0 : Int32) = nI 0 from rfl, a1]
  unfold gX9_releasePieces_42
  have hT2 : s2 (b + 17 + 2 * t) = s (b + 17 + 2 * t) := a5 _ (by omega)
  rw [hT2]
  have ho2 : vo lim (zs2.map Prod.fst) := by rw [a3]; exact vo_sub ho List.filter_sublist
  by_cases c : ∃ z ∈ zs, z.1.2.2.1 = t ∧ z.1.2.2.2 = 1000
  · obtain ⟨z0, z0m, z0t, z0n⟩ := c
    have hu2 : (zs2.map Prod.fst).Pairwise (fun p q => ¬ (p.2.2.1 = q.2.2.1 ∧ p.2.2.2 = q.2.2.2)) := by rw [a3]; exact hu.sublist List.filter_sublist
    have z02 : z0 ∈ zs2 := (a4 z0).mpr ⟨z0m, by unfold vPe5; rw [decide_eq_true_eq]; omega⟩
    obtain ⟨x, z, x1, x2, x3, x4, -, -, x5, x6⟩ := zfind (t := t) (n := 1000) (rfl : zs2.map Prod.fst = _) hu2 ⟨z0.1, List.mem_map.mpr ⟨z0, z02, rfl⟩, z0t, z0n⟩
    have hzz : z = z0 := zuniq (rfl : zs2.map Prod.fst = _) hu2 x2 z02 (x3.trans z0t.symm) (x4.trans z0n.symm)
    subst hzz
    obtain ⟨s3, g1, g2, g3, g4, g5, g6⟩ := c_give a2 ho2 hx.2.2 x1
    rw [hch.2.1.1 z z0m x3 x4, g1, cl_some, wr_eq]
    refine ⟨_, zs2.eraseIdx x, z.2 :: fr2, rfl, g2.eq (fun c hc => wt_u_ne (by omega)), ?_, fun y => ?_, by rw [wt_u_ne (by omega), g3, a6], by rw [wt_u_ne (by omega), g4, a7], fun c h1 h2 => by rw [wt_u_ne h2, g6 c h1, a5 c h1], by rw [wt_u_at, g6 _ (by omega), hT2]⟩
    · rw [x5, a3, List.filter_filter]
      refine List.filter_congr (fun q hq => ?_)
      unfold vPe5 vkey
      rw [Bool.eq_iff_iff, Bool.and_eq_true, Bool.not_eq_true', decide_eq_false_iff_not, decide_eq_true_eq, decide_eq_true_eq]
      omega
    · rw [x6, a4]
      unfold vPe5
      rw [decide_eq_true_eq]
      constructor
      · rintro ⟨⟨b1, b2⟩, b3⟩; exact ⟨b1, by omega⟩
      · rintro ⟨b1, b2⟩; exact ⟨⟨b1, by omega⟩, by omega⟩
  · have hno : ∀ z ∈ zs, ¬ (z.1.2.2.1 = t ∧ z.1.2.2.2 = 1000) := fun z hz hq => c ⟨z, hz, hq⟩
    rw [hch.2.1.2 hno, c_give_m a2 ho2 hx.2.2, cl_some, wr_eq]
    refine ⟨_, zs2, fr2, rfl, a2.eq (fun c hc => wt_u_ne (by omega)), ?_, fun y => ?_, by rw [wt_u_ne (by omega), a6], by rw [wt_u_ne (by omega), a7], fun c h1 h2 => by rw [wt_u_ne h2, a5 c h1], by rw [wt_u_at, hT2]⟩
    · rw [a3]
      refine List.filter_congr (fun q hq => ?_)
      rw [← hm] at hq
      obtain ⟨y, hy, rfl⟩ := List.mem_map.mp hq
      have := hno y hy
      unfold vPe5
      rw [Bool.eq_iff_iff, decide_eq_true_eq, decide_eq_true_eq]
      omega
    · rw [a4]
      unfold vPe5
      rw [decide_eq_true_eq]
      constructor
      · rintro ⟨b1, b2⟩
        have := hno y b1
        exact ⟨b1, by omega⟩
      · rintro ⟨b1, b2⟩; exact ⟨b1, by omega⟩

/-- where they are to come -/
theorem c_aim_loop {ps : List vP} {U : Nat → Nat} {l2 : Int32} (hP : PC b lim s zs fr) (hm : zs.map Prod.fst = ps) (hu : ps.Pairwise (fun p q => ¬ (p.2.2.1 = q.2.2.1 ∧ p.2.2.2 = q.2.2.2))) (hit : ∀ k, k < np → ∃ q ∈ ps, q.2.2.1 = t ∧ q.2.2.2 = k) (hnp : np ≤ 256) (hch : Ch b s zs t np) (hU : ∀ y ∈ zs, y.1.2.2.1 = t → y.1.2.2.2 < np → s (b + 5) y.2 = nI (U y.1.2.2.2)) : ∀ (m i fu : Nat) (s1 : wt_S) (p : Int32), m ≤ np → i + m ≤ 256 → m < fu → (∀ c, c ≠ b + 9 → s1 c = s c) → (∀ y ∈ zs, y.1.2.2.1 = t → m ≤ y.1.2.2.2 → y.1.2.2.2 < np → s1 (b + 9) y.2 = nI (g + vsum U y.1.2.2.2) - nI y.1.1) → (m = 0 → p = -1) → (∀ y ∈ zs, y.1.2.2.1 = t → y.1.2.2.2 + 1 = m → p = nI y.2) →
    ∃ s2, gX4_joinPieces_60 b (b + 17 + 2 * t) fu s1 l2 (nI (g + vsum U m)) p (nI i) = gX4_joinPieces_113 b (b + 17 + 2 * t) s2 l2 ∧ (∀ c, c ≠ b + 9 → s2 c = s c) ∧ ∀ y ∈ zs, y.1.2.2.1 = t → y.1.2.2.2 < np → s2 (b + 9) y.2 = nI (g + vsum U y.1.2.2.2) - nI y.1.1 := by
  intro m
  induction m with
  | zero =>
    intro i fu s1 p _ him hf h1 h2 h7 _
    obtain ⟨fu, rfl⟩ : ∃ k, fu = k + 1 := ⟨fu - 1, by omega⟩
    refine ⟨s1, ?_, h1, fun y hy hyt hyn => h2 y hy hyt (Nat.zero_le _) hyn⟩
    rw [gX4_joinPieces_60, h7 rfl]
    by_cases c : (256 : Int32).toInt ≤ (nI i).toInt
    · rw [if_pos c]
    · rw [if_neg c, if_pos rfl]
  | succ m ih =>
    intro i fu s1 p hmn him hf h1 h2 _ h8
    obtain ⟨fu, rfl⟩ : ∃ k, fu = k + 1 := ⟨fu - 1, by omega⟩
    obtain ⟨-, y, -, y2, y3, y4, -⟩ := zfind (t := t) (n := m) hm hu (hit m (by omega))
    have hid := (hP.mem y2).1
    have hpl := (hP.mem y2).2.1
    have hp := h8 y y2 y3 (by omega)
    have hc := hch.2.2 y y2 y3
    have e5 : s1 (b + 5) y.2 = nI (U m) := by rw [h1 _ (by omega), hU y y2 y3 (by omega), y4]
    have e3 : s1 (b + 3) y.2 = nI y.1.1 := by rw [h1 _ (by omega)]; exact hpl
    have hsub : nI (g + vsum U (m + 1)) - nI (U m) = nI (g + vsum U m) := by
      rw [nI_sub (by rw [vsum]; omega), show g + vsum U (m + 1) - U m = g + vsum U m by rw [vsum]; omega]
    rw [gX4_joinPieces_60, hp, if_neg (c_hi (by omega)), if_neg (nI_m1 (by omega)), c_usedOf hid, cl_some, e5, hsub, c_aimAt hid, cl_some, e3, c_belowOf hid, cl_some, wt_u_ne (show b + 6 ≠ b + 9 by omega), h1 (b + 6) (by omega), show nI i + 1 = nI (i + 1) from nI_add i 1]
    refine ih (i + 1) fu (wt_u s1 (b + 9) y.2 (nI (g + vsum U m) - nI y.1.1)) (s (b + 6) y.2) (by omega) (by omega) (by omega) (fun c hc => by rw [wt_u_ne hc]; exact h1 c hc) (fun x hx hxt hxm hxn => ?_) (fun e => hc.1 (by omega)) (fun x hx hxt hxn => hc.2 x hx hxt (by omega))
    by_cases e : x.1.2.2.2 = m
    · have hxy : x = y := zuniq hm hu hx y2 (hxt.trans y3.symm) (e.trans y4.symm)
      subst hxy
      rw [wt_u_self, e]
    · rw [wt_u_nk (fun q => e (by rw [hP.inj hx y2 q]; exact y4))]
      exact h2 x hx hxt (by omega) hxn
/-- they come over, one by one -/
theorem c_over_loop {ps : List vP} {U : Nat → Nat} {l2 : Int32} (hx : CX b lim) (hP : PC b lim s zs fr) (hm : zs.map Prod.fst = ps) (hu : ps.Pairwise (fun p q => ¬ (p.2.2.1 = q.2.2.1 ∧ p.2.2.2 = q.2.2.2))) (hit : ∀ k, k < np → ∃ q ∈ ps, q.2.2.1 = t ∧ q.2.2.2 = k) (hnp : np ≤ 256) (hch : Ch b s zs t np) (hU : ∀ y ∈ zs, y.1.2.2.1 = t → y.1.2.2.2 < np → s (b + 5) y.2 = nI (U y.1.2.2.2)) (hS : ∀ y ∈ zs, y.1.2.2.1 = t → y.1.2.2.2 < np → s (b + 9) y.2 = nI (g + vsum U y.1.2.2.2) - nI y.1.1)
    (hd : ∀ y ∈ zs, y.1.2.2.1 = t → y.1.2.2.2 < np → y.1.1 + U y.1.2.2.2 ≤ lim ∧ (g + vsum U np ≤ y.1.1 ∨ y.1.1 + U y.1.2.2.2 ≤ g)) (hg : g + vsum U np ≤ lim) : ∀ (m i fu : Nat) (s1 : wt_S) (p : Int32), m ≤ np → i + m ≤ 256 → m < fu → (∀ c, c ≠ b + 15 → s1 c = s c) → (∀ x, x < g ∨ g + vsum U np ≤ x → s1 (b + 15) x = s (b + 15) x) → (∀ y ∈ zs, y.1.2.2.1 = t → m ≤ y.1.2.2.2 → y.1.2.2.2 < np → ∀ j, j < U y.1.2.2.2 → s1 (b + 15) (g + vsum U y.1.2.2.2 + j) = s (b + 15) (y.1.1 + j)) → (m = 0 → p = -1) → (∀ y ∈ zs, y.1.2.2.1 = t → y.1.2.2.2 + 1 = m → p = nI y.2) →
    ∃ s2, gX4_joinPieces_127 b (b + 17 + 2 * t) fu s1 l2 p (nI i) = gX4_joinPieces_164 b (b + 17 + 2 * t) s2 l2 ∧ (∀ c, c ≠ b + 15 → s2 c = s c) ∧ (∀ x, x < g ∨ g + vsum U np ≤ x → s2 (b + 15) x = s (b + 15) x) ∧ ∀ y ∈ zs, y.1.2.2.1 = t → y.1.2.2.2 < np → ∀ j, j < U y.1.2.2.2 → s2 (b + 15) (g + vsum U y.1.2.2.2 + j) = s (b + 15) (y.1.1 + j) := by
  have hxm := hx.m
  intro m
  induction m with
  | zero =>
    intro i fu s1 p _ him hf h1 h2 h3 h7 _
    obtain ⟨fu, rfl⟩ : ∃ k, fu = k + 1 := ⟨fu - 1, by omega⟩
    refine ⟨s1, ?_, h1, h2, fun y hy hyt hyn => h3 y hy hyt (Nat.zero_le _) hyn⟩
    rw [gX4_joinPieces_127, h7 rfl]
    by_cases c : (256 : Int32).toInt ≤ (nI i).toInt
    · rw [if_pos c]
    · rw [if_neg c, if_pos rfl]
  | succ m ih =>
    intro i fu s1 p hmn him hf h1 h2 h3 _ h8
    obtain ⟨fu, rfl⟩ : ∃ k, fu = k + 1 := ⟨fu - 1, by omega⟩
    obtain ⟨-, y, -, y2, y3, y4, -⟩ := zfind (t := t) (n := m) hm hu (hit m (by omega))
    have hid := (hP.mem y2).1
    have hpl := (hP.mem y2).2.1
    have hp := h8 y y2 y3 (by omega)
    have hc := hch.2.2 y y2 y3
    have e5 : s1 (b + 5) y.2 = nI (U m) := by rw [h1 _ (by omega), hU y y2 y3 (by omega), y4]
    have e3 : s1 (b + 3) y.2 = nI y.1.1 := by rw [h1 _ (by omega)]; exact hpl
    have e9 : s1 (b + 9) y.2 = nI (g + vsum U m) - nI y.1.1 := by rw [h1 _ (by omega), hS y y2 y3 (by omega), y4]
    obtain ⟨d1, d2⟩ := hd y y2 y3 (by omega)
    rw [y4] at d1 d2
    have hmo : vsum U (m + 1) ≤ vsum U np := vsum_mono (by omega)
    have hv1 : vsum U (m + 1) = vsum U m + U m := rfl
    obtain ⟨s4, b1, b2, b3, b4⟩ := c_bring (s := s1) (b := b) (from' := y.1.1) (to := g + vsum U m) (u := U m) hx (by omega) (by omega)
    have hbr : gX4_bringOver b s1 (nI y.2) = some ((), s4) := by
      unfold gX4_bringOver
      rw [c_placeOf hid, cl_some, c_shiftOf hid, cl_some, c_usedOf hid, cl_some, e3, e9, e5, nI_turn (Nat.le_refl _), Nat.sub_self, Nat.add_zero, b1, cl_some]
    rw [gX4_joinPieces_127, hp, if_neg (c_hi (by omega)), if_neg (nI_m1 (by omega)), hbr, cl_some, c_belowOf hid, cl_some, b2 _ (by omega), h1 (b + 6) (by omega), show nI i + 1 = nI (i + 1) from nI_add i 1]
    refine ih (i + 1) fu s4 (s (b + 6) y.2) (by omega) (by omega) (by omega) (fun c hc => by rw [b2 c hc]; exact h1 c hc) (fun x hx => by rw [b4 x (by omega)]; exact h2 x hx) (fun x hx hxt hxm hxn j hj => ?_) (fun e => hc.1 (by omega)) (fun x hx hxt hxn => hc.2 x hx hxt (by omega))
    by_cases e : x.1.2.2.2 = m
    · have hxy : x = y := zuniq hm hu hx y2 (hxt.trans y3.symm) (e.trans y4.symm)
      subst hxy
      rw [e] at hj ⊢
      rw [b3 j hj, h2 _ (by omega)]
    · have hmo2 : vsum U (m + 1) ≤ vsum U x.1.2.2.2 := vsum_mono (by omega)
      rw [b4 _ (by omega)]
      exact h3 x hx hxt (by omega) hxn j hj
end
