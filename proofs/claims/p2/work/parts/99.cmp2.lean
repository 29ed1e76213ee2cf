/-! ===== COMPACT: what is behind it ===== -/
def vcp1 (V : vV) : vV := vps V (vpk 0 V.2.1)
def vcm (V : vV) : vV := ((fun i => if i = 2067 then V.1 2067 + nI (vcc 0 V.2.1) else if 3982 ≤ i ∧ i < 3988 ∧ vby V (i - 3982) = true then nI (vpl (vcp1 V) (i - 3982) (V.2.2.1 (i - 3982) - 1)) else V.1 i), vpk 0 V.2.1, V.2.2)
section
variable {s : wt_S} {V : vV} {t B : Nat}
theorem vcm_ne {i : Nat} (h1 : i ≠ 2067) (h2 : i < 3982 ∨ 3988 ≤ i) : (vcm V).1 i = V.1 i := by
  show (if i = 2067 then _ else if 3982 ≤ i ∧ i < 3988 ∧ vby V (i - 3982) = true then _ else V.1 i) = _
  rw [if_neg h1, if_neg (by omega)]
theorem vcm_at (ht : t < 6) (hb : vby V t = true) : (vcm V).1 (3982 + t) = nI (vpl (vcp1 V) t (V.2.2.1 t - 1)) := by
  have e : 3982 + t - 3982 = t := by omega
  show (if 3982 + t = 2067 then _ else if 3982 ≤ 3982 + t ∧ 3982 + t < 3988 ∧ vby V (3982 + t - 3982) = true then nI (vpl (vcp1 V) (3982 + t - 3982) (V.2.2.1 (3982 + t - 3982) - 1)) else V.1 (3982 + t)) = _
  rw [e, if_neg (by omega), if_pos ⟨by omega, by omega, hb⟩]
theorem vcm_at0 (ht : t < 6) (hb : vby V t = false) : (vcm V).1 (3982 + t) = V.1 (3982 + t) := by
  have e : 3982 + t - 3982 = t := by omega
  show (if 3982 + t = 2067 then _ else if 3982 ≤ 3982 + t ∧ 3982 + t < 3988 ∧ vby V (3982 + t - 3982) = true then nI (vpl (vcp1 V) (3982 + t - 3982) (V.2.2.1 (3982 + t - 3982) - 1)) else V.1 (3982 + t)) = _
  rw [e, if_neg (by omega), if_neg (fun q => by rw [hb] at q; cases q.2.2)]
theorem cm_itp {ps : List vP} {np : Nat} (h : Itp ps t np) : Itp (vpk 0 ps) t np := by
  refine ⟨fun k hk => ?_, fun p hp e => ?_⟩
  · obtain ⟨q, q1, q2, q3⟩ := h.1 k hk
    obtain ⟨p, p1, p2⟩ := vpk_mem2 (a := 0) q1
    exact ⟨p, p1, by rw [p2]; exact q2, by rw [p2]; exact q3⟩
  · obtain ⟨q, q1, q2⟩ := vpk_mem hp
    rw [q2] at e ⊢
    exact h.2 q q1 e
theorem cm_J (hj : VJ 2048 V) : VJ 2048 (vcp1 V) := by
  refine ⟨hj.1, (vpk_vo hj.2.1 (fun _ _ => Nat.zero_le _)).1, vpk_pw (R := fun p q => ¬ (p.2.1 = q.2.1 ∧ p.2.2 = q.2.2)) hj.2.2.1, fun t ht h0 => ?_⟩
  obtain ⟨np, a1, a2, a3⟩ := hj.geo ht h0
  exact ⟨np, cm_itp a1, a2.ps (fun i hi => ⟨(a2.1 i hi).1, vpk_ln⟩), a3.ps (fun i hi => vpk_ln)⟩
theorem cm_pm (hj : VJ 2048 V) (ht : t < 6) {i : Nat} (hi : i < V.2.2.1 t) : PM (vpt2 0 V.2.1) (vpl V t i) (vpl (vcp1 V) t i) (vwd V.1 (V.2.2.2 t i).1) := by
  obtain ⟨np, a1, a2, a3⟩ := hj.geo ht (by omega)
  obtain ⟨h1, h2⟩ := a2.1 i hi
  obtain ⟨q, q1, q2, q3, q4, q5, q6⟩ := vget (a1.1 _ h1)
  obtain ⟨b, b1, b2⟩ := (vpk_find (a := 0)).2 q q6
  have hv : vat (vpk 0 V.2.1) t (V.2.2.2 t i).2.1 = b := by unfold vat; rw [b1]
  refine ⟨_, b2, ?_, ?_, ?_⟩
  · show q.1 ≤ vpl V t i
    unfold vpl; omega
  · show vpl V t i + _ ≤ q.1 + q.2.1
    unfold vpl; omega
  · show vat (vpk 0 V.2.1) t (V.2.2.2 t i).2.1 + (V.2.2.2 t i).2.2.1 = b + (vpl V t i - q.1)
    rw [hv]
    unfold vpl
    omega
/-- the second loop: the busy tasks are turned, one behind the other -/
theorem q_cmp_128 {l1 : Int32} {s0 : wt_S} {w0 : Nat → Int32} (hI : VI 2048 B V) (hT : PT s0 (vpt2 0 V.2.1)) (hw0 : ∀ i, vtr i → i ≠ 2067 → w0 i = V.1 i) : ∀ (m k fu : Nat) (w : Nat → Int32), k + m = 6 → m < fu → (∀ x, 2048 ≤ x → (x < 3982 ∨ 3988 ≤ x) → w x = w0 x) → (∀ t, t < 6 → w (3982 + t) = if t < k ∧ vby V t = true then nI (vpl (vcp1 V) t (V.2.2.1 t - 1)) else V.1 (3982 + t)) → (∀ t, t < 6 → vMQ w V.1 (V.2.2.1 t) (V.2.2.2 t) (vpl (vcp1 V) t) (if t < k then vpl (vcp1 V) t else vpl V t)) →
    ∃ w', gX11_compact_128 fu (wt_uf s0 111 w) l1 (nI k) = some (l1, wt_uf s0 111 w') ∧ (∀ x, 2048 ≤ x → (x < 3982 ∨ 3988 ≤ x) → w' x = w0 x) ∧ (∀ t, t < 6 → w' (3982 + t) = if vby V t = true then nI (vpl (vcp1 V) t (V.2.2.1 t - 1)) else V.1 (3982 + t)) ∧ ∀ t, t < 6 → vMQ w' V.1 (V.2.2.1 t) (V.2.2.2 t) (vpl (vcp1 V) t) (vpl (vcp1 V) t) := by
  have hj := hI.J
  have hj2 := cm_J hj
  intro m
  induction m with
  | zero =>
    intro k fu w hk hfu g1 g2 g3
    obtain ⟨fu, rfl⟩ : ∃ m, fu = m + 1 := ⟨fu - 1, by omega⟩
    rw [gX11_compact_128, nI_int (by omega), if_pos (by show (6 : Int) ≤ _; omega)]
    refine ⟨w, rfl, g1, fun t ht => ?_, fun t ht => ?_⟩
    · rw [g2 t ht]
      by_cases c : vby V t = true
      · rw [if_pos ⟨by omega, c⟩, if_pos c]
      · rw [if_neg (fun e => c e.2), if_neg c]
    · have := g3 t ht
      rw [if_pos (by omega)] at this
      exact this
  | succ m ih =>
    intro k fu w hk hfu g1 g2 g3
    obtain ⟨fu, rfl⟩ : ∃ m, fu = m + 1 := ⟨fu - 1, by omega⟩
    have hk6 : k < 6 := by omega
    have hN := hI.n hk6
    have hwv : ∀ i, vtr i → i ≠ 2067 → (i < 3982 ∨ 3988 ≤ i) → w i = V.1 i := fun i h1 h2 h3 => by rw [g1 i (vtr_out h1).2 h3]; exact hw0 i h1 h2
    have hbz : gX11_isBusy (wt_uf s0 111 w) (nI k) = some (rb (vby V k = true), wt_uf s0 111 w) := by
      rw [q_isBusy (by omega), wt_uf_at, hwv _ (vtt (c := 3926) (by omega) hk6) (by omega) (by omega)]
      exact congrArg (fun x => some (x, wt_uf s0 111 w)) (rb_iff (by rw [vby_iff]; rfl))
    rw [gX11_compact_128, nI_int (by omega), if_neg (by show ¬ (6 : Int) ≤ _; omega), hbz, cl_some, if_rb, nI_1]
    by_cases c : vby V k = true
    · obtain ⟨np, z, z2, z3, kk, l, hP, h0, -⟩ := hI.opn hk6 (vby_iff.mp c) (by omega)
      obtain ⟨-, hc, -, -, -, -, -, -, -⟩ := hP
      obtain ⟨d1, d2, d3, d4, d5⟩ := hc.2.2.2.2.2.2.1 h0
      have hTH : TH V.1 (V.2.2.1 k) (V.2.2.2 k) (vpl (vcp1 V) k) (vpl V k) (vpl (vcp1 V) k) 2048 := by
        refine ⟨hj.1, fun i hi => ⟨(d3.1 i hi).1, (hj2.fit hk6 hi).2.2⟩, fun i j hi hjj hne => hj2.dj hk6 hk6 hi hjj (fun e => hne e.2), fun i hi k' hk' hb q hq => ?_, fun i hi => ?_, fun i hi => (hj.fit hk6 hi).2.2⟩
        · obtain ⟨a1, a2, -⟩ := d3.2.2.2.2.2 i hi k' hk' hb q hq
          exact ⟨a1, a2⟩
        · obtain ⟨b1, b2, -⟩ := d3.2.2.1 i hi
          exact ⟨b1, b2⟩
      have hcp := vpt2_cp (a := 0) hj.2.1 (fun _ _ => Nat.zero_le _)
      have hb3 := (vpk_vo (a := 0) hj.2.1 (fun _ _ => Nat.zero_le _)).2.2
      have hGO : GO (wt_uf s0 111 w) V.1 (V.2.2.1 k) (V.2.2.2 k) (vpl V k) (vpl (vcp1 V) k) := c_go hT.uf (fun q hq => by obtain ⟨a1, a2, a3, -⟩ := hb3 q hq; omega) hcp.2 (fun i hi => ⟨(hj.fit hk6 hi).2.2, cm_pm hj hk6 hi⟩)
      have hMQk := g3 k hk6
      rw [if_neg (by omega)] at hMQk
      have g2k := g2 k hk6
      rw [if_neg (fun e => by omega)] at g2k
      obtain ⟨w2, t1, t2, t3, t4, t5⟩ := q_turns (s := wt_uf s0 111 w) hTH hGO hk6 ⟨h0, by omega⟩ (by rw [wt_uf_at, hwv _ (vtt (c := 3954) (by omega) hk6) (by omega) (by omega)]; exact hc.1) (by rw [wt_uf_at, g2k]; exact d4) (by rw [wt_uf_at, hwv _ (vtt (c := 3975) (by omega) hk6) (by omega) (by omega)]; exact d5)
        (fun f hf => by rw [wt_uf_at, hwv _ (Or.inr (Or.inl (by omega))) (by omega) (by omega), hwv _ (Or.inr (Or.inl (by omega))) (by omega) (by omega)]; exact ⟨rfl, rfl⟩) (by rw [wt_uf_at]; exact hMQk)
      rw [wt_uf_at] at t4 t5
      rw [uf_uf] at t1
      rw [if_pos c, t1, cl_some]
      refine ih (k + 1) fu w2 (by omega) (by omega) (fun x h1 h2 => by rw [t4 x h1 (by omega)]; exact g1 x h1 h2) (fun t ht => ?_) (fun t ht => ?_)
      · by_cases e : t = k
        · subst e
          rw [if_pos ⟨by omega, c⟩]; exact t3
        · rw [t4 _ (by omega) (by omega), g2 t ht]
          by_cases c2 : t < k ∧ vby V t = true
          · rw [if_pos c2, if_pos ⟨by omega, c2.2⟩]
          · rw [if_neg c2, if_neg (fun q => c2 ⟨by omega, q.2⟩)]
      · by_cases e : t = k
        · subst e
          rw [if_pos (by omega)]; exact t2
        · have := g3 t ht
          have e2 : (if t < k + 1 then vpl (vcp1 V) t else vpl V t) = (if t < k then vpl (vcp1 V) t else vpl V t) := by
            by_cases c2 : t < k
            · rw [if_pos c2, if_pos (by omega)]
            · rw [if_neg c2, if_neg (by omega)]
          rw [e2]
          intro i hi
          obtain ⟨m1, m2, m3⟩ := this i hi
          have hfit := (hj2.fit ht hi).2.2
          have hz1 := (hj2.fit ht hi).2.1
          have hdj := fun j hjj => hj2.dj (t := t) (t' := k) (i := i) (j := j) ht hk6 hi hjj (fun q => e q.1)
          have hout : ∀ x, vpl (vcp1 V) t i ≤ x → x < vpl (vcp1 V) t i + vwd V.1 (V.2.2.2 t i).1 → w2 x = w x := fun x h1 h2 => t5 x (by have : vpl (vcp1 V) t i + vwd V.1 (V.2.2.2 t i).1 ≤ 2048 := hfit; omega) (fun j hjj => by
            have := hdj j hjj
            have this : vpl (vcp1 V) t i + vwd V.1 (V.2.2.2 t i).1 ≤ vpl (vcp1 V) k j ∨ vpl (vcp1 V) k j + vwd V.1 (V.2.2.2 k j).1 ≤ vpl (vcp1 V) t i := this
            omega)
          have hw2 : vwd V.1 (V.2.2.2 t i).1 = vsz V.1 (V.2.2.2 t i).1 + 2 := rfl
          refine ⟨?_, ?_, fun k' hk' => ?_⟩
          · rw [hout _ (Nat.le_refl _) (by omega)]; exact m1
          · rw [hout _ (by omega) (by omega)]; exact m2
          · rw [hout _ (by omega) (by omega)]; exact m3 k' hk'
    · rw [if_neg c]
      refine ih (k + 1) fu w (by omega) (by omega) g1 (fun t ht => ?_) (fun t ht => ?_)
      · rw [g2 t ht]
        by_cases c2 : t < k ∧ vby V t = true
        · rw [if_pos c2, if_pos ⟨by omega, c2.2⟩]
        · rw [if_neg c2, if_neg (fun q => by
            by_cases e : t = k
            · subst e; exact c q.2
            · exact c2 ⟨by omega, q.2⟩)]
      · have := g3 t ht
        by_cases e : t = k
        · subst e
          have h0 : V.2.2.1 t = 0 := (hI.idle hk6 (by simpa using c)).1
          intro i hi
          omega
        · have e2 : (if t < k + 1 then vpl (vcp1 V) t else vpl V t) = (if t < k then vpl (vcp1 V) t else vpl V t) := by
            by_cases c2 : t < k
            · rw [if_pos c2, if_pos (by omega)]
            · rw [if_neg c2, if_neg (by omega)]
          rw [e2]
          exact this
theorem q_compact (h : RS s V) (hI : VI 2048 B V) (hB : B < 2147482000) : ∃ s', gX11_compact s = some (nI (vcc 0 V.2.1), s') ∧ RS s' (vcm V) ∧ RF s s' := by
  have hj := hI.J
  have hj2 := cm_J hj
  obtain ⟨k, k1, k2⟩ := hI.2.2.2.2.1
  have hl := h.2.2.1.2.1
  have h67 : s 111 2067 = nI k := by rw [h.se (by omega)]; exact k2
  have e111 : (wt_u s 110 9 0) 111 = s 111 := wt_u_ne (by omega)
  obtain ⟨s2, fu', f1, f2, f3, f4, f5, f6⟩ := q_cmp_11 (V := V) hj.2.1 V.2.1 [] 0 wt_N 0 k (wt_u s 110 9 0) rfl (by unfold wt_N; omega) (fun _ _ => Nat.zero_le _) (by omega) (by rw [e111]; exact h67) (by omega) (by rw [e111]; exact h.2.2.1) rfl rfl PT.nil
  rw [e111] at f3
  have hcp := vpt2_cp (a := 0) hj.2.1 (fun _ _ => Nat.zero_le _)
  have hb3 := (vpk_vo (a := 0) hj.2.1 (fun _ _ => Nat.zero_le _)).2.2
  obtain ⟨w1, c1, c2, c3⟩ := q_carries f6 hcp.1
  have c3' : ∀ x, 2048 ≤ x → w1 x = s2 111 x := fun x hx => c3 x (fun q hq => by obtain ⟨a1, a2, a3, -⟩ := hb3 q hq; omega)
  have hwv : ∀ i, vtr i → i ≠ 2067 → w1 i = V.1 i := fun i h1 h2 => by
    have ho := vtr_out h1
    rw [c3' i ho.2, f3 i (by unfold vtr at h1; unfold vlg; omega) ho.1]
    exact h.2.at h1
  have hM : ∀ t, t < 6 → vMQ w1 V.1 (V.2.2.1 t) (V.2.2.2 t) (vpl (vcp1 V) t) (vpl V t) := fun t ht => c_mq (w := s2 111) c2 (fun i hi => by
    obtain ⟨a1, a2, a3⟩ := h.wd hj rfl ht hi
    have hfit := (hj.fit ht hi).2.2
    unfold vwd at hfit
    have e : ∀ x, x < 2048 → s2 111 x = s 111 x := fun x hx => f3 x (Or.inl (by omega)) (Or.inl (by omega))
    exact ⟨(hj.fit ht hi).1, by rw [e _ (by omega)]; exact a1, by rw [e _ (by omega)]; exact a2, fun k hk => by rw [e _ (by omega)]; exact a3 k hk⟩) (fun i hi => cm_pm hj ht hi)
  obtain ⟨w2, t1, t2, t3, t4⟩ := q_cmp_128 (l1 := nI (0 + vcc 0 V.2.1)) (s0 := s2) (w0 := w1) hI f6 hwv 6 0 wt_N w1 (by omega) (by unfold wt_N; omega) (fun _ _ _ => rfl) (fun t ht => by rw [if_neg (by omega)]; exact hwv _ (vtt (c := 3982) (by omega) ht) (by omega)) (fun t ht => by rw [if_neg (by omega)]; exact hM t ht)
  have hRR : RR w2 (vcm V) := by
    refine ⟨fun i hi => ?_, vr_P_eq (fun i h1 h2 => by rw [t2 i (by omega) (by omega), c3' i (by omega)]) f5, w2, fun _ _ => rfl, fun t ht => ?_⟩
    · have ho := vtr_out hi
      by_cases e1 : i = 2067
      · subst e1
        show _ = V.1 2067 + nI (vcc 0 V.2.1)
        rw [t2 _ (by omega) (by omega), c3' _ (by omega), f4, k2, nI_add]
      · by_cases e2 : i < 3982 ∨ 3988 ≤ i
        · rw [vcm_ne e1 e2, t2 i ho.2 e2]; exact hwv i hi e1
        · obtain ⟨t, ht, rfl⟩ : ∃ t, t < 6 ∧ i = 3982 + t := ⟨i - 3982, by omega, by omega⟩
          rw [t3 t ht]
          by_cases c : vby V t = true
          · rw [if_pos c, vcm_at ht c]
          · rw [if_neg c, vcm_at0 ht (by simpa using c)]
    · refine MR_w (w := V.1) (fun i h1 h2 => vcm_ne (by omega) (by omega)) ?_
      intro i hi
      obtain ⟨m1, m2, m3⟩ := t4 t ht i hi
      exact ⟨(hj.fit ht hi).1, m1, m2, m3⟩
  have hR2 : RF s s2 := (RF.uo (by omega) (by omega)).trans f2
  have h25 : s2 110 5 = 0 := hR2.2.2.2.2.trans h.1
  refine ⟨wt_uf s2 111 w2, ?_, ⟨by rw [wt_uf_ne (by omega)]; exact h25, by rw [wt_uf_at]; exact hRR⟩, hR2.trans (RF.uf (Or.inl rfl))⟩
  unfold gX11_compact
  have f1 : gX11_compact_11 wt_N (wt_u s 110 9 0) 0 0 0 = _ := f1
  have hmany : s2 111 2898 = nI V.2.1.length := by rw [f5.1, vpk_len]
  have t1 : gX11_compact_128 wt_N (wt_uf s2 111 w1) (nI (0 + vcc 0 V.2.1)) 0 = _ := t1
  rw [wr_eq, f1, gX11_compact_11, hmany, if_pos (Int.le_refl _), c1, cl_some, t1, Nat.zero_add]
theorem vi_cm (hI : VI 2048 B V) : VI 2048 (B + 256) (vcm V) := by
  have hj := hI.J
  have hj2 := cm_J hj
  obtain ⟨k, k1, k2⟩ := hI.2.2.2.2.1
  have hlen : V.2.1.length ≤ 256 := by
    have h1 := vlen (z := 8) hj.2.1 (fun q hq => by
      obtain ⟨z, z1, z2, z3, -⟩ := hI.1.1
      have := hI.2.2.1.2.2 q hq
      rw [z1, nI_int (by omega)] at this
      have : z ≤ q.2.1 := this
      omega)
    omega
  have hw : vpe V.1 (vcm V).1 := fun i hi => vcm_ne (by omega) (by omega)
  refine ⟨Ise_eq (fun i h1 h2 => vcm_ne (by omega) (by omega)) hI.1, hI.2.1.ww hw, ⟨hj2.2.1, hj2.2.2.1, fun q hq => ?_⟩, fun k' hk' => ?_, ⟨k + vcc 0 V.2.1, by have := vcc_le (ps := V.2.1) (a := 0); omega, ?_⟩, fun t ht => ?_⟩
  · obtain ⟨p, p1, p2⟩ := vpk_mem hq
    rw [p2, vcm_ne (by omega) (by omega)]
    exact hI.2.2.1.2.2 p p1
  · rw [vcm_ne (by omega) (by omega)]
    rcases hI.2.2.2.1 k' hk' with e | ⟨t, a1, a2, a3⟩
    · exact Or.inl e
    · exact Or.inr ⟨t, a1, a2, (vcm_ne (by omega) (by omega)).trans a3⟩
  · show V.1 2067 + nI (vcc 0 V.2.1) = _
    rw [k2, nI_add]
  · rcases hI.2.2.2.2.2 t ht with ⟨b1, n, np, c1, c2, c3, c4, c5, c6, c7, c8, c9, c10, c11, c12, c13, c14, c15, c16, c17⟩ | b
    · have hff : ∀ i, i < n + 1 → (V.2.2.2 t i).1 < 10 := fun i hi => (c9.1 i hi).1
      have hvos : vos (vcm V).1 (V.2.2.2 t) (n + 1) = vos V.1 (V.2.2.2 t) (n + 1) := vos_w hw hI.2.1 c9 _ (Nat.le_refl _)
      refine Or.inl ⟨?_, n, np, c1, ?_, ?_, c4, cm_itp c5, ?_, ?_, c8, ?_, ?_, ?_, ?_, ?_, ?_, ?_, ?_, ?_⟩
      · unfold vbz at b1 ⊢
        rw [vcm_ne (by omega) (by omega)]; exact b1
      · rw [vcm_ne (by omega) (by omega)]; exact c2
      · rw [vcm_ne (by omega) (by omega)]; exact c3
      · rw [vcm_ne (by omega) (by omega)]
        rcases c6 with ⟨e1, e2, e3⟩ | e
        · refine Or.inl ⟨e1, e2, fun p hp e => ?_⟩
          obtain ⟨q, q1, q2⟩ := vpk_mem hp
          rw [q2] at e
          exact e3 q q1 e
        · exact Or.inr e
      · exact (c7.ps (fun i hi => ⟨(c7.1 i hi).1, vpk_ln⟩)).ww hw hff
      · exact (c9.ps (fun i hi => vpk_ln)).ww hw hI.2.1
      · rw [vcm_ne (by omega) (by omega), c10]
        exact congrArg nI (hw.us (k := 0) hff).1.symm
      · rw [vcm_at ht (vby_iff.mpr b1), c1, Nat.add_sub_cancel]
        rfl
      · rw [vcm_ne (by omega) (by omega)]; exact c12
      · rw [vcm_ne (by omega) (by omega)]; exact c13
      · rw [vcm_ne (by omega) (by omega), c14]
        exact congrArg nI hvos.symm
      · show vos (vcm V).1 (V.2.2.2 t) (n + 1) ≤ _
        rw [hvos]; exact c15
      · rw [vcm_ne (by omega) (by omega)]
        show (V.1 (3989 + t) = -1 ∧ vos (vcm V).1 (V.2.2.2 t) (n + 1) = 0) ∨ ∃ k, k < 3 ∧ V.1 (3989 + t) = nI k ∧ (vcm V).1 (3923 + k) = nI t ∧ 1 ≤ vos (vcm V).1 (V.2.2.2 t) (n + 1)
        rw [hvos]
        rcases c16 with c16 | ⟨k, k1, k2, k3, k4⟩
        · exact Or.inl c16
        · exact Or.inr ⟨k, k1, k2, (vcm_ne (by omega) (by omega)).trans k3, k4⟩
      · rw [vcm_ne (by omega) (by omega)]
        exact hw.tl.mpr c17
    · obtain ⟨c1, c2, c3, c4, c5, c6, c7, c8, c9⟩ := b
      refine Or.inr ⟨c1, (vcm_ne (by omega) (by omega)).trans c2, (vcm_ne (by omega) (by omega)).trans c3, (vcm_ne (by omega) (by omega)).trans c4, (vcm_ne (by omega) (by omega)).trans c5, (vcm_ne (by omega) (by omega)).trans c6, (vcm_ne (by omega) (by omega)).trans c7, ?_, fun p hp e => ?_⟩
      · rw [vcm_ne (by omega) (by omega)]; exact c8
      · obtain ⟨q, q1, q2⟩ := vpk_mem hp
        rw [q2] at e
        exact c9 q q1 e
end
