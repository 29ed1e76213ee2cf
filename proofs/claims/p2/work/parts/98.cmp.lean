/-! ===== COMPACT ===== -/
/-- the pieces one behind the other, from a place on -/
def vpk : Nat → List vP → List vP
  | _, [] => []
  | a, q :: ps => (a, q.2.1, q.2.2) :: vpk (a + q.2.1) ps
def vpt2 : Nat → List vP → List vT
  | _, [] => []
  | a, q :: ps => (q.1, q.2.1, a) :: vpt2 (a + q.2.1) ps
/-- how many lie elsewhere by it -/
def vcc : Nat → List vP → Nat
  | _, [] => 0
  | a, q :: ps => (if q.1 = a then 0 else 1) + vcc (a + q.2.1) ps
theorem vpk_len : ∀ {ps : List vP} {a : Nat}, (vpk a ps).length = ps.length := by
  intro ps
  induction ps with
  | nil => intro a; rfl
  | cons q ps ih => intro a; show (vpk _ ps).length + 1 = _; rw [ih]; rfl
theorem vpt2_len : ∀ {ps : List vP} {a : Nat}, (vpt2 a ps).length = ps.length := by
  intro ps
  induction ps with
  | nil => intro a; rfl
  | cons q ps ih => intro a; show (vpt2 _ ps).length + 1 = _; rw [ih]; rfl
theorem vcc_le : ∀ {ps : List vP} {a : Nat}, vcc a ps ≤ ps.length := by
  intro ps
  induction ps with
  | nil => intro a; exact Nat.le_refl _
  | cons q ps ih =>
    intro a
    have := ih (a := a + q.2.1)
    show (if q.1 = a then 0 else 1) + vcc (a + q.2.1) ps ≤ ps.length + 1
    split <;> omega
/-- in order, within the memory, never to the right -/
theorem vpk_vo {lim : Nat} : ∀ {ps : List vP} {a : Nat}, vo lim ps → (∀ q ∈ ps, a ≤ q.1) → vo lim (vpk a ps) ∧ (∀ p ∈ vpk a ps, a ≤ p.1) ∧ (∀ p ∈ vpt2 a ps, a ≤ p.2.2 ∧ p.2.2 ≤ p.1 ∧ p.1 + p.2.1 ≤ lim ∧ ∃ q ∈ ps, p.1 = q.1 ∧ p.2.1 = q.2.1) := by
  intro ps
  induction ps with
  | nil => intro a _ _; exact ⟨⟨List.Pairwise.nil, fun q hq => (by cases hq)⟩, fun p hp => (by cases hp), fun p hp => (by cases hp)⟩
  | cons q ps ih =>
    intro a ho ha
    have hq := ho.2 q (List.mem_cons_self ..)
    have haq := ha q (List.mem_cons_self ..)
    obtain ⟨i1, i2, i3⟩ := ih (a := a + q.2.1) (vo_tail ho) (fun p hp => by have := vo_head ho p hp; omega)
    refine ⟨⟨List.pairwise_cons.mpr ⟨fun p hp => i2 p hp, i1.1⟩, fun p hp => ?_⟩, fun p hp => ?_, fun p hp => ?_⟩
    · rcases List.mem_cons.mp hp with rfl | hp
      · exact ⟨hq.1, by show a + q.2.1 ≤ lim; omega, hq.2.2⟩
      · exact i1.2 p hp
    · rcases List.mem_cons.mp hp with rfl | hp
      · exact Nat.le_refl _
      · have := i2 p hp; omega
    · rcases List.mem_cons.mp hp with rfl | hp
      · exact ⟨Nat.le_refl _, haq, hq.2.1, q, List.mem_cons_self .., rfl, rfl⟩
      · obtain ⟨a1, a2, a3, q', a4, a5⟩ := i3 p hp
        exact ⟨by omega, a2, a3, q', List.mem_cons_of_mem _ a4, a5⟩
theorem vpt2_cp : ∀ {ps : List vP} {a : Nat}, vo 2048 ps → (∀ q ∈ ps, a ≤ q.1) → CP (vpt2 a ps) ∧ (vpt2 a ps).Pairwise (fun p q => p.1 + p.2.1 ≤ q.1 ∨ q.1 + q.2.1 ≤ p.1) := by
  intro ps
  induction ps with
  | nil => intro a _ _; exact ⟨⟨fun q hq => (by cases hq), List.Pairwise.nil⟩, List.Pairwise.nil⟩
  | cons q ps ih =>
    intro a ho ha
    have hq := ho.2 q (List.mem_cons_self ..)
    have haq := ha q (List.mem_cons_self ..)
    have hh := vo_head ho
    obtain ⟨i1, i2⟩ := ih (a := a + q.2.1) (vo_tail ho) (fun p hp => by have := hh p hp; omega)
    obtain ⟨-, -, i3⟩ := vpk_vo (a := a + q.2.1) (vo_tail ho) (fun p hp => by have := hh p hp; omega)
    refine ⟨⟨fun p hp => ?_, List.pairwise_cons.mpr ⟨fun p hp => ?_, i1.2⟩⟩, List.pairwise_cons.mpr ⟨fun p hp => ?_, i2⟩⟩
    · rcases List.mem_cons.mp hp with rfl | hp
      · exact ⟨hq.2.1, by show a + q.2.1 ≤ 2048; omega, Or.inl haq⟩
      · exact i1.1 p hp
    · obtain ⟨a1, a2, a3, q', a4, a5, a6⟩ := i3 p hp
      have := hh q' a4
      exact ⟨Or.inl (by show a + q.2.1 ≤ p.1; omega), Or.inl a1⟩
    · obtain ⟨a1, a2, a3, q', a4, a5, a6⟩ := i3 p hp
      have := hh q' a4
      exact Or.inl (by show q.1 + q.2.1 ≤ p.1; omega)
/-- a piece, where it comes -/
theorem vpk_find {t n : Nat} : ∀ {ps : List vP} {a : Nat}, (ps.find? (vkey t n) = none → (vpk a ps).find? (vkey t n) = none) ∧ ∀ q, ps.find? (vkey t n) = some q → ∃ b, (vpk a ps).find? (vkey t n) = some (b, q.2.1, q.2.2) ∧ (q.1, q.2.1, b) ∈ vpt2 a ps := by
  intro ps
  induction ps with
  | nil => intro a; exact ⟨fun _ => rfl, fun q h => by cases h⟩
  | cons p ps ih =>
    intro a
    obtain ⟨i1, i2⟩ := ih (a := a + p.2.1)
    have hk : vkey t n (a, p.2.1, p.2.2) = vkey t n p := rfl
    by_cases c : vkey t n p = true
    · refine ⟨fun h => ?_, fun q h => ?_⟩
      · rw [List.find?_cons_of_pos c] at h; cases h
      · rw [List.find?_cons_of_pos c] at h
        cases h
        exact ⟨a, List.find?_cons_of_pos (by rw [hk]; exact c), List.mem_cons_self ..⟩
    · refine ⟨fun h => ?_, fun q h => ?_⟩
      · rw [List.find?_cons_of_neg c] at h
        show ((a, p.2.1, p.2.2) :: vpk (a + p.2.1) ps).find? _ = none
        rw [List.find?_cons_of_neg (by rw [hk]; exact c)]
        exact i1 h
      · rw [List.find?_cons_of_neg c] at h
        obtain ⟨b, b1, b2⟩ := i2 q h
        refine ⟨b, ?_, List.mem_cons_of_mem _ b2⟩
        show ((a, p.2.1, p.2.2) :: vpk (a + p.2.1) ps).find? _ = _
        rw [List.find?_cons_of_neg (by rw [hk]; exact c)]
        exact b1
theorem vpk_mem : ∀ {ps : List vP} {a : Nat} {p : vP}, p ∈ vpk a ps → ∃ q ∈ ps, p.2 = q.2 := by
  intro ps
  induction ps with
  | nil => intro a p hp; cases hp
  | cons q ps ih =>
    intro a p hp
    rcases List.mem_cons.mp hp with rfl | hp
    · exact ⟨q, List.mem_cons_self .., rfl⟩
    · obtain ⟨q', h1, h2⟩ := ih hp
      exact ⟨q', List.mem_cons_of_mem _ h1, h2⟩
theorem vpk_mem2 : ∀ {ps : List vP} {a : Nat} {q : vP}, q ∈ ps → ∃ p ∈ vpk a ps, p.2 = q.2 := by
  intro ps
  induction ps with
  | nil => intro a q hq; cases hq
  | cons p ps ih =>
    intro a q hq
    rcases List.mem_cons.mp hq with rfl | hq
    · exact ⟨_, List.mem_cons_self .., rfl⟩
    · obtain ⟨p', h1, h2⟩ := ih (a := a + p.2.1) hq
      exact ⟨p', List.mem_cons_of_mem _ h1, h2⟩
theorem vpk_pw {R : Nat × Nat × Nat → Nat × Nat × Nat → Prop} : ∀ {ps : List vP} {a : Nat}, ps.Pairwise (fun p q => R p.2 q.2) → (vpk a ps).Pairwise (fun p q => R p.2 q.2) := by
  intro ps
  induction ps with
  | nil => intro a _; exact List.Pairwise.nil
  | cons q ps ih =>
    intro a h
    obtain ⟨h1, h2⟩ := List.pairwise_cons.mp h
    refine List.pairwise_cons.mpr ⟨fun p hp => ?_, ih h2⟩
    obtain ⟨q', e1, e2⟩ := vpk_mem hp
    rw [e2]
    exact h1 q' e1
theorem vpk_ln {ps : List vP} {t n : Nat} : vln (vpk 0 ps) t n = vln ps t n := by
  unfold vln
  cases e : ps.find? (vkey t n) with
  | none => rw [(vpk_find (a := 0)).1 e]
  | some q => obtain ⟨b, b1, -⟩ := (vpk_find (a := 0)).2 q e; rw [b1]
section
variable {s : wt_S} {V : vV} {t B : Nat}
/-- the first loop: parts, places, lines of the log -/
theorem q_cmp_11 (ho : vo 2048 V.2.1) : ∀ (qs done : List vP) (a fu c k : Nat) (s1 : wt_S), V.2.1 = done ++ qs → qs.length < fu → (∀ q ∈ qs, a ≤ q.1) → a ≤ 2048 → s1 111 2067 = nI k → k + qs.length < 2147483000 → vr_P (s1 111) (vpk 0 done ++ qs) → (vpk 0 V.2.1 = vpk 0 done ++ vpk a qs) → (vpt2 0 V.2.1 = vpt2 0 done ++ vpt2 a qs) → PT s1 (vpt2 0 done) →
    ∃ s2 fu', gX11_compact_11 fu s1 (nI c) (nI a) (nI done.length) = gX11_compact_11 (fu' + 1) s2 (nI (c + vcc a qs)) (nI (a + vall qs)) (nI V.2.1.length) ∧ RF s1 s2 ∧ (∀ i, vlg i → vout i → s2 111 i = s1 111 i) ∧ s2 111 2067 = nI (k + vcc a qs) ∧ vr_P (s2 111) (vpk 0 V.2.1) ∧ PT s2 (vpt2 0 V.2.1) := by
  intro qs
  induction qs with
  | nil =>
    intro done a fu c k s1 hd hfu ha h48 hk hkb hP hpk hpt hT
    obtain ⟨fu, rfl⟩ : ∃ m, fu = m + 1 := ⟨fu - 1, by omega⟩
    rw [List.append_nil] at hd hP
    subst hd
    exact ⟨s1, fu, rfl, RF.refl, fun _ _ _ => rfl, hk, hP, hT⟩
  | cons q qs ih =>
    intro done a fu c k s1 hd hfu ha h48 hk hkb hP hpk hpt hT
    obtain ⟨fu, rfl⟩ : ∃ m, fu = m + 1 := ⟨fu - 1, by omega⟩
    have hlen : V.2.1.length = done.length + (qs.length + 1) := by rw [hd, List.length_append]; rfl
    have hl := hP.2.1
    rw [List.length_append, vpk_len] at hl
    have hl : done.length + (qs.length + 1) ≤ 256 := hl
    have hqm : q ∈ V.2.1 := by rw [hd]; exact List.mem_append_right _ (List.mem_cons_self ..)
    have hqo := ho.2 q hqm
    have haq := ha q (List.mem_cons_self ..)
    have hkb : k + (qs.length + 1) < 2147483000 := hkb
    have hfu : qs.length + 1 < fu + 1 := hfu
    have hrow : vrow (s1 111) done.length q := hP.2.2 _ q (by rw [List.getElem?_append_right (by rw [vpk_len]; omega), vpk_len, Nat.sub_self]; rfl)
    have hmany : s1 111 2898 = nI (done.length + (qs.length + 1)) := by rw [hP.1, List.length_append, vpk_len]; rfl
    obtain ⟨s2, p1, p2, p3, p4⟩ := q_part (a := q.1) (b := q.2.1) (c := a) hT (by rw [vpt2_len]; omega)
    have haq2 : ∀ p ∈ qs, a + q.2.1 ≤ p.1 := fun p hp => by
      have h1 : (q :: qs).Pairwise (fun p q => p.1 + p.2.1 ≤ q.1) := by
        have := ho.1
        rw [hd] at this
        exact (List.pairwise_append.mp this).2.1
      have := (List.pairwise_cons.mp h1).1 p hp
      omega
    have hd2 : V.2.1 = (done ++ [q]) ++ qs := by rw [hd, List.append_assoc]; rfl
    -- the tail
    have tail : ∀ (s3 : wt_S) (c' k' : Nat), RF s1 s3 → (∀ i, vlg i → s3 111 i = s1 111 i) → s3 111 2067 = nI k' → k' + qs.length < 2147483000 → PT s3 (vpt2 0 done ++ [(q.1, q.2.1, a)]) → ∃ s5 fu', gX11_compact_92 (gX11_compact_11 fu) s3 (nI c') (nI a) (nI done.length) = gX11_compact_11 (fu' + 1) s5 (nI (c' + vcc (a + q.2.1) qs)) (nI (a + q.2.1 + vall qs)) (nI V.2.1.length) ∧ RF s1 s5 ∧ (∀ i, vlg i → vout i → s5 111 i = s1 111 i) ∧ s5 111 2067 = nI (k' + vcc (a + q.2.1) qs) ∧ vr_P (s5 111) (vpk 0 V.2.1) ∧ PT s5 (vpt2 0 V.2.1) := by
      intro s3 c' k' g1 g2 g3 g4 g5
      have epk : ∀ (d : List vP) (x : Nat), vpk x (d ++ [q]) = vpk x d ++ [(x + vall d, q.2.1, q.2.2)] := by
        intro d
        induction d with
        | nil => intro x; show [(x, q.2.1, q.2.2)] = [(x + 0, q.2.1, q.2.2)]; rfl
        | cons b d ihd =>
          intro x
          show (x, b.2.1, b.2.2) :: vpk (x + b.2.1) (d ++ [q]) = (x, b.2.1, b.2.2) :: (vpk (x + b.2.1) d ++ [(x + (b.2.1 + vall d), q.2.1, q.2.2)])
          rw [ihd, Nat.add_assoc]
      have ept : ∀ (d : List vP) (x : Nat), vpt2 x (d ++ [q]) = vpt2 x d ++ [(q.1, q.2.1, x + vall d)] := by
        intro d
        induction d with
        | nil => intro x; show [(q.1, q.2.1, x)] = [(q.1, q.2.1, x + 0)]; rfl
        | cons b d ihd =>
          intro x
          show (b.1, b.2.1, x) :: vpt2 (x + b.2.1) (d ++ [q]) = (b.1, b.2.1, x) :: (vpt2 (x + b.2.1) d ++ [(q.1, q.2.1, x + (b.2.1 + vall d))])
          rw [ihd, Nat.add_assoc]
      have hava : 0 + vall done = a := by
        have h1 : ∀ (d : List vP) (x : Nat), vpk x (d ++ (q :: qs)) = vpk x d ++ vpk (x + vall d) (q :: qs) := by
          intro d
          induction d with
          | nil => intro x; rfl
          | cons b d ihd =>
            intro x
            show (x, b.2.1, b.2.2) :: vpk (x + b.2.1) (d ++ (q :: qs)) = (x, b.2.1, b.2.2) :: (vpk (x + b.2.1) d ++ vpk (x + (b.2.1 + vall d)) (q :: qs))
            rw [ihd, Nat.add_assoc]
        rw [hd, h1] at hpk
        have h2 := List.append_cancel_left hpk
        have h3 : ((0 + vall done, q.2.1, q.2.2) : vP) = (a, q.2.1, q.2.2) := (List.cons.inj h2).1
        exact (Prod.mk.inj h3).1
      have hvP4 : vr_P (mj_upd (s3 111) (2899 + done.length) (nI a)) (vpk 0 (done ++ [q]) ++ qs) := by
        have hP3 : vr_P (s3 111) (vpk 0 done ++ q :: qs) := vr_P_eq (fun i h1 h2 => g2 i (Or.inr (by omega))) hP
        obtain ⟨v1, v2, v3⟩ := hP3
        refine ⟨?_, ?_, fun x r hx => ?_⟩
        · rw [mj_upd_ne (by omega), v1, List.length_append, List.length_append, vpk_len, vpk_len, List.length_append]
          congr 1
          show done.length + (qs.length + 1) = done.length + 1 + qs.length
          omega
        · rw [List.length_append, vpk_len, List.length_append]
          show done.length + 1 + qs.length ≤ 256
          omega
        · rw [epk, hava, List.append_assoc] at hx
          by_cases ex : x = done.length
          · subst ex
            rw [List.getElem?_append_right (by rw [vpk_len]; omega), vpk_len, Nat.sub_self] at hx
            cases hx
            have hr := v3 done.length q (by rw [List.getElem?_append_right (by rw [vpk_len]; omega), vpk_len, Nat.sub_self]; rfl)
            refine ⟨mj_upd_self, ?_, ?_, ?_⟩
            · rw [mj_upd_ne (by omega)]; exact hr.2.1
            · rw [mj_upd_ne (by omega)]; exact hr.2.2.1
            · rw [mj_upd_ne (by omega)]; exact hr.2.2.2
          · have hx' : (vpk 0 done ++ q :: qs)[x]? = some r := by
              rcases Nat.lt_or_gt_of_ne ex with c1 | c1
              · rw [List.getElem?_append_left (by rw [vpk_len]; omega)] at hx ⊢
                exact hx
              · rw [List.getElem?_append_right (by rw [vpk_len]; omega), vpk_len] at hx ⊢
                obtain ⟨y, hy⟩ : ∃ y, x - done.length = y + 1 := ⟨x - done.length - 1, by omega⟩
                rw [hy] at hx ⊢
                exact hx
            have hxl : x < 256 := by
              have := (List.getElem?_eq_some_iff.mp hx').1
              rw [List.length_append, vpk_len] at this
              have : x < done.length + (qs.length + 1) := this
              omega
            have hr := v3 x r hx'
            exact ⟨by rw [mj_upd_ne (by omega)]; exact hr.1, by rw [mj_upd_ne (by omega)]; exact hr.2.1, by rw [mj_upd_ne (by omega)]; exact hr.2.2.1, by rw [mj_upd_ne (by omega)]; exact hr.2.2.2⟩
      have hs4 : (wt_u s3 111 (2899 + done.length) (nI a)) 111 = mj_upd (s3 111) (2899 + done.length) (nI a) := wt_u_at
      have hT4 : PT (wt_u s3 111 (2899 + done.length) (nI a)) (vpt2 0 (done ++ [q])) := by
        rw [ept, hava]
        exact g5.uf
      obtain ⟨s5, fu', f1, f2, f3, f4, f5, f6⟩ := ih (done ++ [q]) (a + q.2.1) fu c' k' (wt_u s3 111 (2899 + done.length) (nI a)) hd2 (by omega) haq2 (by omega) (by rw [hs4, mj_upd_ne (by omega)]; exact g3) g4 (by rw [hs4]; exact hvP4) (by rw [hpk, epk, hava, List.append_assoc]; rfl) (by rw [hpt, ept, hava, List.append_assoc]; rfl) hT4
      refine ⟨s5, fu', ?_, g1.trans ((RF.uf (Or.inl rfl)).trans f2), fun i h1 h2 => ?_, f4, f5, f6⟩
      · unfold gX11_compact_92
        have h55 : (wt_u s3 111 (2899 + done.length) (nI a)) 111 (3155 + done.length) = nI q.2.1 := by rw [hs4, mj_upd_ne (by omega), g2 _ (Or.inr (by omega))]; exact hrow.2.1
        rw [li_add, ix_nI (by omega) (by omega), wr_eq, li_add, ix_nI (by omega) (by omega), h55, nI_add, nI_1, show done.length + 1 = (done ++ [q]).length by rw [List.length_append]; rfl]
        exact f1
      · rw [f3 i h1 h2, hs4, mj_upd_ne (by unfold vout at h2; omega), g2 i h1]
    have hvc : vcc a (q :: qs) = (if q.1 = a then 0 else 1) + vcc (a + q.2.1) qs := rfl
    have hva : a + vall (q :: qs) = a + q.2.1 + vall qs := by show a + (q.2.1 + vall qs) = _; omega
    have h2r : ∀ i, s2 111 i = s1 111 i := fun i => by rw [p3]
    rw [gX11_compact_11, hmany, nI_int (by omega), nI_int (by omega), if_neg (by omega), li_add, ix_nI (by omega) (by omega), li_add, ix_nI (by omega) (by omega), hrow.1, hrow.2.1, p1, cl_some, ix_nI (by omega) (by omega), h2r, hrow.1, hva, hvc]
    by_cases ce : q.1 = a
    · obtain ⟨s5, fu', f1, f2, f3, f4, f5⟩ := tail s2 c k p4 (fun i _ => h2r i) (by rw [h2r]; exact hk) (by omega) p2
      rw [if_pos (by rw [ce]), if_pos ce, Nat.zero_add]
      exact ⟨s5, fu', f1, f2, f3, f4, f5⟩
    · obtain ⟨w3, l1, l2, l3⟩ := q_logs (s := s2) (a := 7) (b := nI q.2.2.1) (c := nI a) (d := nI q.2.1) (by rw [h2r]; exact hk) (by omega)
      obtain ⟨s5, fu', f1, f2, f3, f4, f5⟩ := tail (wt_uf s2 111 w3) (c + 1) (k + 1) (p4.trans (RF.uf (Or.inl rfl))) (fun i hi => by rw [wt_uf_at, l3 i hi, h2r]) (by rw [wt_uf_at, l2, h2r, hk, nI_1]) (by omega) p2.uf
      rw [if_neg (fun e => ce ((nI_inj (by omega) (by omega)).mp e)), if_neg ce, li_add, ix_nI (by omega) (by omega), ix_nI (by omega) (by omega), h2r, h2r, hrow.2.2.1, hrow.2.1, l1, cl_some, nI_1, f1]
      rw [show c + (1 + vcc (a + q.2.1) qs) = c + 1 + vcc (a + q.2.1) qs by omega, show k + (1 + vcc (a + q.2.1) qs) = k + 1 + vcc (a + q.2.1) qs by omega]
      exact ⟨s5, fu', rfl, f2, f3, f4, f5⟩
end
