/-! ===== gaps, and pieces that come in ===== -/
theorem vgap_spec {lim words : Nat} : ∀ {ps : List vP} {a g : Nat}, vo lim ps → (∀ q ∈ ps, a ≤ q.1) → vgap lim a ps words = some g → a ≤ g ∧ g + words ≤ lim ∧ ∀ q ∈ ps, g + words ≤ q.1 ∨ q.1 + q.2.1 ≤ g := by
  intro ps
  induction ps with
  | nil =>
    intro a g ho ha h
    unfold vgap at h
    split at h
    · cases h
      exact ⟨Nat.le_refl _, by assumption, fun q hq => (by cases hq)⟩
    · cases h
  | cons q ps ih =>
    intro a g ho ha h
    have hq := ho.2 q (List.mem_cons_self ..)
    have hq1 := ha q (List.mem_cons_self ..)
    unfold vgap at h
    split at h
    · rename_i c
      cases h
      refine ⟨Nat.le_refl _, by omega, fun p hp => ?_⟩
      rcases List.mem_cons.mp hp with e | hp
      · subst e; exact Or.inl c
      · have := vo_head ho p hp
        exact Or.inl (by omega)
    · obtain ⟨h1, h2, h3⟩ := ih (vo_tail ho) (vo_head ho) h
      refine ⟨by omega, h2, fun p hp => ?_⟩
      rcases List.mem_cons.mp hp with e | hp
      · subst e; exact Or.inr h1
      · exact h3 p hp
theorem vgap0 {lim words g : Nat} {ps : List vP} (ho : vo lim ps) (h : vgap lim 0 ps words = some g) : g + words ≤ lim ∧ ∀ q ∈ ps, g + words ≤ q.1 ∨ q.1 + q.2.1 ≤ g := (vgap_spec ho (fun _ _ => Nat.zero_le _) h).2
theorem vins_mem {q p : vP} : ∀ {ps : List vP}, p ∈ vins q ps ↔ p = q ∨ p ∈ ps := by
  intro ps
  induction ps with
  | nil => simp [vins]
  | cons a ps ih =>
    unfold vins
    split
    · simp
    · rw [List.mem_cons, ih, List.mem_cons]
      constructor
      · rintro (h | h | h)
        · exact Or.inr (Or.inl h)
        · exact Or.inl h
        · exact Or.inr (Or.inr h)
      · rintro (h | h | h)
        · exact Or.inr (Or.inl h)
        · exact Or.inl h
        · exact Or.inr (Or.inr h)
theorem vins_len {q : vP} : ∀ {ps : List vP}, (vins q ps).length = ps.length + 1 := by
  intro ps
  induction ps with
  | nil => rfl
  | cons a ps ih =>
    unfold vins
    split
    · rfl
    · rw [List.length_cons, ih, List.length_cons]
theorem vins_pw {R : vP → vP → Prop} {q : vP} : ∀ {ps : List vP}, ps.Pairwise R → (∀ p ∈ ps, (q.1 < p.1 → R q p) ∧ (¬ q.1 < p.1 → R p q)) → (∀ p ∈ ps, ∀ p' ∈ ps, q.1 < p.1 → R p p' → R q p') → (vins q ps).Pairwise R := by
  intro ps
  induction ps with
  | nil => intro _ _ _; exact List.pairwise_singleton _ _
  | cons a ps ih =>
    intro h1 h2 h3
    obtain ⟨a1, a2⟩ := List.pairwise_cons.mp h1
    unfold vins
    split
    · rename_i c
      refine List.pairwise_cons.mpr ⟨fun p hp => ?_, h1⟩
      rcases List.mem_cons.mp hp with e | hp
      · subst e; exact (h2 p (List.mem_cons_self ..)).1 c
      · exact h3 a (List.mem_cons_self ..) p (List.mem_cons_of_mem _ hp) c (a1 p hp)
    · rename_i c
      refine List.pairwise_cons.mpr ⟨fun p hp => ?_, ih a2 (fun p hp => h2 p (List.mem_cons_of_mem _ hp)) (fun p hp p' hp' => h3 p (List.mem_cons_of_mem _ hp) p' (List.mem_cons_of_mem _ hp'))⟩
      rcases vins_mem.mp hp with e | hp
      · subst e; exact (h2 a (List.mem_cons_self ..)).2 c
      · exact a1 p hp
theorem vo_ins {lim : Nat} {ps : List vP} {q : vP} (ho : vo lim ps) (h1 : 1 ≤ q.2.1 ∧ q.1 + q.2.1 ≤ lim ∧ q.2.2.1 < 6 ∧ q.2.2.2 < 4294967296) (h2 : ∀ p ∈ ps, q.1 + q.2.1 ≤ p.1 ∨ p.1 + p.2.1 ≤ q.1) : vo lim (vins q ps) := by
  refine ⟨vins_pw ho.1 (fun p hp => ⟨fun c => ?_, fun c => ?_⟩) (fun p hp p' hp' c hr => ?_), fun p hp => ?_⟩
  · have := h2 p hp
    have := ho.2 p hp
    omega
  · have := h2 p hp
    have := ho.2 p hp
    omega
  · have := h2 p hp
    have := ho.2 p hp
    show q.1 + q.2.1 ≤ p'.1
    have hr : p.1 + p.2.1 ≤ p'.1 := hr
    omega
  · rcases vins_mem.mp hp with e | hp
    · subst e; exact h1
    · exact ho.2 p hp
theorem vkeys_pw {R : vP → vP → Prop} (hs : ∀ p q, R p q → R q p) {q : vP} : ∀ {ps : List vP}, ps.Pairwise R → (∀ p ∈ ps, R q p) → (vins q ps).Pairwise R := by
  intro ps
  induction ps with
  | nil => intro _ _; exact List.pairwise_singleton _ _
  | cons a ps ih =>
    intro h1 h2
    obtain ⟨a1, a2⟩ := List.pairwise_cons.mp h1
    unfold vins
    split
    · exact List.pairwise_cons.mpr ⟨h2, h1⟩
    · refine List.pairwise_cons.mpr ⟨fun p hp => ?_, ih a2 (fun p hp => h2 p (List.mem_cons_of_mem _ hp))⟩
      rcases vins_mem.mp hp with e | hp
      · subst e; exact hs _ _ (h2 a (List.mem_cons_self ..))
      · exact a1 p hp
theorem vfind_ins_ne {t n : Nat} {q : vP} (h : vkey t n q = false) : ∀ {ps : List vP}, (vins q ps).find? (vkey t n) = ps.find? (vkey t n) := by
  intro ps
  induction ps with
  | nil => simp [vins, List.find?, h]
  | cons a ps ih =>
    unfold vins
    split
    · rw [List.find?_cons_of_neg (by simp [h])]
    · by_cases c : vkey t n a = true
      · rw [List.find?_cons_of_pos c, List.find?_cons_of_pos c]
      · rw [List.find?_cons_of_neg c, List.find?_cons_of_neg c, ih]
theorem vfind_ins_eq {t n : Nat} {q : vP} (h : vkey t n q = true) : ∀ {ps : List vP}, (∀ p ∈ ps, vkey t n p = false) → (vins q ps).find? (vkey t n) = some q := by
  intro ps
  induction ps with
  | nil => intro _; simp [vins, List.find?, h]
  | cons a ps ih =>
    intro hn
    unfold vins
    split
    · rw [List.find?_cons_of_pos h]
    · rw [List.find?_cons_of_neg (by simp [hn a (List.mem_cons_self ..)]), ih (fun p hp => hn p (List.mem_cons_of_mem _ hp))]
/-- frames in one piece lie one behind the other -/
theorem Geo.one {w : Nat → Int32} {ps : List vP} {t n : Nat} {fr : Nat → vF} (h : Geo w ps t 1 n fr) : ∀ i, i < n → (fr i).2.2.1 = vus w fr i := by
  intro i
  induction i with
  | zero => intro _; exact h.2.1.1
  | succ i ih =>
    intro hi
    have h1 := (h.1 i (by omega)).1
    have h2 := (h.1 (i + 1) hi).1
    rcases h.2.2 i hi with ⟨e1, e2⟩ | ⟨e1, e2⟩
    · rw [e2, ih (by omega), vus]
    · omega
theorem vus_mono {w : Nat → Int32} {fr : Nat → vF} {a b : Nat} (h : a ≤ b) : vus w fr a ≤ vus w fr b := by
  induction h with
  | refl => exact Nat.le_refl _
  | step _ ih => exact Nat.le_trans ih (Nat.le_add_right _ _)
