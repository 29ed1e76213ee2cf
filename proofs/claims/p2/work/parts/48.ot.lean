/-! ===== what one task does leaves the others as they are ===== -/
def OT (t : Nat) (V V' : vV) : Prop := vpe V.1 V'.1 ∧ (∀ i, 2048 ≤ i → i ≤ 2053 → V'.1 i = V.1 i) ∧ (∀ t', t' < 6 → t' ≠ t → (∀ j, j < 21 → V'.1 (3926 + 7 * j + t') = V.1 (3926 + 7 * j + t')) ∧ V'.2.2.1 t' = V.2.2.1 t' ∧ V'.2.2.2 t' = V.2.2.2 t') ∧ (∀ q : vP, q.2.2.1 ≠ t → (q ∈ V'.2.1 ↔ q ∈ V.2.1)) ∧ (∀ t' n, t' ≠ t → V'.2.1.find? (vkey t' n) = V.2.1.find? (vkey t' n)) ∧ (∀ k, k < 3 → ∀ t', t' < 6 → t' ≠ t → (V'.1 (3923 + k) = nI t' ↔ V.1 (3923 + k) = nI t'))
theorem OT.refl {t : Nat} {V : vV} : OT t V V := ⟨vpe.refl, fun _ _ _ => rfl, fun _ _ _ => ⟨fun _ _ => rfl, rfl, rfl⟩, fun _ _ => Iff.rfl, fun _ _ _ => rfl, fun _ _ _ _ _ => Iff.rfl⟩
theorem OT.trans {t : Nat} {V1 V2 V3 : vV} (h : OT t V1 V2) (h' : OT t V2 V3) : OT t V1 V3 := by
  obtain ⟨a1, a2, a3, a4, a5, a6⟩ := h
  obtain ⟨b1, b2, b3, b4, b5, b6⟩ := h'
  refine ⟨a1.trans b1, fun i h1 h2 => (b2 i h1 h2).trans (a2 i h1 h2), fun t' ht hne => ⟨fun j hj => ((b3 t' ht hne).1 j hj).trans ((a3 t' ht hne).1 j hj), (b3 t' ht hne).2.1.trans (a3 t' ht hne).2.1, (b3 t' ht hne).2.2.trans (a3 t' ht hne).2.2⟩, fun q hq => (b4 q hq).trans (a4 q hq), fun t' n hne => (b5 t' n hne).trans (a5 t' n hne), fun k hk t' ht hne => (b6 k hk t' ht hne).trans (a6 k hk t' ht hne)⟩
/-- a scalar that is nobody else's -/
def vown (t i : Nat) : Prop := (2054 ≤ i ∧ i < 2228) ∨ (∃ j, j < 21 ∧ i = 3926 + 7 * j + t)
theorem OT.vs {t i : Nat} {V : vV} {v : Int32} (ht : t < 6) (h : vown t i) : OT t V (vs V i v) := by
  have hi : (i < 2228 ∨ 3926 ≤ i) ∧ 2054 ≤ i := by rcases h with h | ⟨j, h1, h2⟩ <;> omega
  refine ⟨vpe.upd (by omega), fun j h1 h2 => vs_ne (by omega), fun t' ht' hne => ⟨fun j hj => vs_ne ?_, rfl, rfl⟩, fun _ _ => Iff.rfl, fun _ _ _ => rfl, fun k hk t' ht' hne => by rw [vs_ne (by omega)]⟩
  rcases h with h | ⟨j', h1, h2⟩ <;> omega
theorem vown_t {t c : Nat} (h : 3926 ≤ c ∧ c ≤ 4066 ∧ (c - 3926) % 7 = 0) : vown t (c + t) := Or.inr ⟨(c - 3926) / 7, by omega, by omega⟩
theorem OT.cn {t k : Nat} {V : vV} {v : Int32} (ht : t < 6) (hk : k < 12) : OT t V (vcn V k v) := OT.vs ht (Or.inl (by omega))
theorem OT.lg {t : Nat} {V : vV} (ht : t < 6) : OT t V (vlg1 V) := OT.vs ht (Or.inl (by omega))
theorem OT.inc {t i : Nat} {V : vV} (ht : t < 6) (h : vown t i) : OT t V (vinc V i) := OT.vs ht h
theorem OT.ps {t : Nat} {V : vV} {ps : List vP} (h1 : ∀ q : vP, q.2.2.1 ≠ t → (q ∈ ps ↔ q ∈ V.2.1)) (h2 : ∀ t' n, t' ≠ t → ps.find? (vkey t' n) = V.2.1.find? (vkey t' n)) : OT t V (vps V ps) := ⟨vpe.refl, fun _ _ _ => rfl, fun _ _ _ => ⟨fun _ _ => rfl, rfl, rfl⟩, h1, h2, fun _ _ _ _ _ => Iff.rfl⟩
theorem OT.flt {t n : Nat} {V : vV} : OT t V (vps V (V.2.1.filter (fun q => !vkey t n q))) := by
  refine OT.ps (fun q hq => ?_) (fun t' k hne => vfind_filter (fun q _ hk => ?_))
  · rw [List.mem_filter]
    refine ⟨fun h => h.1, fun h => ⟨h, by simp [vkey]; omega⟩⟩
  · have hk : q.2.2.1 = t' ∧ q.2.2.2 = k := by simpa [vkey] using hk
    simp [vkey]
    omega
theorem OT.ren {t n n' : Nat} {V : vV} : OT t V (vps V (vren t n n' V.2.1)) := by
  refine OT.ps (fun q hq => ?_) (fun t' k hne => vfind_ren (fun e => hne e.1))
  unfold vren
  rw [List.mem_map]
  constructor
  · rintro ⟨p, p1, p2⟩
    by_cases c : vkey t n p = true
    · rw [if_pos c] at p2
      have c : p.2.2.1 = t ∧ p.2.2.2 = n := by simpa [vkey] using c
      exact absurd (p2 ▸ c.1) hq
    · rw [if_neg c] at p2
      exact p2 ▸ p1
  · intro h
    refine ⟨q, h, if_neg ?_⟩
    simp [vkey]
    omega
theorem OT.ins {t : Nat} {V : vV} {q : vP} (hq : q.2.2.1 = t) : OT t V (vps V (vins q V.2.1)) := by
  refine OT.ps (fun p hp => ?_) (fun t' k hne => vfind_ins_ne (by simp [vkey]; omega))
  rw [vins_mem]
  exact ⟨fun h => h.resolve_left (fun e => hp (e ▸ hq)), Or.inr⟩
theorem OT.nf {t n : Nat} {V : vV} : OT t V (vnf V t n) := ⟨vpe.refl, fun _ _ _ => rfl, fun t' _ hne => ⟨fun _ _ => rfl, mj_upd_ne hne, rfl⟩, fun _ _ => Iff.rfl, fun _ _ _ => rfl, fun _ _ _ _ _ => Iff.rfl⟩
theorem OT.fr {t i : Nat} {F : vF} {V : vV} : OT t V (vfr V t i F) := ⟨vpe.refl, fun _ _ _ => rfl, fun t' _ hne => ⟨fun _ _ => rfl, rfl, if_neg hne⟩, fun _ _ => Iff.rfl, fun _ _ _ => rfl, fun _ _ _ _ _ => Iff.rfl⟩
theorem OT.sp {t : Nat} {V : vV} (ht : t < 6) : OT t V (vsp V t) := by
  unfold vsp
  split
  · exact (OT.lg ht).trans (OT.flt (V := vlg1 V))
  · exact OT.refl
theorem ot_mvX {t g words : Nat} {V : vV} {X : Int32} (ht : t < 6) : OT t V (vps (vs V (3982 + t) X) (vins (g, words, t, 0) (V.2.1.filter (fun q => !vkey t 0 q)))) :=
  OT.trans (V2 := vs V (3982 + t) X) (OT.vs ht (vown_t (c := 3982) (by omega))) (OT.trans (V2 := vps (vs V (3982 + t) X) (V.2.1.filter (fun q => !vkey t 0 q))) (OT.flt (V := vs V (3982 + t) X)) (OT.ins (V := vps (vs V (3982 + t) X) (V.2.1.filter (fun q => !vkey t 0 q))) rfl))
theorem OT.mv {t g words : Nat} {V : vV} (ht : t < 6) : OT t V (vmv V t g words) := by
  unfold vmv
  exact OT.trans (OT.trans (ot_mvX ht) (OT.vs ht (vown_t (c := 4017) (by omega)))) (OT.cn ht (by omega))
theorem OT.spl {lim t need : Nat} {V : vV} (ht : t < 6) : OT t V (vspl lim V t need).2 := by
  unfold vspl
  dsimp only
  split
  · exact OT.refl
  · exact OT.trans (OT.trans (OT.trans (OT.trans (OT.ins rfl) (OT.inc ht (vown_t (c := 4024) (by omega)))) (OT.cn ht (by omega))) (OT.lg ht)) (OT.inc ht (vown_t (c := 4066) (by omega)))
theorem OT.gr {lim t need : Nat} {V : vV} (ht : t < 6) : OT t V (vgr lim V t need).2 := by
  unfold vgr
  split
  · dsimp only
    split
    · exact OT.refl
    · exact OT.trans (OT.trans (OT.trans (OT.mv ht) (OT.inc ht (vown_t (c := 4010) (by omega)))) (OT.cn ht (by omega))) (OT.lg ht)
  · split
    · split
      · exact OT.trans (OT.trans (OT.trans (OT.trans OT.ren (OT.inc ht (vown_t (c := 4038) (by omega)))) (OT.cn ht (by omega))) (OT.lg ht)) (OT.inc ht (vown_t (c := 4066) (by omega)))
      · exact OT.trans (OT.sp ht) (OT.spl ht)
    · exact OT.spl ht
/-- the others keep what held -/
theorem Ibz.ot {lim t t' : Nat} {V V' : vV} (h : OT t V V') (ht : t' < 6) (hne : t' ≠ t) (hp : Ipr V.1) (hb : Ibz lim V t') : Ibz lim V' t' := by
  obtain ⟨a1, a2, a3, a4, a5, a6⟩ := h
  obtain ⟨b1, b2, b3⟩ := a3 t' ht hne
  obtain ⟨n, np, c1, c2, c3, c4, c5, c6, c7, c8, c9, c10, c11, c12, c13, c14, c15, c16, c17⟩ := hb
  have hf : ∀ i, i < n + 1 → (V.2.2.2 t' i).1 < 10 := fun i hi => (c9.1 i hi).1
  have q : ∀ c, 3926 ≤ c → c ≤ 4066 → (c - 3926) % 7 = 0 → V'.1 (c + t') = V.1 (c + t') := fun c h1 h2 h3 => by
    have := b1 ((c - 3926) / 7) (by omega)
    rw [show 3926 + 7 * ((c - 3926) / 7) = c by omega] at this
    exact this
  have hat : ∀ k, vat V'.2.1 t' k = vat V.2.1 t' k ∧ vln V'.2.1 t' k = vln V.2.1 t' k := fun k => vat_eq (a5 t' k hne)
  have hmem : ∀ p : vP, p.2.2.1 = t' → (p ∈ V'.2.1 ↔ p ∈ V.2.1) := fun p hp => a4 p (by omega)
  have hvos : ∀ m, m ≤ n + 1 → vos V'.1 (V.2.2.2 t') m = vos V.1 (V.2.2.2 t') m := by
    intro m
    induction m with
    | zero => intro _; rfl
    | succ m ih =>
      intro hm
      unfold vos
      rw [ih (by omega)]
      congr 1
      unfold vfo
      split
      · rename_i c
        cases m with
        | zero => rcases c9.2.1 with e | e <;> omega
        | succ m =>
          obtain ⟨d1, d2, d3, d4, -⟩ := c9.2.2.1 m (by omega)
          have hl := (hp.li (hf m (by omega))).2
          rw [a1.co (by rw [d2]; exact hf m (by omega)) (by omega) (by omega)]
      · rfl
  refine ⟨n, np, b2.trans c1, (q 3954 (by omega) (by omega) (by omega)).trans c2, (q 4066 (by omega) (by omega) (by omega)).trans c3, c4, ⟨fun k hk => ?_, fun p hp e => c5.2 p ((hmem p e).mp hp) e⟩, ?_, ?_, ?_, ?_, ?_, ?_, ?_, ?_, ?_, ?_, ?_, ?_⟩
  · obtain ⟨p, p1, p2, p3⟩ := c5.1 k hk
    exact ⟨p, (hmem p p2).mpr p1, p2, p3⟩
  · rw [q 3933 (by omega) (by omega) (by omega)]
    rcases c6 with ⟨e1, e2, e3⟩ | e
    · exact Or.inl ⟨e1, e2, fun p hp e => e3 p ((hmem p e.1).mp hp) e⟩
    · exact Or.inr e
  · rw [b3]; exact (c7.ps (fun i hi => ⟨(c7.1 i hi).1, (hat _).2⟩)).ww a1 hf
  · rw [b3]; exact c8
  · rw [b3]; exact (c9.ps (fun i hi => (hat _).2)).ww a1 hp
  · rw [q 3961 (by omega) (by omega) (by omega), b3, (a1.us (k := 0) hf).1]; exact c10
  · rw [q 3982 (by omega) (by omega) (by omega), c11]
    unfold vpl
    rw [b3, (hat _).1]
  · rw [q 3975 (by omega) (by omega) (by omega), b3]; exact c12
  · rw [q 3968 (by omega) (by omega) (by omega)]; exact c13
  · rw [q 3996 (by omega) (by omega) (by omega), b3, hvos _ (Nat.le_refl _)]; exact c14
  · rw [b3, hvos _ (Nat.le_refl _)]; exact c15
  · rw [b3, q 3989 (by omega) (by omega) (by omega), hvos _ (Nat.le_refl _)]
    rcases c16 with c16 | ⟨k, k1, k2, k3, k4⟩
    · exact Or.inl c16
    · exact Or.inr ⟨k, k1, k2, (a6 k k1 t' ht hne).mpr k3, k4⟩
  · rw [q 4052 (by omega) (by omega) (by omega)]
    exact a1.tl.mpr c17
theorem Iid.ot {t t' : Nat} {V V' : vV} (h : OT t V V') (ht : t' < 6) (hne : t' ≠ t) (hi : Iid V t') : Iid V' t' := by
  obtain ⟨a1, a2, a3, a4, a5, a6⟩ := h
  obtain ⟨b1, b2, b3⟩ := a3 t' ht hne
  have q : ∀ c, 3926 ≤ c → c ≤ 4066 → (c - 3926) % 7 = 0 → V'.1 (c + t') = V.1 (c + t') := fun c h1 h2 h3 => by
    have := b1 ((c - 3926) / 7) (by omega)
    rw [show 3926 + 7 * ((c - 3926) / 7) = c by omega] at this
    exact this
  obtain ⟨c1, c2, c3, c4, c5, c6, c7, c8, c9⟩ := hi
  refine ⟨b2.trans c1, (q 3954 (by omega) (by omega) (by omega)).trans c2, (q 4066 (by omega) (by omega) (by omega)).trans c3, (q 3961 (by omega) (by omega) (by omega)).trans c4, (q 3975 (by omega) (by omega) (by omega)).trans c5, (q 3989 (by omega) (by omega) (by omega)).trans c6, (q 3996 (by omega) (by omega) (by omega)).trans c7, ?_, fun p hp e => ?_⟩
  · rw [show 3926 + t' = 3926 + t' from rfl, q 3926 (by omega) (by omega) (by omega)]; exact c8
  · exact c9 p ((a4 p (by omega)).mp hp) e
theorem VI.ot {lim B B' t : Nat} {V V' : vV} (hI : VI lim B V) (h : OT t V V') (ht : t < 6) (h1 : vo lim V'.2.1 ∧ V'.2.1.Pairwise (fun p q => ¬ (p.2.2.1 = q.2.2.1 ∧ p.2.2.2 = q.2.2.2)) ∧ ∀ q ∈ V'.2.1, (V.1 2048).toInt.toNat ≤ q.2.1) (h2 : Isd V'.1) (h3 : ∃ k, k ≤ B' ∧ V'.1 2067 = nI k) (h4 : (vbz V'.1 t ∧ Ibz lim V' t) ∨ Iid V' t) : VI lim B' V' := by
  have he := h.2.1
  refine ⟨?_, hI.2.1.ww h.1, ⟨h1.1, h1.2.1, ?_⟩, h2, h3, fun t' ht' => ?_⟩
  · unfold Ise
    rw [he 2048 (by omega) (by omega), he 2049 (by omega) (by omega), he 2050 (by omega) (by omega), he 2051 (by omega) (by omega), he 2052 (by omega) (by omega), he 2053 (by omega) (by omega)]
    exact hI.1
  · rw [he 2048 (by omega) (by omega)]; exact h1.2.2
  · by_cases e : t' = t
    · subst e; exact h4
    · rcases hI.2.2.2.2.2 t' ht' with ⟨b1, b2⟩ | b
      · refine Or.inl ⟨?_, b2.ot h ht' e hI.2.1⟩
        unfold vbz at b1 ⊢
        have := (h.2.2.1 t' ht' e).1 0 (by omega)
        rw [show 3926 + 7 * 0 + t' = 3926 + t' by omega] at this
        rw [this]
        exact b1
      · exact Or.inr (b.ot h ht' e)
