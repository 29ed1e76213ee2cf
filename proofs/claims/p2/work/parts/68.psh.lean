/-! ===== a frame comes: what always holds is kept ===== -/
section
variable {lim B t : Nat} {V : vV} {w : Nat → Int32} {ps : List vP} {np n : Nat} {fr : Nat → vF} {F : vF}
theorem Geo.psh (hg : 0 < n → Geo w ps t np n fr ∧ ((fr (n - 1)).2.1 + 1 = np ∨ (fr (n - 1)).2.1 + 2 = np)) (h0 : n = 0 → np ≤ 2) (hnp : 1 ≤ np) (hF1 : F.2.1 = np - 1) (hF2 : F.2.2.1 = vud w fr (np - 1) n) (hr : vud w fr (np - 1) n + vwd w F.1 ≤ vln ps t (np - 1)) : Geo w ps t np (n + 1) (mj_upd fr n F) := by
  refine ⟨fun i hi => ?_, ?_, fun i hi => ?_⟩
  · by_cases e : i = n
    · subst e
      rw [mj_upd_self]
      exact ⟨by omega, by rw [hF1, hF2]; exact hr⟩
    · rw [mj_upd_ne e]
      exact (hg (by omega)).1.1 i (by omega)
  · by_cases e : n = 0
    · subst e
      rw [mj_upd_self]
      exact ⟨by rw [hF2]; rfl, by have := h0 rfl; omega⟩
    · rw [mj_upd_ne (by omega)]
      exact (hg (by omega)).1.2.1
  · by_cases e : i + 1 = n
    · subst e
      rw [mj_upd_self, mj_upd_ne (by omega)]
      obtain ⟨g, l⟩ := hg (by omega)
      rw [Nat.add_sub_cancel] at l
      rcases l with l | l
      · refine Or.inl ⟨by omega, ?_⟩
        rw [hF2, show np - 1 = (fr i).2.1 by omega, g.ud i (by omega)]
      · refine Or.inr ⟨by omega, ?_⟩
        rw [hF2, vud_zero (fun j hj => ?_)]
        have := g.mono (i := j) (j := i) (by omega) (by omega)
        omega
    · rw [mj_upd_ne e, mj_upd_ne (by omega)]
      exact (hg (by omega)).1.2.2 i (by omega)
theorem Ifr.psh (hg : 0 < n → Ifr w ps t n fr) (hF : F.1 < 10 ∧ 1 ≤ vsz w F.1) (hb0 : n = 0 → F.2.2.2.1 = 0 ∨ F.2.2.2.1 = 1024) (hb : 0 < n → vbk w F (fr (n - 1)) ∧ (vcv (fr (n - 1)) → vcv F)) (hcv : vcv F → ∃ d, vdp w 10 F.1 = some d ∧ d ≤ (w 2051).toInt.toNat ∧ F.2.2.1 + d ≤ vln ps t F.2.1)
    (hq : ∀ k, k < vsz w F.1 → bt (w (2238 + F.1)) k → ∀ q, F.2.2.2.2.2 k = some q → q.1 < n ∧ q.2 < vsz w (fr q.1).1 ∧ ¬ bt (w (2238 + (fr q.1).1)) q.2) : Ifr w ps t (n + 1) (mj_upd fr n F) := by
  refine ⟨fun i hi => ?_, ?_, fun i hi => ?_, fun i hi => ?_, fun i hi => ?_, fun i hi k hk hbk q hq' => ?_⟩
  · by_cases e : i = n
    · subst e; rw [mj_upd_self]; exact hF
    · rw [mj_upd_ne e]; exact (hg (by omega)).1 i (by omega)
  · by_cases e : n = 0
    · subst e; rw [mj_upd_self]; exact hb0 rfl
    · rw [mj_upd_ne (by omega)]; exact (hg (by omega)).2.1
  · by_cases e : i + 1 = n
    · subst e
      rw [mj_upd_self, mj_upd_ne (by omega)]
      exact (hb (by omega)).1
    · rw [mj_upd_ne e, mj_upd_ne (by omega)]
      exact (hg (by omega)).2.2.1 i (by omega)
  · by_cases e : i + 1 = n
    · subst e
      rw [mj_upd_self, mj_upd_ne (by omega)]
      exact (hb (by omega)).2
    · rw [mj_upd_ne e, mj_upd_ne (by omega)]
      exact (hg (by omega)).2.2.2.1 i (by omega)
  · by_cases e : i = n
    · subst e; rw [mj_upd_self]; exact hcv
    · rw [mj_upd_ne e]; exact (hg (by omega)).2.2.2.2.1 i (by omega)
  · by_cases e : i = n
    · subst e
      rw [mj_upd_self] at hk hbk hq'
      obtain ⟨g1, g2, g3⟩ := hq k hk hbk q hq'
      rw [mj_upd_ne (by omega)]
      exact ⟨by omega, g2, g3⟩
    · rw [mj_upd_ne e] at hk hbk hq'
      obtain ⟨g1, g2, g3⟩ := (hg (by omega)).2.2.2.2.2 i (by omega) k hk hbk q hq'
      rw [mj_upd_ne (by omega)]
      exact ⟨g1, g2, g3⟩
theorem vus_psh : vus w (mj_upd fr n F) (n + 1) = vus w fr n + vwd w F.1 := by
  have : ∀ m, m ≤ n → vus w (mj_upd fr n F) m = vus w fr m := by
    intro m
    induction m with
    | zero => intro _; rfl
    | succ m ih =>
      intro hm
      unfold vus
      rw [ih (by omega), mj_upd_ne (by omega)]
  show vus w (mj_upd fr n F) n + vwd w (mj_upd fr n F n).1 = _
  rw [this n (Nat.le_refl _), mj_upd_self]
theorem vos_psh : vos w (mj_upd fr n F) (n + 1) = vos w fr n + vfo w F := by
  have : ∀ m, m ≤ n → vos w (mj_upd fr n F) m = vos w fr m := by
    intro m
    induction m with
    | zero => intro _; rfl
    | succ m ih =>
      intro hm
      unfold vos
      rw [ih (by omega), mj_upd_ne (by omega)]
  show vos w (mj_upd fr n F) n + vfo w (mj_upd fr n F n) = _
  rw [this n (Nat.le_refl _), mj_upd_self]
end
section
variable {lim t f bk : Nat} {V : vV} {a : Int32} {q : Option (Nat × Nat)}
theorem vpu_2 : (vpu V t f bk a q).2 = (V.2.1, mj_upd V.2.2.1 t (V.2.2.1 t + 1), (vfr V t (V.2.2.1 t) (vfn V t f bk a q)).2.2.2) := by
  unfold vpu
  dsimp only
  split <;> rfl
theorem vpu_w : (∀ i, i ≠ 3982 + t → i ≠ 3975 + t → i ≠ 3968 + t → i ≠ 3954 + t → i ≠ 3961 + t → i ≠ 4045 + t → (vpu V t f bk a q).1 i = V.1 i) ∧ (vpu V t f bk a q).1 (3982 + t) = nI (vat V.2.1 t (vnp V t - 1) + vud V.1 (V.2.2.2 t) (vnp V t - 1) (V.2.2.1 t)) ∧ (vpu V t f bk a q).1 (3975 + t) = nI f ∧ (vpu V t f bk a q).1 (3968 + t) = 0 ∧ (vpu V t f bk a q).1 (3954 + t) = V.1 (3954 + t) + 1 ∧ (vpu V t f bk a q).1 (3961 + t) = V.1 (3961 + t) + (V.1 (2228 + f) + 2) := by
  have key : ∃ x : Int32, ∀ i, i ≠ 4045 + t → (vpu V t f bk a q).1 i = mj_upd (mj_upd (mj_upd (mj_upd (mj_upd V.1 (3982 + t) (nI (vat V.2.1 t (vnp V t - 1) + vud V.1 (V.2.2.2 t) (vnp V t - 1) (V.2.2.1 t)))) (3975 + t) (nI f)) (3968 + t) 0) (3954 + t) (V.1 (3954 + t) + 1)) (3961 + t) (V.1 (3961 + t) + (V.1 (2228 + f) + 2)) i := by
    have e4 : (mj_upd (mj_upd (mj_upd V.1 (3982 + t) (nI (vat V.2.1 t (vnp V t - 1) + vud V.1 (V.2.2.2 t) (vnp V t - 1) (V.2.2.1 t)))) (3975 + t) (nI f)) (3968 + t) 0) (3954 + t) = V.1 (3954 + t) := by
      rw [mj_upd_ne (by omega), mj_upd_ne (by omega), mj_upd_ne (by omega)]
    refine ⟨0, fun i hi => ?_⟩
    rw [← e4]
    unfold vpu
    dsimp only
    split
    · rfl
    · rw [vs_ne hi]; rfl
  obtain ⟨-, key⟩ := key
  refine ⟨fun i h1 h2 h3 h4 h5 h6 => ?_, ?_, ?_, ?_, ?_, ?_⟩
  · rw [key i h6, mj_upd_ne h5, mj_upd_ne h4, mj_upd_ne h3, mj_upd_ne h2, mj_upd_ne h1]
  · rw [key _ (by omega), mj_upd_ne (by omega), mj_upd_ne (by omega), mj_upd_ne (by omega), mj_upd_ne (by omega), mj_upd_self]
  · rw [key _ (by omega), mj_upd_ne (by omega), mj_upd_ne (by omega), mj_upd_ne (by omega), mj_upd_self]
  · rw [key _ (by omega), mj_upd_ne (by omega), mj_upd_ne (by omega), mj_upd_self]
  · rw [key _ (by omega), mj_upd_ne (by omega), mj_upd_self]
  · rw [key _ (by omega), mj_upd_self]
end
