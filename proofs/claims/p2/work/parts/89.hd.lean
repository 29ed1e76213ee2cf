/-! ===== the endless stack: the whole run ===== -/
def ecw (w : Nat → Int32) : Nat → Int32 := fun i => if (2228 ≤ i ∧ i < 2898) ∨ i = 2050 ∨ i = 2051 then w i else 0
theorem ecw_pe {w : Nat → Int32} : vpe (ecw w) w := fun i hi => by unfold ecw; rw [if_pos hi]
theorem ecw_eq {w w' : Nat → Int32} (h : vpe w w') : ecw w' = ecw w := by
  funext i
  unfold ecw
  by_cases c : (2228 ≤ i ∧ i < 2898) ∨ i = 2050 ∨ i = 2051
  · rw [if_pos c, if_pos c, h i c]
  · rw [if_neg c, if_neg c]
def e00 : eS := (0, (fun _ => (0, 0, 0, 0, (fun _ => 0), (fun _ => none))), 0, 0, 0)
def ein (w : Nat → Int32) (f : Nat) (a : Int32) : eS := epu w e00 f 0 (if bt (w (2238 + f)) 0 then 0 else a, none)
def eru (w : Nat → Int32) : Nat → eS → Option (Int32 × Nat × Nat)
  | 0, _ => none
  | m + 1, S => match est w S with
    | .inr v => some (v, S.2.2.2.2 + 1, S.2.2.2.1)
    | .inl S' => eru w m S'
/-- result, steps, most words on an endless stack -/
def eend (w : Nat → Int32) (f a : Int32) : Option (Int32 × Nat × Nat) := eru (ecw w) 2000 (ein (ecw w) f.toInt.toNat a)
def vZ (w : Nat → Int32) (f a v : Int32) : Bool := match eend w f a with
  | some r => decide (r.1 ≠ v)
  | none => false
/-- behind the run -/
def EZ (s0 s : wt_S) (V : vV) : Option (Int32 × Nat × Nat) → Prop
  | some r => RD s0 s V r.1 r.2.1 r.2.2
  | none => s 110 5 = 1 ∧ RR (s 111) V ∧ RG s0 s ∧ s 111 (3926 + 6) = 1
section
variable {s0 s : wt_S} {V : vV} {w : Nat → Int32}
theorem e_loop {l3 : Int32} : ∀ (m k fu : Nat) (s : wt_S) (S : eS), k + m = 2000 → m < fu → RE s0 s V w S → EI w S → S.1 ≤ k + 1 → S.2.2.2.2 = k → S.2.2.2.1 ≤ 20010 → ∃ s', gX11_runsEndless_38 fu s l3 (nI k) = gX11_runsEndless_67 s' l3 ∧ EZ s0 s' V (eru w m S) := by
  intro m
  induction m with
  | zero =>
    intro k fu s S hk hfu h hE hn hst hmo
    obtain ⟨fu, rfl⟩ : ∃ m, fu = m + 1 := ⟨fu - 1, by omega⟩
    rw [gX11_runsEndless_38, nI_int (by omega), if_pos (by show (2000 : Int) ≤ _; omega)]
    exact ⟨s, rfl, h.1, h.2.1, h.2.2.1, h.2.2.2.2.2.2.2.2.2.2.2.1⟩
  | succ m ih =>
    intro k fu s S hk hfu h hE hn hst hmo
    obtain ⟨fu, rfl⟩ : ∃ m, fu = m + 1 := ⟨fu - 1, by omega⟩
    have h12 := h.2.2.2.2.2.2.2.2.2.2.2.1
    have hvu := hE.vw h.2.2.2.2.1 S.1 (Nat.le_refl _)
    obtain ⟨s1, e1, e2⟩ := e_steps (D := fun _ _ _ => none) h hE (by omega) (by omega) (by omega)
    rw [gX11_runsEndless_38, nI_int (by omega), if_neg (by show ¬ (2000 : Int) ≤ _; omega), show (6 : Int32) = nI 6 from rfl, q_isBusy (by omega), cl_some, if_rb, if_pos (Or.inl h12), e1, cl_some, nI_1]
    rw [eru]
    cases hes : est w S with
    | inl S' =>
      rw [hes] at e2
      obtain ⟨g1, g2, g3, g4, g5⟩ := e2
      exact ih (k + 1) fu s1 S' (by omega) (by omega) g1 g2 (by have g3 : S'.1 ≤ S.1 + 1 := g3; omega) (by have g5 : S'.2.2.2.2 = S.2.2.2.2 + 1 := g5; omega) (by have g4 : S'.2.2.2.1 ≤ max S.2.2.2.1 (vus w S.2.1 S.1 + 10) := g4; omega)
    | inr v =>
      rw [hes] at e2
      have e2 : RD s0 s1 V v (S.2.2.2.2 + 1) S.2.2.2.1 := e2
      obtain ⟨fu, rfl⟩ : ∃ m, fu = m + 1 := ⟨fu - 1, by omega⟩
      refine ⟨s1, ?_, e2⟩
      rw [gX11_runsEndless_38, nI_int (by omega)]
      by_cases c : (2000 : Int32).toInt ≤ ((k + 1 : Nat) : Int)
      · rw [if_pos c]
      · rw [if_neg c, show (6 : Int32) = nI 6 from rfl, q_isBusy (by omega), cl_some, if_rb, if_neg (by rw [e2.2.2.2.1]; decide)]
theorem vck_s7 {t : Nat} {w : Nat → Int32} {k : Nat} (ht : t < 7) (hk : k < 21) : vck (mj_upd w (3926 + 7 * k + t) 0) t (k + 1) = vck w t k := by
  funext i
  unfold vck
  by_cases e : i = 3926 + 7 * k + t
  · subst e
    rw [if_neg (by omega), if_pos (by omega), mj_upd_self]
  · rw [mj_upd_ne e]
    by_cases c : 3926 + 7 * (k + 1) ≤ i ∧ i < 4073 ∧ (i - 3926) % 7 = t
    · rw [if_pos c, if_pos (by omega)]
    · rw [if_neg c, if_neg (by omega)]
theorem q_clears7 : ∀ (r k n : Nat) (s : wt_S), k + r = 21 → r < n → gX11_clears_4 n s (nI 6) (nI (3926 + 7 * k)) = some ((), wt_u (wt_u (wt_uf s 111 (vck (s 111) 6 k)) 111 (3989 + 6) (-1)) 111 (3975 + 6) (-1)) := by
  intro r
  induction r with
  | zero =>
    intro k n s hk hn
    obtain ⟨m, rfl⟩ : ∃ m, n = m + 1 := ⟨n - 1, by omega⟩
    have : k = 21 := by omega
    subst this
    unfold gX11_clears_4
    rw [if_pos (by rw [nI_int (by omega)]; decide), li_add, ix_nI (by omega) (by omega), wr_eq, li_add, ix_nI (by omega) (by omega), wr_eq, vck_21, wt_uf_id]
  | succ r ih =>
    intro k n s hk hn
    obtain ⟨m, rfl⟩ : ∃ m, n = m + 1 := ⟨n - 1, by omega⟩
    unfold gX11_clears_4
    rw [if_neg (by rw [nI_int (by omega)]; show ¬ (4073 : Int) ≤ _; omega), nI_add, ix_nI (by omega) (by omega), wr_eq, li_add2, show 3926 + 7 * k + 7 = 3926 + 7 * (k + 1) by omega, ih (k + 1) m _ (by omega) (by omega)]
    simp only [u_uf, wt_uf_at, uf_uf, vck_s7 (show 6 < 7 by omega) (show k < 21 by omega)]
/-- as it begins, before the first call -/
theorem e_begin (h : RS s V) (hp : Ipr V.1) (hr : ∃ z, V.1 2051 = nI z ∧ z ≤ 80) : RE s (wt_u (wt_u (wt_u (wt_uf (wt_u s 110 5 1) 111 (vck (s 111) 6 0)) 111 (3989 + 6) (-1)) 111 (3975 + 6) (-1)) 111 (3926 + 6) 1) V (ecw V.1) e00 := by
  have hRR : RR (vck (s 111) 6 0) V := by
    refine h.2.mk' (fun i hi => ?_) (vr_P_eq (fun i h1 h2 => ?_) h.2.2.1) (fun p hp => ?_) (fun mm hm => hm)
    · unfold vck
      unfold vtr at hi
      rw [if_neg (by omega)]
      exact h.2.at hi
    · unfold vck
      rw [if_neg (by omega)]
    · unfold vck
      rw [if_neg (by omega)]
  have h0 : ∀ i, 3926 ≤ i → i < 4073 → (i - 3926) % 7 = 6 → i ≠ 3989 + 6 → i ≠ 3975 + 6 → i ≠ 3926 + 6 → (wt_u (wt_u (wt_u (wt_uf (wt_u s 110 5 1) 111 (vck (s 111) 6 0)) 111 (3989 + 6) (-1)) 111 (3975 + 6) (-1)) 111 (3926 + 6) 1) 111 i = 0 := fun i g1 g2 g3 g4 g5 g6 => by
    rw [wt_u_nk g6, wt_u_nk g5, wt_u_nk g4, wt_uf_at]
    unfold vck
    rw [if_pos (by omega)]
  obtain ⟨z, z1, z2⟩ := hr
  refine ⟨?_, ?_, ?_, ecw_pe, hp.ww ecw_pe.symm, ⟨z, ?_, z2⟩, ?_, ?_, ?_, ?_, ?_, ?_, fun e => absurd e (by decide), fun i hi => absurd hi (Nat.not_lt_zero _)⟩
  · rw [wt_u_ne (by omega), wt_u_ne (by omega), wt_u_ne (by omega), wt_uf_ne (by omega), wt_u_self]
  · rw [wt_u_at, wt_u_at, wt_u_at, wt_uf_at]
    exact ((hRR.w6 (by omega)).w6 (by omega)).w6 (by omega)
  · exact RG.trans (RG.uo (by omega)) (RG.trans (RG.uf (Or.inl rfl)) (RG.trans (RG.uf (Or.inl rfl)) (RG.trans (RG.uf (Or.inl rfl)) (RG.uf (Or.inl rfl)))))
  · rw [← ecw_pe 2051 (Or.inr (Or.inr rfl))]
    exact z1
  · exact h0 _ (by omega) (by omega) (by omega) (by omega) (by omega) (by omega)
  · exact h0 _ (by omega) (by omega) (by omega) (by omega) (by omega) (by omega)
  · exact h0 _ (by omega) (by omega) (by omega) (by omega) (by omega) (by omega)
  · exact h0 _ (by omega) (by omega) (by omega) (by omega) (by omega) (by omega)
  · exact h0 _ (by omega) (by omega) (by omega) (by omega) (by omega) (by omega)
  · rw [wt_u_self]
/-- the whole of it -/
theorem e_run {f a : Int32} (h : RS s V) (hp : Ipr V.1) (hr : ∃ z, V.1 2051 = nI z ∧ z ≤ 80) (hf : tld V.1 f) : ∃ s', gX11_runsEndless s f a = some (rb ((eend V.1 f a).isSome = true), s') ∧ RS s' V ∧ RF s s' ∧ ∀ r, eend V.1 f a = some r → s' 111 (3940 + 6) = r.1 ∧ s' 111 (3947 + 6) = nI r.2.1 ∧ s' 111 (4045 + 6) = nI r.2.2 := by
  obtain ⟨f', f10, rfl, f3, f4⟩ := tld_nat hf
  have hB := e_begin h hp hr
  have hs1 : 1 ≤ vsz (ecw V.1) f' := by rw [← (ecw_pe.sz f10).1]; exact f4
  obtain ⟨s4, c1, c2⟩ := e_calls (bk := 0) (slot := -1) (a := a) (hh := (if bt (ecw V.1 (2238 + f')) 0 then 0 else a, none)) (f := f') hB (fun e => absurd e (by decide)) f10 hs1 (Nat.zero_le _) (Nat.zero_le _) (Or.inl ⟨rfl, rfl, rfl⟩)
  have hE : EI (ecw V.1) (ein (ecw V.1) f' a) := by
    have hfr : (ein (ecw V.1) f' a).2.1 0 = eFr f' (ebk (ecw V.1) e00 f' 0) (if bt (ecw V.1 (2238 + f')) 0 then 0 else a, none) := mj_upd_self (f := e00.2.1) (k := 0)
    refine ⟨by show 1 ≤ 0 + 1; omega, fun i hi => ?_, ?_, fun i hi => ?_, fun i hi k hk hb q hq => ?_, Nat.zero_le _⟩
    · have hi : i < 0 + 1 := hi
      have : i = 0 := by omega
      subst this
      rw [hfr]
      exact ⟨f10, hs1⟩
    · rw [hfr]
      show ebk (ecw V.1) e00 f' 0 = 0 ∨ ebk (ecw V.1) e00 f' 0 = 1024
      unfold ebk
      split
      · exact Or.inr rfl
      · exact Or.inl rfl
    · have hi : i + 1 < 0 + 1 := hi
      omega
    · have hi : i < 0 + 1 := hi
      have : i = 0 := by omega
      subst this
      rw [hfr] at hq
      have hq : (if k = 0 then (none : Option (Nat × Nat)) else none) = some q := hq
      split at hq <;> cases hq
  have hmo : (ein (ecw V.1) f' a).2.2.2.1 ≤ 20010 := by
    show max 0 (vus (ecw V.1) e00.2.1 0 + vwd (ecw V.1) f') ≤ 20010
    have := (hB.2.2.2.2.1.wd f10).2
    have h0 : vus (ecw V.1) e00.2.1 0 = 0 := rfl
    omega
  obtain ⟨s5, d1, d2⟩ := e_loop (l3 := s 110 5) 2000 0 wt_N s4 (ein (ecw V.1) f' a) (by omega) (by unfold wt_N; omega) c2 hE (by show 0 + 1 ≤ 0 + 1; omega) rfl hmo
  have d2 : EZ s s5 V (eend V.1 (nI f') a) := by unfold eend; rw [f3]; exact d2
  have hcl : gX11_clears (wt_u s 110 5 1) 6 = some ((), wt_u (wt_u (wt_uf (wt_u s 110 5 1) 111 (vck (s 111) 6 0)) 111 (3989 + 6) (-1)) 111 (3975 + 6) (-1)) := by
    have := q_clears7 21 0 wt_N (wt_u s 110 5 1) rfl (by unfold wt_N; omega)
    rw [wt_u_ne (show (111 : Nat) ≠ 110 by omega)] at this
    exact this
  have h5 : s 110 5 = 0 := h.1
  unfold gX11_runsEndless
  rw [wr_eq, hcl, cl_some, wr_eq]
  have c1 : gX11_calls (wt_u (wt_u (wt_u (wt_uf (wt_u s 110 5 1) 111 (vck (s 111) 6 0)) 111 (3989 + 6) (-1)) 111 (3975 + 6) (-1)) 111 3932 1) 6 (nI f') 0 (-1) a = some ((), s4) := c1
  have d1 : gX11_runsEndless_38 wt_N s4 (s 110 5) 0 = gX11_runsEndless_67 s5 (s 110 5) := d1
  rw [c1, cl_some, d1, h5]
  unfold gX11_runsEndless_67 wt_rz
  rw [if_pos (Or.inl rfl), wr_eq]
  have hst : ∀ X, (wt_u s5 110 5 0) 111 X = s5 111 X := fun X => by rw [wt_u_ne (by omega)]
  have hfin : RR (s5 111) V → RG s s5 → RS (wt_u s5 110 5 0) V ∧ RF s (wt_u s5 110 5 0) := fun g1 g2 => by
    refine ⟨⟨wt_u_self, by rw [wt_u_ne (by omega)]; exact g1⟩, ⟨fun c hc => (wt_u_ne (by omega)).trans (g2.1 c hc), (wt_u_ne (by omega)).trans g2.2.1, (wt_u_ne (by omega)).trans g2.2.2.1, ?_, ?_⟩⟩
    · rw [wt_u_nk (by omega)]; exact g2.2.2.2
    · rw [wt_u_self, h5]
  cases hr2 : eend V.1 (nI f') a with
  | none =>
    rw [hr2] at d2
    obtain ⟨g1, g2, g3, g4⟩ := d2
    obtain ⟨r1, r2⟩ := hfin g2 g3
    refine ⟨_, ?_, r1, r2, fun r e => by cases e⟩
    rw [if_pos (by rw [hst]; show s5 111 (3926 + 6) ≠ 3; rw [g4]; decide), rb_neg (by simp)]
  | some r =>
    rw [hr2] at d2
    obtain ⟨g1, g2, g3, g4, g5, g6, g7⟩ := d2
    obtain ⟨r1, r2⟩ := hfin g2 g3
    refine ⟨_, ?_, r1, r2, fun r' e => ?_⟩
    · rw [if_neg (by rw [hst]; show ¬ s5 111 (3926 + 6) ≠ 3; rw [g4]; simp), rb_pos (by simp)]
    · cases e
      rw [hst, hst, hst]
      exact ⟨g5, g6, g7⟩
end
theorem hd_all : HD gX11_runsEndless vZ := by
  refine ⟨fun s V f a h hp hr hf => ?_, fun w w' f a v _ hpe => ?_⟩
  · obtain ⟨s', e1, e2, e3, e4⟩ := e_run (a := a) h hp hr hf
    refine ⟨_, s', e1, e2, e3, fun v => ?_⟩
    unfold vZ
    cases hr2 : eend V.1 f a with
    | none =>
      rw [rb_neg (by simp)]
      simp
    | some r =>
      have := (e4 r hr2).1
      rw [rb_pos (by simp), show (3946 : Nat) = 3940 + 6 from rfl, this]
      simp
  · unfold vZ eend
    rw [ecw_eq hpe]
