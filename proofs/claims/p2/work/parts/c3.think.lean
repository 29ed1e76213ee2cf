/-! ===== the class: on an endless stack, in thought ===== -/
theorem ix_0 {α : Type} {n : Nat} {F : Nat → Option α} (h : 0 < n) (hn : n ≤ 100000) : wt_ix 0 n F = F 0 := ix_nI (k := 0) h hn
/-- what always is: what can be set, what is set at first -/
def vAt (j : Nat) : Int32 := if j = 0 then 16 else if j = 3 then 40 else if j = 5 then 60 else 1
def KC (s : wt_S) : Prop := ∀ j, j < 6 → (s 1 j).toInt = vlo j ∧ (s 2 j).toInt = vhi j ∧ s 3 j = vAt j
def TN (s : wt_S) : Prop := ∀ k, k < 6 → s (40 + 17 + 2 * k) 0 = nI k
/-- only what is now and what is thought changes -/
def NF (s s' : wt_S) : Prop := ∀ c, c < 11 ∨ 68 < c → s' c = s c
theorem NF.refl {s : wt_S} : NF s s := fun _ _ => rfl
theorem NF.trans {s s1 s2 : wt_S} (h : NF s s1) (h' : NF s1 s2) : NF s s2 := fun c hc => (h' c hc).trans (h c hc)
theorem CF.n1 {s s' : wt_S} (h : CF 11 s s') : NF s s' := fun c hc => h c (by omega)
theorem CF.n4 {s s' : wt_S} (h : CF 40 s s') : NF s s' := fun c hc => h c (by omega)
theorem cx11 : CX 11 2048 := ⟨Or.inl rfl, by unfold wt_mz; decide, by omega⟩
theorem cx40 {lim : Nat} (h : lim ≤ 10000) : CX 40 lim := ⟨Or.inr rfl, by unfold wt_mz; rw [if_pos rfl]; exact h, h⟩
/-- so many steps, as long as it is busy -/
def vrl (lim : Nat) (Z : (Nat → Int32) → Int32 → Int32 → Int32 → Bool) (t : Nat) : Nat → vV → vV
  | 0, V => V
  | n + 1, V => if vby V t then vrl lim Z t n (vst lim Z V t) else V
section
variable {b lim B : Nat} {s s' : wt_S} {V V' : vV} {zs zs' : List (vP × Nat)} {fr fr' : List Nat} {t f : Nat} {a : Int32} {W : Nat → Int32} {Z : (Nat → Int32) → Int32 → Int32 → Int32 → Bool}
theorem c_on (h : RC b lim s V zs fr) (ht : t < 6) : gX7_on (b + 17 + 2 * t) s = some (rb (vby V t = true), s) := by
  have e : s (b + 17 + 2 * t) 1 = V.1 (3926 + t) := h.at ht (e := (1, 3926)) (by decide)
  unfold gX7_on
  rw [e]
  by_cases c1 : V.1 (3926 + t) = 1
  · rw [if_pos c1, rb_pos (vby_iff.mpr (Or.inl c1))]
  · rw [if_neg c1]
    by_cases c2 : V.1 (3926 + t) = 2
    · rw [if_neg (fun q => q c2), rb_pos (vby_iff.mpr (Or.inr c2))]
    · rw [if_pos c2, rb_neg (fun q => by rcases vby_iff.mp q with e | e; exact c1 e; exact c2 e)]
/-- what RC looks at has not changed: the world's own row may -/
theorem RC.eq2 (h : RC b lim s V zs fr) (hx : CX b lim) (he : ∀ c, c ≠ b → c ≠ b + 11 → c ≠ b + 12 → c ≠ b + 9 → c ≠ b + 16 → c < b + 29 → s' c = s c) : RC b lim s' V zs fr := by
  have hb := hx.b
  obtain ⟨h1, h2, ⟨h3, h3'⟩, h4, h5, ⟨h6, h6'⟩⟩ := h
  refine ⟨h1, h2.eq (fun c hc => he c (by omega) (by omega) (by omega) (by omega) (by omega) (by omega)), ⟨?_, ?_⟩, fun k hk => ?_, ?_, ?_, ?_⟩
  · rw [he _ (by omega) (by omega) (by omega) (by omega) (by omega) (by omega)]; exact h3
  · rw [he _ (by omega) (by omega) (by omega) (by omega) (by omega) (by omega)]; exact h3'
  · have := h4 k hk
    unfold RCk Ks Kl Ka Kr Kg Kz at this ⊢
    rw [he (b + 17 + 2 * k) (by omega) (by omega) (by omega) (by omega) (by omega) (by omega), he (b + 17 + 2 * k + 1) (by omega) (by omega) (by omega) (by omega) (by omega) (by omega), he (b + 5) (by omega) (by omega) (by omega) (by omega) (by omega) (by omega), he (b + 6) (by omega) (by omega) (by omega) (by omega) (by omega) (by omega)]
    exact this
  · rw [he _ (by omega) (by omega) (by omega) (by omega) (by omega) (by omega)]; exact h5
  · rw [he (5 + 1) (by omega) (by omega) (by omega) (by omega) (by omega) (by omega), he (5 + 2) (by omega) (by omega) (by omega) (by omega) (by omega) (by omega), he (5 + 3) (by omega) (by omega) (by omega) (by omega) (by omega) (by omega), he (5 + 5) (by omega) (by omega) (by omega) (by omega) (by omega) (by omega)]; exact h6
  · rw [he (5 + 4) (by omega) (by omega) (by omega) (by omega) (by omega) (by omega)]; exact h6'
theorem c_69 (hx : CX 40 lim) : ∀ (m k fu B : Nat) (s : wt_S) (V : vV) (zs : List (vP × Nat)) (fr : List Nat), k + m = 2000 → m < fu → RC 40 lim s V zs fr → VI lim B V → WL V 0 → ∃ s' zs' fr', gX10_thinkEndless_69 fu s (40 + 17 + 2 * 0) (nI k) = some (40 + 17 + 2 * 0, s') ∧ RC 40 lim s' (vrl lim Z 0 m V) zs' fr' ∧ VI lim (B + 4 * m) (vrl lim Z 0 m V) ∧ TO 40 0 s s' := by
  intro m
  induction m with
  | zero =>
    intro k fu B s V zs fr hk hfu h hI hW
    obtain ⟨fu, rfl⟩ : ∃ k, fu = k + 1 := ⟨fu - 1, by omega⟩
    refine ⟨s, zs, fr, ?_, h, hI, TO.refl⟩
    rw [gX10_thinkEndless_69, if_pos (by rw [nI_int (by omega)]; show (2000 : Int) ≤ _; omega)]
    rfl
  | succ m ih =>
    intro k fu B s V zs fr hk hfu h hI hW
    obtain ⟨fu, rfl⟩ : ∃ k, fu = k + 1 := ⟨fu - 1, by omega⟩
    rw [gX10_thinkEndless_69, if_neg (by rw [nI_int (by omega)]; show ¬ (2000 : Int) ≤ _; omega), c_on h (by omega), cl_some, if_rb, vrl]
    by_cases c : vby V 0 = true
    · rw [if_pos c, if_pos c]
      have hb := vby_iff.mp c
      obtain ⟨s1, zs1, fr1, a1, a2, a3⟩ := c_step (Z := Z) h hx hI (by omega) hb hW
      obtain ⟨s', zs', fr', b1, b2, b3, b4⟩ := ih (k + 1) fu (B + 4) s1 (vst lim Z V 0) zs1 fr1 (by omega) (by omega) a2 (vi_st hI (by omega) hb hx.2.2) (wl_st hI (by omega) hb hW hx.2.2)
      rw [a1, cl_some, show nI k + 1 = nI (k + 1) from nI_add k 1]
      exact ⟨s', zs', fr', b1, b2, b3.mono (by omega), a3.trans b4⟩
    · rw [if_neg c, if_neg c]
      exact ⟨s, zs, fr, rfl, h, hI.mono (by omega), TO.refl⟩
/-- what is set for an endless stack -/
def vEA (j : Nat) : Int32 := if j = 0 then 10000 else if j = 2 then 0 else if j = 5 then 1000000 else vAt j
theorem ise_en : Ise 10000 (vnw vEA W).1 := by
  refine ⟨⟨10000, ?_, by omega, by omega, by omega⟩, Or.inr ?_, Or.inl ?_, ⟨40, ?_, by omega, by omega⟩, ⟨1, ?_, by omega, by omega⟩, ⟨1000000, ?_, by omega⟩⟩
  · exact (vnw_se (i := 0) (by omega)).trans (by decide)
  · exact (vnw_se (i := 1) (by omega)).trans (by decide)
  · exact (vnw_se (i := 2) (by omega)).trans (by decide)
  · exact (vnw_se (i := 3) (by omega)).trans (by decide)
  · exact (vnw_se (i := 4) (by omega)).trans (by decide)
  · exact (vnw_se (i := 5) (by omega)).trans (by decide)
def vET (Z : (Nat → Int32) → Int32 → Int32 → Int32 → Bool) (W : Nat → Int32) (f : Nat) (a : Int32) : vV := vrl 10000 Z 0 2000 (vbg 10000 (vnw vEA W) 0 f a 0).2
theorem c_think (hR : RP 5 s W) (hp : Ipr W) (hK : KC s) (hT : TN s) (hf : f < 10) (hs1 : 1 ≤ vsz W f) : ∃ s' zs' fr', gX10_thinkEndless s (nI f) a = some (57, s') ∧ RC 40 10000 s' (vET Z W f a) zs' fr' ∧ VI 10000 8003 (vET Z W f a) ∧ (∀ c, c < 40 ∨ 68 < c → s' c = s c) ∧ TN s' := by
  obtain ⟨s1, a1, a2, a3, a4, a5, a6, a7, a8⟩ := c_clr9 (b := 40) (s := s) (lim := 10000) (Or.inr rfl)
  have a1 : gX9_clear 40 s 10000 = some ((), s1) := a1
  unfold gX10_thinkEndless
  rw [a1, cl_some, wr_eq, wr_eq, wr_eq, ix_0 (by omega) (by omega)]
  generalize hS : wt_u (wt_u (wt_u s1 41 0 10000) 41 2 0) 41 5 1000000 = s4
  have f4 : ∀ c, c ≠ 41 → s4 c = s1 c := fun c hc => by rw [← hS, wt_u_ne hc, wt_u_ne hc, wt_u_ne hc]
  have e4 : ∀ j, j < 6 → s4 (40 + 1) j = vEA j := fun j hj => by
    have hk := (hK j hj).2.2
    have h4 := a4 j hj
    rw [hk] at h4
    rw [← hS]
    unfold vEA
    by_cases c5 : j = 5
    · subst c5; rw [wt_u_self]; rfl
    rw [wt_u_nk c5]
    by_cases c2 : j = 2
    · subst c2; rw [wt_u_self]; rfl
    rw [wt_u_nk c2]
    by_cases c0 : j = 0
    · subst c0; rw [wt_u_self]; rfl
    rw [wt_u_nk c0, if_neg c0, if_neg c2, if_neg c5]
    exact h4
  have hR4 : RP 5 s4 W := hR.eq hp vpe.refl (fun c c1 c2 => by rw [f4 c (by omega), a2 c (by omega)])
  have hF := RC.fresh (b := 40) (lim := 10000) (s := s4) (s0 := s) (A := vEA) (W := W) (by omega) (a3.eq (fun c hc => f4 c (by omega))) e4 (fun j hj => by rw [f4 _ (by omega)]; exact a5 j hj) (fun k hk => by rw [f4 _ (by omega)]; exact a6 k hk) hT (fun k hk j hj => by rw [f4 _ (by omega)]; exact a7 k hk j hj) hR4 hp
  have hx := cx40 (lim := 10000) (Nat.le_refl _)
  have hI0 : VI 10000 0 (vnw vEA W) := vi_nw hp ise_en
  have hs1' : 1 ≤ vsz (vnw vEA W).1 f := by rw [(vnw_pp.sz hf).1]; exact hs1
  obtain ⟨s6, zs6, fr6, b1, b2, b3⟩ := c_begin (t := 0) (a := a) (mode := 0) hF hx hI0 (by omega) (nw_id (by omega)) hf hs1' (Or.inl rfl)
  rw [b1, cl_some]
  obtain ⟨s', zs', fr', d1, d2, d3, d4⟩ := c_69 (Z := Z) hx 2000 0 wt_N 3 s6 _ zs6 fr6 (by omega) (by unfold wt_N; omega) b2 (vi_bg hI0 (by omega) (by omega) (nw_id (by omega)) hf hs1' (Or.inl rfl)) (wl_bg hI0 (by omega) (by omega) (nw_id (by omega)) hf hs1' (Or.inl rfl))
  refine ⟨s', zs', fr', d1, d2, d3.mono (by omega), fun c hc => ?_, fun k hk => (d2.2.2.2.1 k hk).1.1⟩
  rw [d4.2 c (by omega), b3.2 c (by omega), f4 c (by omega), a2 c (by omega)]
end
