/-! ===== what is told: set, function, line ===== -/
def vab (V : vV) : Nat → Nat → Bool
  | 0, _ => false
  | r + 1, t => vby V t || vab V r (t + 1)
theorem vab_f {V : vV} : ∀ {r t : Nat}, vab V r t = false → ∀ j, t ≤ j → j < t + r → vby V j = false := by
  intro r
  induction r with
  | zero => intro t _ j h1 h2; omega
  | succ r ih =>
    intro t h j h1 h2
    unfold vab at h
    rw [Bool.or_eq_false_iff] at h
    by_cases e : j = t
    · subst e; exact h.1
    · exact ih h.2 j (by omega) (by omega)
section
variable {s : wt_S} {V : vV} {B : Nat}
theorem q_anyBusy (h : RS s V) : gX11_isAnyBusy s = some (rb (vab V 6 0 = true), s) := by
  have loop : ∀ (r t fu : Nat), t + r = 6 → r < fu → gX11_isAnyBusy_2 fu s (nI t) = some (rb (vab V r t = true), s) := by
    intro r
    induction r with
    | zero =>
      intro t fu ht hfu
      obtain ⟨fu, rfl⟩ : ∃ m, fu = m + 1 := ⟨fu - 1, by omega⟩
      rw [gX11_isAnyBusy_2, nI_int (by omega), if_pos (by show (6 : Int) ≤ _; omega), rb_neg (by simp [vab])]
    | succ r ih =>
      intro t fu ht hfu
      obtain ⟨fu, rfl⟩ : ∃ m, fu = m + 1 := ⟨fu - 1, by omega⟩
      rw [gX11_isAnyBusy_2, nI_int (by omega), if_neg (by show ¬ (6 : Int) ≤ _; omega), q_busy h (by omega), cl_some, if_rb, nI_1, ih (t + 1) fu (by omega) (by omega)]
      by_cases c : vby V t = true
      · rw [if_pos c, rb_pos (by unfold vab; rw [c]; rfl)]
      · rw [if_neg c]
        have : vab V (r + 1) t = vab V r (t + 1) := by
          rw [vab]
          rw [show vby V t = false by simpa using c]
          rfl
        rw [this]
  exact loop 6 0 wt_N (by omega) (by unfold wt_N; omega)
/-- nobody is busy: no piece, no frame -/
theorem VI.non (hI : VI 2048 B V) (hn : vab V 6 0 = false) : V.2.1 = [] ∧ ∀ t, t < 6 → V.2.2.1 t = 0 ∧ Iid V t := by
  have hid : ∀ t, t < 6 → Iid V t := fun t ht => hI.idle ht (vab_f hn t (by omega) (by omega))
  refine ⟨?_, fun t ht => ⟨(hid t ht).1, hid t ht⟩⟩
  cases e : V.2.1 with
  | nil => rfl
  | cons q ps =>
    exfalso
    have hq : q ∈ V.2.1 := by rw [e]; exact List.mem_cons_self ..
    exact (hid q.2.2.1 (hI.2.2.1.1.2 q hq).2.2.1).2.2.2.2.2.2.2.2 q hq rfl
theorem VI.re {w' : Nat → Int32} (hI : VI 2048 B V) (hn : vab V 6 0 = false) (h1 : Ise 2048 w') (h2 : Ipr w') (h3 : ∀ i, 2054 ≤ i → (i < 2228 ∨ 2898 ≤ i) → w' i = V.1 i) : VI 2048 B (w', V.2) := by
  obtain ⟨n1, n2⟩ := hI.non hn
  refine ⟨h1, h2, ⟨hI.2.2.1.1, hI.2.2.1.2.1, ?_⟩, fun k hk => ?_, ?_, fun t ht => Or.inr ?_⟩
  · show ∀ q ∈ V.2.1, _
    rw [n1]
    intro q hq
    cases hq
  · show w' (3923 + k) = -1 ∨ ∃ t, t < 6 ∧ w' (3923 + k) = nI t ∧ w' (3989 + t) = nI k
    rw [h3 _ (by omega) (by omega)]
    rcases hI.2.2.2.1 k hk with e | ⟨t, a1, a2, a3⟩
    · exact Or.inl e
    · exact Or.inr ⟨t, a1, a2, (h3 _ (by omega) (by omega)).trans a3⟩
  · obtain ⟨k, k1, k2⟩ := hI.2.2.2.2.1
    exact ⟨k, k1, (h3 _ (by omega) (by omega)).trans k2⟩
  · obtain ⟨c1, c2, c3, c4, c5, c6, c7, c8, c9⟩ := (n2 t ht).2
    refine ⟨c1, (h3 _ (by omega) (by omega)).trans c2, (h3 _ (by omega) (by omega)).trans c3, (h3 _ (by omega) (by omega)).trans c4, (h3 _ (by omega) (by omega)).trans c5, (h3 _ (by omega) (by omega)).trans c6, (h3 _ (by omega) (by omega)).trans c7, ?_, c9⟩
    show w' (3926 + t) = 0 ∨ w' (3926 + t) = 3 ∨ w' (3926 + t) = 4
    rw [h3 _ (by omega) (by omega)]
    exact c8
theorem RS.u0 {i : Nat} {v : Int32} (h : RS s V) (hn : ∀ t, t < 6 → V.2.2.1 t = 0) (hi : vtr i) : RS (wt_u s 111 i v) (vs V i v) := by
  have ho := vtr_out hi
  refine h.uf (h.2.mk' (fun j hj => ?_) (vr_P_upd ho.1 h.2.2.1) (fun p hp => mj_upd_ne (by omega)) (fun mm _ t ht j hj => ?_))
  · by_cases e : j = i
    · subst e
      show mj_upd (s 111) j v j = mj_upd V.1 j v j
      rw [mj_upd_self, mj_upd_self]
    · show mj_upd (s 111) i v j = mj_upd V.1 i v j
      rw [mj_upd_ne e, mj_upd_ne e]
      exact h.2.at hj
  · have hj : j < V.2.2.1 t := hj
    rw [hn t ht] at hj
    omega
theorem q_canBe0 {v : Int32} : gX11_canBe s (nI 0) v = some (rb ((8 : Int32).toInt ≤ v.toInt ∧ v.toInt ≤ (64 : Int32).toInt), s) := by unfold gX11_canBe; rw [if_neg (by decide), if_pos (by decide), q_isIn, cl_some, rz_rb]
theorem q_canBe1 {v : Int32} : gX11_canBe s (nI 1) v = some (rb ((0 : Int32).toInt ≤ v.toInt ∧ v.toInt ≤ (1 : Int32).toInt), s) := by unfold gX11_canBe; rw [if_neg (by decide), if_neg (by decide), if_pos (by decide), q_isIn, cl_some, rz_rb]
theorem q_canBe2 {v : Int32} : gX11_canBe s (nI 2) v = some (rb ((0 : Int32).toInt ≤ v.toInt ∧ v.toInt ≤ (1 : Int32).toInt), s) := by unfold gX11_canBe; rw [if_neg (by decide), if_neg (by decide), if_neg (by decide), if_pos (by decide), q_isIn, cl_some, rz_rb]
theorem q_canBe3 {v : Int32} : gX11_canBe s (nI 3) v = some (rb ((10 : Int32).toInt ≤ v.toInt ∧ v.toInt ≤ (80 : Int32).toInt), s) := by unfold gX11_canBe; rw [if_neg (by decide), if_neg (by decide), if_neg (by decide), if_neg (by decide), if_pos (by decide), q_isIn, cl_some, rz_rb]
theorem q_canBe4 {v : Int32} : gX11_canBe s (nI 4) v = some (rb ((1 : Int32).toInt ≤ v.toInt ∧ v.toInt ≤ (3 : Int32).toInt), s) := by unfold gX11_canBe; rw [if_neg (by decide), if_neg (by decide), if_neg (by decide), if_neg (by decide), if_neg (by decide), if_pos (by decide), q_isIn, cl_some, rz_rb]
theorem q_canBe5 {v : Int32} : gX11_canBe s (nI 5) v = some (rb ((10 : Int32).toInt ≤ v.toInt ∧ v.toInt ≤ (90 : Int32).toInt), s) := by unfold gX11_canBe; rw [if_neg (by decide), if_neg (by decide), if_neg (by decide), if_neg (by decide), if_neg (by decide), if_neg (by decide), if_pos (by decide), q_isIn, cl_some, rz_rb]
/-- what a setting can be: least, most -/
def vlo (k : Nat) : Int := if k = 0 then 8 else if k = 3 ∨ k = 5 then 10 else if k = 4 then 1 else 0
def vhi (k : Nat) : Int := if k = 0 then 64 else if k = 3 then 80 else if k = 5 then 90 else if k = 4 then 3 else 1
def vset (V : vV) (x v : Int32) : Int32 × vV := if (0 ≤ x.toInt ∧ x.toInt ≤ 5) ∧ (vlo x.toInt.toNat ≤ v.toInt ∧ v.toInt ≤ vhi x.toInt.toNat) ∧ vab V 6 0 = false then (1, vs V (2048 + x.toInt.toNat) v) else (0, V)
theorem q_canBe {k : Nat} {v : Int32} (hk : k < 6) : gX11_canBe s (nI k) v = some (rb (vlo k ≤ v.toInt ∧ v.toInt ≤ vhi k), s) := by
  have : k = 0 ∨ k = 1 ∨ k = 2 ∨ k = 3 ∨ k = 4 ∨ k = 5 := by omega
  rcases this with rfl | rfl | rfl | rfl | rfl | rfl
  · exact q_canBe0
  · exact q_canBe1
  · exact q_canBe2
  · exact q_canBe3
  · exact q_canBe4
  · exact q_canBe5
theorem q_set {x v : Int32} (h : RS s V) (hI : VI 2048 B V) : ∃ s', gX11_set s x v = some ((vset V x v).1, s') ∧ RS s' (vset V x v).2 ∧ RF s s' ∧ VI 2048 B (vset V x v).2 := by
  unfold gX11_set
  by_cases c1 : 0 ≤ x.toInt ∧ x.toInt ≤ 5
  · obtain ⟨k, hk, rfl, ek⟩ := i_task c1
    rw [q_canBe hk, cl_some, if_rb]
    by_cases c2 : vlo k ≤ v.toInt ∧ v.toInt ≤ vhi k
    · rw [if_pos c2, q_anyBusy h, cl_some, if_rb]
      by_cases c3 : vab V 6 0 = true
      · have hv : vset V (nI k) v = (0, V) := by unfold vset; rw [if_neg (fun e => by have := e.2.2; rw [c3] at this; cases this)]
        rw [if_pos c3, hv]
        exact ⟨s, rfl, h, RF.refl, hI⟩
      · have c3' : vab V 6 0 = false := by simpa using c3
        have hv : vset V (nI k) v = (1, vs V (2048 + k) v) := by unfold vset; rw [ek, if_pos ⟨c1, c2, c3'⟩]
        obtain ⟨n1, n2⟩ := hI.non c3'
        rw [if_neg c3, hv, li_add, ix_nI (by omega) (by omega), wr_eq]
        refine ⟨_, rfl, h.u0 (fun t ht => (n2 t ht).1) (Or.inl (by omega)), RF.uf (Or.inl rfl), hI.re c3' ?_ ?_ (fun i h1 h2 => mj_upd_ne (by omega))⟩
        · obtain ⟨i1, i2, i3, i4, i5, i6⟩ := hI.1
          unfold Ise
          have : k = 0 ∨ k = 1 ∨ k = 2 ∨ k = 3 ∨ k = 4 ∨ k = 5 := by omega
          rcases this with rfl | rfl | rfl | rfl | rfl | rfl
          · have h1 : (8 : Int) ≤ v.toInt := c2.1
            have h2 : v.toInt ≤ 64 := c2.2
            obtain ⟨n, a1, a2, a3, a4⟩ := i_nat (x := v) (by omega)
            rw [mj_upd_self, mj_upd_ne (by omega), mj_upd_ne (by omega), mj_upd_ne (by omega), mj_upd_ne (by omega), mj_upd_ne (by omega)]
            exact ⟨⟨n, a2, by omega, by omega, by omega⟩, i2, i3, i4, i5, i6⟩
          · have h1 : (0 : Int) ≤ v.toInt := c2.1
            have h2 : v.toInt ≤ 1 := c2.2
            obtain ⟨n, a1, a2, a3, a4⟩ := i_nat (x := v) (by omega)
            have hn : n = 0 ∨ n = 1 := by omega
            rw [mj_upd_ne (by omega), mj_upd_self, mj_upd_ne (by omega), mj_upd_ne (by omega), mj_upd_ne (by omega), mj_upd_ne (by omega), a2]
            exact ⟨i1, by rcases hn with rfl | rfl; exact Or.inl rfl; exact Or.inr rfl, i3, i4, i5, i6⟩
          · have h1 : (0 : Int) ≤ v.toInt := c2.1
            have h2 : v.toInt ≤ 1 := c2.2
            obtain ⟨n, a1, a2, a3, a4⟩ := i_nat (x := v) (by omega)
            have hn : n = 0 ∨ n = 1 := by omega
            rw [mj_upd_ne (by omega), mj_upd_ne (by omega), mj_upd_self, mj_upd_ne (by omega), mj_upd_ne (by omega), mj_upd_ne (by omega), a2]
            exact ⟨i1, i2, by rcases hn with rfl | rfl; exact Or.inl rfl; exact Or.inr rfl, i4, i5, i6⟩
          · have h1 : (10 : Int) ≤ v.toInt := c2.1
            have h2 : v.toInt ≤ 80 := c2.2
            obtain ⟨n, a1, a2, a3, a4⟩ := i_nat (x := v) (by omega)
            rw [mj_upd_ne (by omega), mj_upd_ne (by omega), mj_upd_ne (by omega), mj_upd_self, mj_upd_ne (by omega), mj_upd_ne (by omega)]
            exact ⟨i1, i2, i3, ⟨n, a2, by omega, by omega⟩, i5, i6⟩
          · have h1 : (1 : Int) ≤ v.toInt := c2.1
            have h2 : v.toInt ≤ 3 := c2.2
            obtain ⟨n, a1, a2, a3, a4⟩ := i_nat (x := v) (by omega)
            rw [mj_upd_ne (by omega), mj_upd_ne (by omega), mj_upd_ne (by omega), mj_upd_ne (by omega), mj_upd_self, mj_upd_ne (by omega)]
            exact ⟨i1, i2, i3, i4, ⟨n, a2, by omega, by omega⟩, i6⟩
          · have h1 : (10 : Int) ≤ v.toInt := c2.1
            have h2 : v.toInt ≤ 90 := c2.2
            obtain ⟨n, a1, a2, a3, a4⟩ := i_nat (x := v) (by omega)
            rw [mj_upd_ne (by omega), mj_upd_ne (by omega), mj_upd_ne (by omega), mj_upd_ne (by omega), mj_upd_ne (by omega), mj_upd_self]
            exact ⟨i1, i2, i3, i4, i5, ⟨n, a2, by omega⟩⟩
        · intro f hf
          obtain ⟨p1, p2, p3⟩ := hI.2.1 f hf
          have e : ∀ i, 2228 ≤ i → mj_upd V.1 (2048 + k) v i = V.1 i := fun i hi => mj_upd_ne (by omega)
          have el : vli (mj_upd V.1 (2048 + k) v) f = vli V.1 f := by unfold vli; rw [e _ (by omega)]
          refine ⟨by rw [e _ (by omega)]; exact p1, by rw [e _ (by omega)]; exact p2, fun l hl => ?_⟩
          rw [el] at hl
          have := p3 l hl
          unfold vlin vcan vnum vptr vslt vsz at this ⊢
          have e0 := e (vco f l) (by unfold vco; omega)
          have e1 := e (vco f l + 1) (by unfold vco; omega)
          have e2 := e (vco f l + 2) (by unfold vco; omega)
          have e3 := e (vco f l + 3) (by unfold vco; omega)
          rw [e0, e1, e2, e3, e (2228 + f) (by omega), e (2238 + f) (by omega)]
          exact this
    · have hv : vset V (nI k) v = (0, V) := by unfold vset; rw [ek, if_neg (fun e => c2 e.2.1)]
      rw [if_neg c2, hv]
      exact ⟨s, rfl, h, RF.refl, hI⟩
  · have hv : vset V x v = (0, V) := by unfold vset; rw [if_neg (fun e => c1 e.1)]
    have : gX11_canBe s x v = some (0, s) := by
      unfold gX11_canBe
      rw [if_pos (by omega)]
    rw [this, cl_some, if_pos rfl, hv]
    exact ⟨s, rfl, h, RF.refl, hI⟩
end
