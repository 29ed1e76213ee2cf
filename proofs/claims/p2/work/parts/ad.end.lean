/-! ===== the class: a task ends ===== -/
/-- a task without its stack -/
def dst (f : Nat → Int32) : Nat → Int32 := fun j => if j = 4 ∨ j = 5 ∨ j = 8 then 0 else if j = 7 ∨ (9 ≤ j ∧ j ≤ 13) then -1 else f j
section
variable {b lim : Nat} {s s' : wt_S} {V V' : vV} {zs zs' : List (vP × Nat)} {fr fr' : List Nat} {t np z need : Nat}
theorem c_drop {T : Nat} : ∃ s', gX7_dropStack T s = some ((), s') ∧ (∀ c, c ≠ T → s' c = s c) ∧ s' T = dst (s T) := by
  unfold gX7_dropStack
  refine ⟨_, rfl, fun c hc => ?_, ?_⟩
  · rw [wt_u_ne hc, wt_u_ne hc, wt_u_ne hc, wt_u_ne hc, wt_u_ne hc, wt_u_ne hc, wt_u_ne hc, wt_u_ne hc, wt_u_ne hc]
  · rw [wt_u_at, wt_u_at, wt_u_at, wt_u_at, wt_u_at, wt_u_at, wt_u_at, wt_u_at, wt_u_at]
    funext j
    unfold dst
    by_cases c1 : j = 13
    · subst c1; rw [mj_upd_self]; rfl
    rw [mj_upd_ne c1]
    by_cases c2 : j = 12
    · subst c2; rw [mj_upd_self]; rfl
    rw [mj_upd_ne c2]
    by_cases c3 : j = 11
    · subst c3; rw [mj_upd_self]; rfl
    rw [mj_upd_ne c3]
    by_cases c4 : j = 10
    · subst c4; rw [mj_upd_self]; rfl
    rw [mj_upd_ne c4]
    by_cases c5 : j = 9
    · subst c5; rw [mj_upd_self]; rfl
    rw [mj_upd_ne c5]
    by_cases c6 : j = 8
    · subst c6; rw [mj_upd_self]; rfl
    rw [mj_upd_ne c6]
    by_cases c7 : j = 7
    · subst c7; rw [mj_upd_self]; rfl
    rw [mj_upd_ne c7]
    by_cases c8 : j = 5
    · subst c8; rw [mj_upd_self]; rfl
    rw [mj_upd_ne c8]
    by_cases c9 : j = 4
    · subst c9; rw [mj_upd_self]; rfl
    rw [mj_upd_ne c9, if_neg (by omega), if_neg (by omega)]
theorem vga_i {i : Nat} (hsd : V.1 (3989 + t) = -1 ∨ ∃ k, k < 3 ∧ V.1 (3989 + t) = nI k) : (3926 ≤ i → (vga V t).1 i = if i = 3975 + t ∨ i = 3989 + t then -1 else if i = 3961 + t ∨ i = 3954 + t ∨ i = 4066 + t ∨ i = 3996 + t then 0 else V.1 i) ∧ (i < 3923 → (vga V t).1 i = V.1 i) := by
  have hbase : i < 3923 ∨ 3926 ≤ i → (if V.1 (3989 + t) = -1 then V.1 else mj_upd V.1 (3923 + (V.1 (3989 + t)).toInt.toNat) (-1)) i = V.1 i := fun hi => by
    rcases hsd with e | ⟨k, hk, e⟩
    · rw [if_pos e]
    · rw [if_neg (by rw [e]; exact nI_m1 (by omega)), e, nI_int (by omega), mj_upd_ne (by omega)]
  constructor
  · intro hi
    rw [vga_1]
    by_cases c1 : i = 3975 + t
    · rw [c1, mj_upd_self, if_pos (Or.inl rfl)]
    rw [mj_upd_ne c1]
    by_cases c2 : i = 3961 + t
    · rw [c2, mj_upd_self, if_neg (by omega), if_pos (by omega)]
    rw [mj_upd_ne c2]
    by_cases c3 : i = 3954 + t
    · rw [c3, mj_upd_self, if_neg (by omega), if_pos (by omega)]
    rw [mj_upd_ne c3]
    by_cases c4 : i = 4066 + t
    · rw [c4, mj_upd_self, if_neg (by omega), if_pos (by omega)]
    rw [mj_upd_ne c4]
    by_cases c5 : i = 3996 + t
    · rw [c5, mj_upd_self, if_neg (by omega), if_pos (by omega)]
    rw [mj_upd_ne c5]
    by_cases c6 : i = 3989 + t
    · rw [c6, mj_upd_self, if_pos (by omega)]
    rw [mj_upd_ne c6, hbase (Or.inr hi), if_neg (by omega), if_neg (by omega)]
  · intro hi
    rw [vga_1, mj_upd_ne (by omega), mj_upd_ne (by omega), mj_upd_ne (by omega), mj_upd_ne (by omega), mj_upd_ne (by omega), mj_upd_ne (by omega), hbase (Or.inl hi)]
theorem ot_ga0 (ht : t < 6) (hsd : V.1 (3989 + t) = -1 ∨ ∃ k, k < 3 ∧ V.1 (3989 + t) = nI k ∧ V.1 (3923 + k) = nI t) : OT t V (vga V t) := by
  have hsd' : V.1 (3989 + t) = -1 ∨ ∃ k, k < 3 ∧ V.1 (3989 + t) = nI k := by
    rcases hsd with e | ⟨k, e1, e2, -⟩
    · exact Or.inl e
    · exact Or.inr ⟨k, e1, e2⟩
  refine ⟨fun i hi => (vga_i hsd').2 (by omega), fun i h1 h2 => (vga_i hsd').2 (by omega), fun t' ht' hne => ⟨fun j hj => ?_, ?_, ?_⟩, fun q hq => ?_, fun t' n hne => ?_, fun k hk t' ht' hne => ?_⟩
  · rw [(vga_i hsd').1 (by omega), if_neg (by omega), if_neg (by omega)]
  · rw [vga_2]; exact mj_upd_ne hne
  · rw [vga_2]
  · rw [vga_2, List.mem_filter]
    simp [hq]
  · rw [vga_2]
    refine vfind_filter (fun q hq hk => ?_)
    have hk : q.2.2.1 = t' ∧ q.2.2.2 = n := by simpa [vkey] using hk
    rw [decide_eq_true_eq]; omega
  · rw [vga_1, mj_upd_ne (by omega), mj_upd_ne (by omega), mj_upd_ne (by omega), mj_upd_ne (by omega), mj_upd_ne (by omega), mj_upd_ne (by omega)]
    rcases hsd with e | ⟨k', e1, e2, e3⟩
    · rw [if_pos e]
    · rw [if_neg (by rw [e2]; exact nI_m1 (by omega)), e2, nI_int (by omega), Int.toNat_natCast]
      by_cases c : k = k'
      · subst c
        rw [mj_upd_self, e3]
        constructor
        · intro h
          exact absurd h.symm (nI_m1 (by omega))
        · intro h
          have := (nI_inj (by omega) (by omega)).mp h
          omega
      · rw [mj_upd_ne (by omega)]
end
