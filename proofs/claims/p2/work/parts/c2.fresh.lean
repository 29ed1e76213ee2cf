/-! ===== the class: a world is cleared ===== -/
/-- nothing yet but the program: A what is set, W the program -/
def vnw (A W : Nat → Int32) : vV := ((fun i => if 2048 ≤ i ∧ i ≤ 2053 then A (i - 2048) else if 2228 ≤ i ∧ i < 2898 then W i else if (3923 ≤ i ∧ i < 3926) ∨ (3975 ≤ i ∧ i < 3982) ∨ (3989 ≤ i ∧ i < 3996) then -1 else 0), [], fun _ => 0, fun _ _ => (0, 0, 0, 0, fun _ => 0, fun _ => none))
section
variable {A W : Nat → Int32} {lim B : Nat}
theorem vnw_se {i : Nat} (h : i < 6) : (vnw A W).1 (2048 + i) = A i := by
  show (if 2048 ≤ 2048 + i ∧ 2048 + i ≤ 2053 then A (2048 + i - 2048) else _) = _
  rw [if_pos (by omega), Nat.add_sub_cancel_left]
theorem vnw_pp : vpp W (vnw A W).1 := fun i hi => by
  show (if 2048 ≤ i ∧ i ≤ 2053 then A (i - 2048) else if 2228 ≤ i ∧ i < 2898 then W i else _) = _
  rw [if_neg (by omega), if_pos hi]
theorem vnw_m {i : Nat} (h : (3923 ≤ i ∧ i < 3926) ∨ (3975 ≤ i ∧ i < 3982) ∨ (3989 ≤ i ∧ i < 3996)) : (vnw A W).1 i = -1 := by
  show (if 2048 ≤ i ∧ i ≤ 2053 then A (i - 2048) else if 2228 ≤ i ∧ i < 2898 then W i else if (3923 ≤ i ∧ i < 3926) ∨ (3975 ≤ i ∧ i < 3982) ∨ (3989 ≤ i ∧ i < 3996) then (-1 : Int32) else 0) = _
  rw [if_neg (by omega), if_neg (by omega), if_pos h]
theorem vnw_0 {i : Nat} (h : (2054 ≤ i ∧ i < 2228) ∨ (2898 ≤ i ∧ i < 3923) ∨ (3926 ≤ i ∧ i < 3975) ∨ (3982 ≤ i ∧ i < 3989) ∨ 3996 ≤ i) : (vnw A W).1 i = 0 := by
  show (if 2048 ≤ i ∧ i ≤ 2053 then A (i - 2048) else if 2228 ≤ i ∧ i < 2898 then W i else if (3923 ≤ i ∧ i < 3926) ∨ (3975 ≤ i ∧ i < 3982) ∨ (3989 ≤ i ∧ i < 3996) then (-1 : Int32) else 0) = _
  rw [if_neg (by omega), if_neg (by omega), if_neg (by omega)]
theorem nw_id {t : Nat} (ht : t < 6) : Iid (vnw A W) t := ⟨rfl, vnw_0 (by omega), vnw_0 (by omega), vnw_0 (by omega), vnw_m (by omega), vnw_m (by omega), vnw_0 (by omega), Or.inl (vnw_0 (by omega)), fun q hq => by cases hq⟩
theorem vi_nw (hp : Ipr W) (hA : Ise lim (vnw A W).1) : VI lim 0 (vnw A W) :=
  ⟨hA, hp.wp vnw_pp, ⟨⟨List.Pairwise.nil, fun q hq => by cases hq⟩, List.Pairwise.nil, fun q hq => by cases hq⟩, fun k hk => Or.inl (vnw_m (by omega)), ⟨0, Nat.le_refl 0, vnw_0 (by omega)⟩, fun t ht => Or.inr (nw_id ht)⟩
theorem wl_nw {t : Nat} (ht : t < 6) : WL (vnw A W) t := WL.no (by rw [vnw_0 (by omega)]; decide)
end
section
variable {b lim : Nat} {s s' : wt_S} {A W : Nat → Int32}
theorem c_ac0 {α : Type} {s : wt_S} {a c n : Nat} {N : Int32} {F : wt_S → Option α} (hN : N = nI n) (h : n ≤ 100000) : wt_ac s a 0 c 0 N n n F = F (wt_uf s c (mj_cpy (s a) (s c) 0 0 n)) := by
  rw [hN]
  exact c_ac (p := 0) (q := 0) (by omega) (by omega) h h
theorem c_ac1 {s : wt_S} {a c n k : Nat} (h : k < n) : wt_uf s c (mj_cpy (s a) (s c) 0 0 n) c k = s a k := by
  rw [wt_uf_at, mj_cpy_in (by omega) (by omega)]
  congr 1
  omega
theorem c_clr5 {v : Int32} : ∃ s', gX5_clear b s v = some ((), s') ∧ (∀ c, c ≠ b + 2 → c ≠ b + 8 → s' c = s c) ∧ (∀ i, i < 256 → s' (b + 8) i = nI i) ∧ s' (b + 2) 7 = 0 ∧ s' (b + 2) 8 = 0 ∧ s' (b + 2) 9 = v := by
  have loop : ∀ (m i fu : Nat) (s1 : wt_S), i + m = 256 → m < fu → (∀ c, c ≠ b + 8 → s1 c = s c) → (∀ j, j < i → s1 (b + 8) j = nI j) → ∃ s', gX5_clear_2 b fu s1 v (nI i) = some ((), s') ∧ (∀ c, c ≠ b + 2 → c ≠ b + 8 → s' c = s c) ∧ (∀ i, i < 256 → s' (b + 8) i = nI i) ∧ s' (b + 2) 7 = 0 ∧ s' (b + 2) 8 = 0 ∧ s' (b + 2) 9 = v := by
    intro m
    induction m with
    | zero =>
      intro i fu s1 hi hfu h1 h2
      obtain ⟨fu, rfl⟩ : ∃ k, fu = k + 1 := ⟨fu - 1, by omega⟩
      rw [gX5_clear_2, if_pos (by rw [nI_int (by omega)]; show (256 : Int) ≤ _; omega), wr_eq, wr_eq, wr_eq]
      refine ⟨_, rfl, fun c c1 c2 => by rw [wt_u_ne c1, wt_u_ne c1, wt_u_ne c1, h1 c c2], fun j hj => by rw [wt_u_ne (by omega), wt_u_ne (by omega), wt_u_ne (by omega)]; exact h2 j (by omega), ?_, ?_, wt_u_self⟩
      · rw [wt_u_nk (by omega), wt_u_nk (by omega), wt_u_self]
      · rw [wt_u_nk (by omega), wt_u_self]
    | succ m ih =>
      intro i fu s1 hi hfu h1 h2
      obtain ⟨fu, rfl⟩ : ∃ k, fu = k + 1 := ⟨fu - 1, by omega⟩
      rw [gX5_clear_2, if_neg (c_hi (by omega)), ix_nI (by omega) (by omega), wr_eq, show nI i + 1 = nI (i + 1) from nI_add i 1]
      refine ih (i + 1) fu _ (by omega) (by omega) (fun c hc => by rw [wt_u_ne hc]; exact h1 c hc) (fun j hj => ?_)
      by_cases c : j = i
      · subst c; rw [wt_u_self]
      · rw [wt_u_nk c]; exact h2 j (by omega)
  exact loop 256 0 wt_N s (by omega) (by unfold wt_N; omega) (fun _ _ => rfl) (fun j hj => by omega)
theorem c_clr9 (hb : b = 11 ∨ b = 40) : ∃ s', gX9_clear b s (nI lim) = some ((), s') ∧ (∀ c, c < b ∨ b + 28 < c → s' c = s c) ∧ PC b lim s' [] (List.range 256) ∧ (∀ j, j < 6 → s' (b + 1) j = s 3 j) ∧ (∀ j, j < 12 → s' (b + 13) j = 0) ∧ (∀ k, k < 6 → s' (b + 17 + 2 * k) = clr (s (b + 17 + 2 * k))) ∧ (∀ k, k < 6 → ∀ j, j < 12 → s' (b + 17 + 2 * k + 1) j = 0) ∧ s' (wt_wo b) 8 = 0 := by
  have hwo : wt_wo b = b := by rcases hb with rfl | rfl <;> rfl
  have hb1 : 11 ≤ b := by omega
  unfold gX9_clear
  rw [c_ac0 (n := 6) (N := 6) rfl (by omega)]
  generalize hs1 : wt_uf s (b + 1) (mj_cpy (s 3) (s (b + 1)) 0 0 6) = s1
  have e1 : ∀ j, j < 6 → s1 (b + 1) j = s 3 j := fun j hj => by rw [← hs1]; exact c_ac1 hj
  have f1 : ∀ c, c ≠ b + 1 → s1 c = s c := fun c hc => by rw [← hs1]; exact wt_uf_ne hc
  obtain ⟨s2, a1, a2, a3, a4, a5, a6⟩ := c_clr5 (b := b) (s := s1) (v := nI lim)
  rw [a1, cl_some]
  have loop : ∀ (m k fu : Nat) (s3 : wt_S), k + m = 6 → m < fu → (∀ c, (∀ k, k < 6 → c ≠ b + 17 + 2 * k ∧ c ≠ b + 17 + 2 * k + 1) → s3 c = s2 c) → (∀ j, j < 6 → s3 (b + 17 + 2 * j) = if j < k then clr (s2 (b + 17 + 2 * j)) else s2 (b + 17 + 2 * j)) → (∀ j, j < k → ∀ i, i < 12 → s3 (b + 17 + 2 * j + 1) i = 0) →
      ∃ s', gX9_clear_33 b fu s3 6 (nI k) = some ((), s') ∧ (∀ c, c ≠ b → c ≠ b + 11 → c ≠ b + 13 → (∀ k, k < 6 → c ≠ b + 17 + 2 * k ∧ c ≠ b + 17 + 2 * k + 1) → s' c = s2 c) ∧ (∀ j, j < 6 → s' (b + 17 + 2 * j) = clr (s2 (b + 17 + 2 * j))) ∧ (∀ j, j < 6 → ∀ i, i < 12 → s' (b + 17 + 2 * j + 1) i = 0) ∧ (∀ j, j < 12 → s' (b + 13) j = 0) ∧ s' b 8 = 0 := by
    intro m
    induction m with
    | zero =>
      intro k fu s3 hk hfu h1 h2 h3
      obtain ⟨fu, rfl⟩ : ∃ k, fu = k + 1 := ⟨fu - 1, by omega⟩
      obtain ⟨s4, b1, b2, b3, -⟩ := c_fill (r := b + 13) (n := 12) (v := 0) (s := wt_u s3 (b + 11) 1 0) (by omega)
      rw [gX9_clear_33, if_pos (by rw [nI_int (by omega)]; show (6 : Int) ≤ _; omega), wr_eq, b1, cl_some, wr_eq, hwo]
      refine ⟨_, rfl, fun c c1 c2 c3 c4 => by rw [wt_u_ne c1, b2 c c3, wt_u_ne c2, h1 c c4], fun j hj => ?_, fun j hj i hi => ?_, fun j hj => ?_, wt_u_self⟩
      · rw [wt_u_ne (by omega), b2 _ (by omega), wt_u_ne (by omega), h2 j hj, if_pos (by omega)]
      · rw [wt_u_ne (by omega), b2 _ (by omega), wt_u_ne (by omega), h3 j (by omega) i hi]
      · rw [wt_u_ne (by omega)]; exact b3 j hj
    | succ m ih =>
      intro k fu s3 hk hfu h1 h2 h3
      obtain ⟨fu, rfl⟩ : ∃ k, fu = k + 1 := ⟨fu - 1, by omega⟩
      obtain ⟨s4, b1, b2, b3, b4⟩ := c_clear (s := s3) (T := b + 17 + 2 * k)
      rw [gX9_clear_33, if_neg (by rw [nI_int (by omega)]; show ¬ (6 : Int) ≤ _; omega), ix_nI (by omega) (by omega), b1, cl_some, show nI k + 1 = nI (k + 1) from nI_add k 1]
      refine ih (k + 1) fu s4 (by omega) (by omega) (fun c hc => by rw [b2 c (hc k (by omega)).1 (hc k (by omega)).2]; exact h1 c hc) (fun j hj => ?_) (fun j hj i hi => ?_)
      · by_cases c : j = k
        · subst c
          rw [b3, h2 j hj, if_neg (by omega), if_pos (by omega)]
        · rw [b2 _ (by omega) (by omega), h2 j hj]
          by_cases c2 : j < k
          · rw [if_pos c2, if_pos (by omega)]
          · rw [if_neg c2, if_neg (by omega)]
      · by_cases c : j = k
        · subst c
          exact b4 i hi
        · rw [b2 _ (by omega) (by omega)]
          exact h3 j (by omega) i hi
  obtain ⟨s', l1, l2, l3, l4, l5, l6⟩ := loop 6 0 wt_N s2 (by omega) (by unfold wt_N; omega) (fun _ _ => rfl) (fun j hj => by rw [if_neg (by omega)]) (fun j hj => by omega)
  have k2 : ∀ c, c ≠ b → c ≠ b + 11 → c ≠ b + 13 → (∀ k, k < 6 → c ≠ b + 17 + 2 * k ∧ c ≠ b + 17 + 2 * k + 1) → s' c = s2 c := l2
  refine ⟨s', l1, fun c hc => ?_, ⟨?_, ?_, ?_, ?_, ?_, fun i hi => ?_, fun x i hx => ?_, fun z hz => by cases hz⟩, fun j hj => ?_, l5, fun k hk => ?_, l4, by rw [hwo]; exact l6⟩
  · rw [k2 c (by omega) (by omega) (by omega) (fun k _ => by omega), a2 c (by omega) (by omega), f1 c (by omega)]
  · rw [k2 _ (by omega) (by omega) (by omega) (fun k _ => by omega), a4]; rfl
  · rw [k2 _ (by omega) (by omega) (by omega) (fun k _ => by omega), a5]; rfl
  · rw [k2 _ (by omega) (by omega) (by omega) (fun k _ => by omega), a6]
  · show ([] ++ List.range 256).length = 256
    rw [List.nil_append, List.length_range]
  · show ([] ++ List.range 256).Nodup
    rw [List.nil_append]; exact List.nodup_range
  · have hi : i ∈ [] ++ List.range 256 := hi
    rw [List.nil_append] at hi
    exact List.mem_range.mp hi
  · have hx : ([] ++ List.range 256)[x]? = some i := hx
    rw [List.nil_append, List.getElem?_eq_some_iff] at hx
    obtain ⟨h1, h2⟩ := hx
    rw [List.length_range] at h1
    rw [List.getElem_range] at h2
    rw [k2 _ (by omega) (by omega) (by omega) (fun k _ => by omega), a3 x h1, h2]
  · rw [k2 _ (by omega) (by omega) (by omega) (fun k _ => by omega), a2 _ (by omega) (by omega)]; exact e1 j hj
  · rw [l3 k hk, a2 _ (by omega) (by omega), f1 _ (by omega)]
/-- it holds the picture -/
theorem RC.fresh (hb : 11 ≤ b) {s0 : wt_S} (hP : PC b lim s [] (List.range 256)) (hA : ∀ j, j < 6 → s (b + 1) j = A j) (hc : ∀ j, j < 12 → s (b + 13) j = 0) (hT : ∀ k, k < 6 → s (b + 17 + 2 * k) = clr (s0 (b + 17 + 2 * k))) (h0 : ∀ k, k < 6 → s0 (b + 17 + 2 * k) 0 = nI k) (hS : ∀ k, k < 6 → ∀ j, j < 12 → s (b + 17 + 2 * k + 1) j = 0) (hR : RP 5 s W) (hp : Ipr W) : RC b lim s (vnw A W) [] (List.range 256) := by
  refine ⟨rfl, hP, ⟨fun j hj => by rw [vnw_se hj]; exact hA j hj, fun j hj => by rw [vnw_0 (by omega)]; exact hc j hj⟩, fun k hk => ?_, fun k hk i hi => absurd hi (Nat.not_lt_zero i), hR.ep hp vnw_pp (fun _ _ _ => rfl)⟩
  have hTj : ∀ j, s (b + 17 + 2 * k) j = if j = 0 ∨ 17 ≤ j then s0 (b + 17 + 2 * k) j else if j = 7 ∨ (9 ≤ j ∧ j ≤ 13) ∨ j = 15 then -1 else 0 := fun j => by rw [hT k hk]; rfl
  refine ⟨⟨?_, fun e he => ?_, fun e he => ?_⟩, ⟨fun _ => ⟨?_, ?_⟩, fun h => absurd h (Nat.not_lt_zero 0)⟩, ⟨fun _ => ?_, fun z hz => by cases hz⟩, ⟨fun z hz => (by cases hz), fun _ => ?_⟩, fun h => ?_, fun z hz => by cases hz⟩
  · rw [hTj, if_pos (by omega)]; exact h0 k hk
  · rw [hTj]
    simp only [tf, List.mem_cons, List.not_mem_nil, or_false] at he
    rcases he with rfl | rfl | rfl | rfl | rfl | rfl | rfl | rfl | rfl | rfl
    · rw [vnw_0 (by omega)]; rfl
    · rw [vnw_0 (by omega)]; rfl
    · rw [vnw_0 (by omega)]; rfl
    · rw [vnw_0 (by omega)]; rfl
    · rw [vnw_0 (by omega)]; rfl
    · rw [vnw_0 (by omega)]; rfl
    · rw [vnw_m (by omega)]; rfl
    · rw [vnw_0 (by omega)]; rfl
    · rw [vnw_m (by omega)]; rfl
    · rw [vnw_0 (by omega)]; rfl
  · have q1 := ts_p e he
    have q2 : ∀ e ∈ ts, e.1 < 12 ∧ e.2 ≠ 3975 ∧ e.2 ≠ 3989 := by decide
    have q3 := q2 e he
    rw [hS k hk _ q3.1, vnw_0 (by omega)]
  · rw [hTj, if_neg (by omega), if_pos (by omega)]
  · rw [hTj, if_neg (by omega), if_pos (by omega)]
  · rw [hTj, if_neg (by omega), if_pos (by omega)]
  · rw [hTj, if_neg (by omega), if_pos (by omega)]
  · exact absurd (vnw_0 (by omega)) h
end
