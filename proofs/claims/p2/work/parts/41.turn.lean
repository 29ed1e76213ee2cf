/-! ===== the words that are places are turned ===== -/
/-- frames that lie at ql, their words speaking of pl -/
def vMQ (mm w : Nat → Int32) (n : Nat) (fr : Nat → vF) (ql pl : Nat → Nat) : Prop := ∀ i, i < n → mm (ql i) = (if i = 0 then -1 else nI (pl (i - 1))) ∧ mm (ql i + 1) = nI (fr i).2.2.2.1 ∧ ∀ k, k < vsz w (fr i).1 → mm (ql i + 2 + k) = vsw w pl (fr i) k
/-- so far: frames above i have been turned, of frame i the slots before k0 -/
def TQ (mm w : Nat → Int32) (n : Nat) (fr : Nat → vF) (ql pl pl' : Nat → Nat) (i k0 : Nat) : Prop := ∀ j, j < n → mm (ql j) = (if j = 0 then -1 else nI ((if i < j then pl' else pl) (j - 1))) ∧ mm (ql j + 1) = nI (fr j).2.2.2.1 ∧ ∀ k, k < vsz w (fr j).1 → mm (ql j + 2 + k) = vsw w (if i < j ∨ i = j ∧ k < k0 then pl' else pl) (fr j) k
/-- what the turning stands on: W the scalars, frames apart and within the memory, goals -/
def TH (W : Nat → Int32) (n : Nat) (fr : Nat → vF) (ql pl pl' : Nat → Nat) (lim : Nat) : Prop := Ipr W ∧ (∀ i, i < n → (fr i).1 < 10 ∧ ql i + vwd W (fr i).1 ≤ lim) ∧ (∀ i j, i < n → j < n → i ≠ j → ql i + vwd W (fr i).1 ≤ ql j ∨ ql j + vwd W (fr j).1 ≤ ql i) ∧
  (∀ i, i < n → ∀ k, k < vsz W (fr i).1 → bt (W (2238 + (fr i).1)) k → ∀ q, (fr i).2.2.2.2.2 k = some q → q.1 ≤ i ∧ q.2 < vsz W (fr q.1).1) ∧ (∀ i, i + 1 < n → (fr (i + 1)).2.2.2.1 < 4096 ∧ (fr (i + 1)).2.2.2.1 % 1024 / 32 = (fr i).1) ∧ (∀ i, i < n → pl i + vwd W (fr i).1 ≤ lim)
section
variable {W mm : Nat → Int32} {n : Nat} {fr : Nat → vF} {ql pl pl' : Nat → Nat} {lim : Nat}
theorem TQ.next {i k : Nat} (hT : TH W n fr ql pl pl' lim) (hi : i < n) (hk : k < vsz W (fr i).1) (h : TQ mm W n fr ql pl pl' i k) : TQ (mj_upd mm (ql i + 2 + k) (vsw W pl' (fr i) k)) W n fr ql pl pl' i (k + 1) := by
  intro j hj
  obtain ⟨h1, h2, h3⟩ := h j hj
  have hz := (hT.2.1 i hi).2
  by_cases e : i = j
  · subst e
    refine ⟨by rw [mj_upd_ne (by omega)]; exact h1, by rw [mj_upd_ne (by omega)]; exact h2, fun k' hk' => ?_⟩
    by_cases ek : k' = k
    · subst ek
      rw [mj_upd_self, if_pos (Or.inr ⟨rfl, by omega⟩)]
    · rw [mj_upd_ne (by omega), h3 k' hk']
      by_cases c : k' < k
      · rw [if_pos (Or.inr ⟨rfl, c⟩), if_pos (Or.inr ⟨rfl, by omega⟩)]
      · rw [if_neg (by omega), if_neg (by omega)]
  · have hd := hT.2.2.1 i j hi hj e
    unfold vwd at hd hz
    refine ⟨by rw [mj_upd_ne (by omega)]; exact h1, by rw [mj_upd_ne (by omega)]; exact h2, fun k' hk' => ?_⟩
    rw [mj_upd_ne (by omega), h3 k' hk']
    by_cases c : i < j
    · rw [if_pos (Or.inl c), if_pos (Or.inl c)]
    · rw [if_neg (by omega), if_neg (by omega)]
/-- a slot that isn't turned -/
theorem TQ.skip {i k : Nat} (hi : i < n) (hk : k < vsz W (fr i).1) (h : TQ mm W n fr ql pl pl' i k) (he : vsw W pl' (fr i) k = vsw W pl (fr i) k) : TQ mm W n fr ql pl pl' i (k + 1) := by
  intro j hj
  obtain ⟨h1, h2, h3⟩ := h j hj
  refine ⟨h1, h2, fun k' hk' => ?_⟩
  rw [h3 k' hk']
  by_cases e : i = j
  · subst e
    by_cases ek : k' = k
    · subst ek
      rw [if_neg (by omega), if_pos (Or.inr ⟨rfl, by omega⟩), he]
    · by_cases c : k' < k
      · rw [if_pos (Or.inr ⟨rfl, c⟩), if_pos (Or.inr ⟨rfl, by omega⟩)]
      · rw [if_neg (by omega), if_neg (by omega)]
  · by_cases c : i < j
    · rw [if_pos (Or.inl c), if_pos (Or.inl c)]
    · rw [if_neg (by omega), if_neg (by omega)]
/-- the base, and on with the frame below -/
theorem TQ.down {i : Nat} (hT : TH W n fr ql pl pl' lim) (hi : i + 1 < n) (h : TQ mm W n fr ql pl pl' (i + 1) (vsz W (fr (i + 1)).1)) : TQ (mj_upd mm (ql (i + 1)) (nI (pl' i))) W n fr ql pl pl' i 0 := by
  intro j hj
  obtain ⟨h1, h2, h3⟩ := h j hj
  by_cases e : i + 1 = j
  · subst e
    refine ⟨by rw [mj_upd_self, if_neg (by omega), if_pos (by omega)]; rfl, by rw [mj_upd_ne (by omega)]; exact h2, fun k' hk' => ?_⟩
    rw [mj_upd_ne (by omega), h3 k' hk', if_pos (Or.inr ⟨rfl, hk'⟩), if_pos (Or.inl (by omega))]
  · have hd := hT.2.2.1 (i + 1) j hi hj e
    unfold vwd at hd
    refine ⟨?_, by rw [mj_upd_ne (by omega)]; exact h2, fun k' hk' => ?_⟩
    · rw [mj_upd_ne (by omega), h1]
      by_cases c : i + 1 < j
      · simp only [if_pos c, if_pos (show i < j by omega)]
      · simp only [if_neg c, if_neg (show ¬ i < j by omega)]
    · rw [mj_upd_ne (by omega), h3 k' hk']
      by_cases c : i + 1 < j
      · rw [if_pos (Or.inl c), if_pos (Or.inl (by omega))]
      · rw [if_neg (by omega), if_neg (by omega)]
theorem TQ.start (h : vMQ mm W n fr ql pl) : TQ mm W n fr ql pl pl' (n - 1) 0 := by
  intro j hj
  obtain ⟨h1, h2, h3⟩ := h j hj
  refine ⟨?_, h2, fun k hk => ?_⟩
  · rw [h1, if_neg (show ¬ n - 1 < j by omega)]
  · rw [h3 k hk, if_neg (by omega)]
theorem TQ.fin (hn : 0 < n) (h : TQ mm W n fr ql pl pl' 0 (vsz W (fr 0).1)) : vMQ mm W n fr ql pl' := by
  intro j hj
  obtain ⟨h1, h2, h3⟩ := h j hj
  refine ⟨?_, h2, fun k hk => ?_⟩
  · rw [h1]
    by_cases e : j = 0
    · rw [if_pos e, if_pos e]
    · rw [if_neg e, if_neg e, if_pos (by omega)]
  · rw [h3 k hk, if_pos]
    by_cases e : j = 0
    · subst e; exact Or.inr ⟨rfl, hk⟩
    · exact Or.inl (by omega)
/-- a slot that speaks of a place, one that doesn't -/
theorem vsw_cases {F : vF} {k : Nat} : (bt (W (2238 + F.1)) k ∧ ∃ q, F.2.2.2.2.2 k = some q ∧ vsw W pl F k = nI (pl q.1 + 2 + q.2) ∧ vsw W pl' F k = nI (pl' q.1 + 2 + q.2)) ∨ (bt (W (2238 + F.1)) k ∧ F.2.2.2.2.2 k = none ∧ vsw W pl F k = -1 ∧ vsw W pl' F k = -1) ∨ (¬ bt (W (2238 + F.1)) k ∧ vsw W pl' F k = vsw W pl F k) := by
  unfold vsw
  by_cases c : bt (W (2238 + F.1)) k
  · cases e : F.2.2.2.2.2 k with
    | none => exact Or.inr (Or.inl ⟨c, rfl, by rw [if_pos c], by rw [if_pos c]⟩)
    | some q => exact Or.inl ⟨c, q, rfl, by rw [if_pos c], by rw [if_pos c]⟩
  · exact Or.inr (Or.inr ⟨c, by rw [if_neg c, if_neg c]⟩)
end
/-! ### the reference's turns -/
/-- goals of places of frames -/
def GO (s : wt_S) (W : Nat → Int32) (n : Nat) (fr : Nat → vF) (pl pl' : Nat → Nat) : Prop := ∀ w' : Nat → Int32, ∀ i, i < n → ∀ j, j < vwd W (fr i).1 → gX11_goalOf (wt_uf s 111 w') (nI (pl i + j)) = some (nI (pl' i + j), wt_uf s 111 w')
section
variable {W : Nat → Int32} {n : Nat} {fr : Nat → vF} {pl pl' : Nat → Nat} {s0 : wt_S} {t : Nat}
theorem q_turns_67 {K : wt_S → Int32 → Int32 → Int32 → Int32 → Option (Unit × wt_S)} (hT : TH W n fr pl' pl pl' 2048) (hG : GO s0 W n fr pl pl') {i : Nat} (hi : i < n) {m1 : Int32} : ∀ (m k fu : Nat) (w : Nat → Int32), k + m = vsz W (fr i).1 → m < fu → (∀ f, f < 10 → w (2228 + f) = W (2228 + f) ∧ w (2238 + f) = W (2238 + f)) → TQ w W n fr pl' pl pl' i k →
    ∃ w', (∀ x, 2048 ≤ x → w' x = w x) ∧ (∀ x, (∀ j, j < n → x < pl' j ∨ pl' j + vwd W (fr j).1 ≤ x) → w' x = w x) ∧
      (if i = 0 then TQ w' W n fr pl' pl pl' 0 (vsz W (fr 0).1) ∧ gX11_turns_67 K fu (wt_uf s0 111 w) (nI t) (nI (pl' i)) (nI (fr i).1) m1 (nI k) = some ((), wt_uf s0 111 w')
        else TQ w' W n fr pl' pl pl' (i - 1) 0 ∧ gX11_turns_67 K fu (wt_uf s0 111 w) (nI t) (nI (pl' i)) (nI (fr i).1) m1 (nI k) = K (wt_uf s0 111 w') (nI t) (nI (pl' (i - 1))) (nI (fr (i - 1)).1) (m1 + 1)) := by
  have hf := hT.2.1 i hi
  have hzz := (hT.1.sz hf.1)
  have hw := hf.2
  unfold vwd at hw
  intro m
  induction m with
  | zero =>
    intro k fu w hk hfu hp hq
    obtain ⟨fu, rfl⟩ : ∃ m, fu = m + 1 := ⟨fu - 1, by omega⟩
    obtain rfl : k = vsz W (fr i).1 := by omega
    obtain ⟨q1, q2, q3⟩ := hq i hi
    rw [if_neg (Nat.lt_irrefl i)] at q1
    by_cases e : i = 0
    · subst e
      refine ⟨w, fun _ _ => rfl, fun _ _ => rfl, ?_⟩
      rw [if_pos rfl]
      refine ⟨hq, ?_⟩
      rw [gX11_turns_67, li_add, ix_nI (by omega) (by omega), wt_uf_at, (hp _ hf.1).1, hzz.1, nI_int (by omega), if_pos (by omega), ix_nI (by omega) (by omega), q1, if_pos rfl, if_neg (by decide)]
    · rw [if_neg e] at q1
      obtain ⟨i, rfl⟩ : ∃ j, i = j + 1 := ⟨i - 1, by omega⟩
      have hb := hT.2.2.2.2.1 i hi
      have hli := hT.2.2.2.2.2 i (by omega)
      have hg := hG w i (by omega) 0 (by unfold vwd; omega)
      rw [Nat.add_zero, Nat.add_zero] at hg
      refine ⟨mj_upd w (pl' (i + 1)) (nI (pl' i)), fun x hx => mj_upd_ne (by omega), fun x hx => mj_upd_ne (by have := hx (i + 1) hi; unfold vwd at this; omega), ?_⟩
      rw [if_neg e]
      refine ⟨TQ.down hT hi hq, ?_⟩
      have q1 : w (pl' (i + 1)) = nI (pl i) := q1
      rw [gX11_turns_67, li_add, ix_nI (by omega) (by omega), wt_uf_at, (hp _ hf.1).1, hzz.1, nI_int (by omega), if_pos (by omega), ix_nI (by omega) (by omega), q1, if_pos (nI_m1 (by unfold vwd at hli; omega)), hg, cl_some, ix_nI (by omega) (by omega), wr_eq, u_uf, wt_uf_at, uf_uf, li_add2, ix_nI (by omega) (by omega), ix_nI (by omega) (by omega), wt_uf_at, mj_upd_self, mj_upd_ne (by omega), q2, (bk_at hb.1).2.2.1, hb.2]
      rfl
  | succ m ih =>
    intro k fu w hk hfu hp hq
    obtain ⟨fu, rfl⟩ : ∃ m, fu = m + 1 := ⟨fu - 1, by omega⟩
    have hk1 : k < vsz W (fr i).1 := by omega
    obtain ⟨q1, q2, q3⟩ := hq i hi
    have q3 := q3 k hk1
    rw [if_neg (by omega)] at q3
    have start : ∀ X, gX11_turns_67 K (fu + 1) (wt_uf s0 111 w) (nI t) (nI (pl' i)) (nI (fr i).1) m1 (nI k) = X ↔ (if bt (W (2238 + (fr i).1)) k then (if w (pl' i + 2 + k) = -1 then gX11_turns_67 K fu (wt_uf s0 111 w) (nI t) (nI (pl' i)) (nI (fr i).1) m1 (nI (k + 1)) else (wt_cl (gX11_goalOf (wt_uf s0 111 w) (w (pl' i + 2 + k))) fun v15 s14 => gX11_turns_67 K fu (wt_u s14 111 (pl' i + 2 + k) v15) (nI t) (nI (pl' i)) (nI (fr i).1) m1 (nI (k + 1)))) else gX11_turns_67 K fu (wt_uf s0 111 w) (nI t) (nI (pl' i)) (nI (fr i).1) m1 (nI (k + 1))) = X := by
      intro X
      rw [gX11_turns_67, li_add, ix_nI (by omega) (by omega), wt_uf_at, (hp _ hf.1).1, hzz.1, nI_int (by omega), nI_int (by omega), if_neg (by omega), li_add, ix_nI (by omega) (by omega), (hp _ hf.1).2, q_has, cl_some, if_rb, nI_1, li_add2, nI_add, ix_nI (by omega) (by omega), ix_nI (by omega) (by omega), wt_uf_at]
      simp only [ix_nI (show pl' i + 2 + k < 4073 by omega) (show 4073 ≤ 100000 by omega), wr_eq]
    rcases vsw_cases (W := W) (pl := pl) (pl' := pl') (F := fr i) (k := k) with ⟨c1, q, c2, c3, c4⟩ | ⟨c1, c2, c3, c4⟩ | ⟨c1, c2⟩
    · have hpq := hT.2.2.2.1 i hi k hk1 c1 q c2
      have hg := hG w q.1 (by omega) (2 + q.2) (by unfold vwd; omega)
      rw [← Nat.add_assoc, ← Nat.add_assoc] at hg
      have hlq := hT.2.2.2.2.2 q.1 (by omega)
      obtain ⟨w', a1, a2, a3⟩ := ih (k + 1) fu (mj_upd w (pl' i + 2 + k) (vsw W pl' (fr i) k)) (by omega) (by omega) (fun f hf => by rw [mj_upd_ne (by omega), mj_upd_ne (by omega)]; exact hp f hf) (TQ.next hT hi hk1 hq)
      refine ⟨w', fun x hx => by rw [a1 x hx, mj_upd_ne (by omega)], fun x hx => by rw [a2 x hx, mj_upd_ne (by have := hx i hi; unfold vwd at this; omega)], ?_⟩
      simp only [start]
      rw [if_pos c1, q3, c3, if_neg (nI_m1 (by unfold vwd at hlq; omega)), hg, cl_some, u_uf, wt_uf_at, uf_uf, ← c4]
      exact a3
    · obtain ⟨w', a1, a2, a3⟩ := ih (k + 1) fu w (by omega) (by omega) hp (TQ.skip hi hk1 hq (by rw [c3, c4]))
      refine ⟨w', a1, a2, ?_⟩
      simp only [start]
      rw [if_pos c1, q3, c3, if_pos rfl]
      exact a3
    · obtain ⟨w', a1, a2, a3⟩ := ih (k + 1) fu w (by omega) (by omega) hp (TQ.skip hi hk1 hq c2)
      refine ⟨w', a1, a2, ?_⟩
      simp only [start]
      rw [if_neg c1]
      exact a3
end
