/-! ===== the class: the words that are places are turned, where the frames still lie ===== -/
def TG (mm w : Nat → Int32) (n : Nat) (fr : Nat → vF) (ql pl pl' : Nat → Nat) (be i k0 : Nat) : Prop := ∀ j, j < n → mm (ql j) = (if j = 0 then -1 else nI ((if be ≤ j then pl' else pl) (j - 1))) ∧ mm (ql j + 1) = nI (fr j).2.2.2.1 ∧ ∀ k, k < vsz w (fr j).1 → mm (ql j + 2 + k) = vsw w (if i < j ∨ i = j ∧ k < k0 then pl' else pl) (fr j) k
section
variable {W mm : Nat → Int32} {n : Nat} {fr : Nat → vF} {ql pl pl' : Nat → Nat} {lim be : Nat}
theorem TG.next {i k : Nat} (hT : TH W n fr ql pl pl' lim) (hi : i < n) (hk : k < vsz W (fr i).1) (h : TG mm W n fr ql pl pl' be i k) : TG (mj_upd mm (ql i + 2 + k) (vsw W pl' (fr i) k)) W n fr ql pl pl' be i (k + 1) := by
  intro j hj
  obtain ⟨h1, h2, h3⟩ := h j hj
  have hz := (hT.2.1 i hi).2
  by_cases e : i = j
  · subst e
    refine ⟨by rw [mj_upd_ne (by omega)]; exact h1, by rw [mj_upd_ne (by omega)]; exact h2, fun k' hk' => ?_⟩
    by_cases ek : k' = k
    · subst ek
      rw [mj_upd_self, if_pos (Or.inr ⟨rfl, by omega⟩)]
    · rw [mj_upd_ne (by omega), h3 k' hk']
      by_cases c : k' < k
      · rw [if_pos (Or.inr ⟨rfl, c⟩), if_pos (Or.inr ⟨rfl, by omega⟩)]
      · rw [if_neg (by omega), if_neg (by omega)]
  · have hd := hT.2.2.1 i j hi hj e
    unfold vwd at hd hz
    refine ⟨by rw [mj_upd_ne (by omega)]; exact h1, by rw [mj_upd_ne (by omega)]; exact h2, fun k' hk' => ?_⟩
    rw [mj_upd_ne (by omega), h3 k' hk']
    by_cases c : i < j
    · rw [if_pos (Or.inl c), if_pos (Or.inl c)]
    · rw [if_neg (by omega), if_neg (by omega)]
theorem TG.skip {i k : Nat} (hk : k < vsz W (fr i).1) (h : TG mm W n fr ql pl pl' be i k) (he : vsw W pl' (fr i) k = vsw W pl (fr i) k) : TG mm W n fr ql pl pl' be i (k + 1) := by
  intro j hj
  obtain ⟨h1, h2, h3⟩ := h j hj
  refine ⟨h1, h2, fun k' hk' => ?_⟩
  rw [h3 k' hk']
  by_cases e : i = j
  · subst e
    by_cases ek : k' = k
    · subst ek
      rw [if_neg (by omega), if_pos (Or.inr ⟨rfl, by omega⟩), he]
    · by_cases c : k' < k
      · rw [if_pos (Or.inr ⟨rfl, c⟩), if_pos (Or.inr ⟨rfl, by omega⟩)]
      · rw [if_neg (by omega), if_neg (by omega)]
  · by_cases c : i < j
    · rw [if_pos (Or.inl c), if_pos (Or.inl c)]
    · rw [if_neg (by omega), if_neg (by omega)]
theorem TG.base {i : Nat} (hT : TH W n fr ql pl pl' lim) (hi : i < n) (h : TG mm W n fr ql pl pl' (i + 1) i 0) : TG (mj_upd mm (ql i) (if i = 0 then -1 else nI (pl' (i - 1)))) W n fr ql pl pl' i i 0 := by
  intro j hj
  obtain ⟨h1, h2, h3⟩ := h j hj
  by_cases e : i = j
  · subst e
    refine ⟨?_, by rw [mj_upd_ne (by omega)]; exact h2, fun k hk => by rw [mj_upd_ne (by omega)]; exact h3 k hk⟩
    rw [mj_upd_self, if_pos (Nat.le_refl i)]
  · have hd := hT.2.2.1 i j hi hj e
    unfold vwd at hd
    refine ⟨?_, by rw [mj_upd_ne (by omega)]; exact h2, fun k hk => by rw [mj_upd_ne (by omega)]; exact h3 k hk⟩
    rw [mj_upd_ne (by omega), h1]
    by_cases c : i + 1 ≤ j
    · simp only [if_pos c, if_pos (show i ≤ j by omega)]
    · simp only [if_neg c, if_neg (show ¬ i ≤ j by omega)]
theorem TG.down {i : Nat} (h : TG mm W n fr ql pl pl' be (i + 1) (vsz W (fr (i + 1)).1)) : TG mm W n fr ql pl pl' be i 0 := by
  intro j hj
  obtain ⟨h1, h2, h3⟩ := h j hj
  refine ⟨h1, h2, fun k hk => ?_⟩
  rw [h3 k hk]
  by_cases e : i + 1 = j
  · subst e
    rw [if_pos (Or.inr ⟨rfl, hk⟩), if_pos (Or.inl (by omega))]
  · by_cases c : i + 1 < j
    · rw [if_pos (Or.inl c), if_pos (Or.inl (by omega))]
    · rw [if_neg (by omega), if_neg (by omega)]
theorem TG.start (h : vMQ mm W n fr ql pl) (hn : 0 < n) : TG mm W n fr ql pl pl' n (n - 1) 0 := by
  intro j hj
  obtain ⟨h1, h2, h3⟩ := h j hj
  refine ⟨?_, h2, fun k hk => ?_⟩
  · rw [h1, if_neg (show ¬ n ≤ j by omega)]
  · rw [h3 k hk, if_neg (by omega)]
theorem TG.fin (h : TG mm W n fr ql pl pl' 0 0 (vsz W (fr 0).1)) : vMQ mm W n fr ql pl' := by
  intro j hj
  obtain ⟨h1, h2, h3⟩ := h j hj
  refine ⟨?_, h2, fun k hk => ?_⟩
  · rw [h1, if_pos (Nat.zero_le j)]
  · rw [h3 k hk, if_pos]
    by_cases e : j = 0
    · subst e; exact Or.inr ⟨rfl, hk⟩
    · exact Or.inl (by omega)
end
/-- goals of places of frames, as the pieces stand -/
def GC (b : Nat) (s0 : wt_S) (W : Nat → Int32) (n : Nat) (fr : Nat → vF) (pl pl' : Nat → Nat) : Prop := ∀ s : wt_S, (∀ c, b + 2 ≤ c → c ≤ b + 9 → s c = s0 c) → ∀ i, i < n → ∀ j, j < vwd W (fr i).1 → gX5_turned b s (nI (pl i + j)) = some (nI (pl' i + j), s)
/-- memory and walk alone -/
def WK (b : Nat) (s0 s : wt_S) : Prop := ∀ c, c ≠ b + 15 → c ≠ b + 16 → s c = s0 c
section
variable {W : Nat → Int32} {n : Nat} {fr : Nat → vF} {pl pl' : Nat → Nat} {s0 : wt_S} {b lim T : Nat}
theorem WK.u {s : wt_S} {c j : Nat} {v : Int32} (h : WK b s0 s) (hc : c = b + 15 ∨ c = b + 16) : WK b s0 (wt_u s c j v) := fun d h1 h2 => (wt_u_ne (by omega)).trans (h d h1 h2)
theorem WK.rp {s : wt_S} (h : WK b s0 s) (hb : 11 ≤ b) (hR : RP 5 s0 W) : RP 5 s W := by
  refine ⟨fun f hf => ?_, fun j hj => ?_⟩
  · rw [h _ (by omega) (by omega), h _ (by omega) (by omega), h _ (by omega) (by omega), h _ (by omega) (by omega)]; exact hR.1 f hf
  · rw [h _ (by omega) (by omega)]; exact hR.2 j hj
theorem c_turn_84 {K : wt_S → Int32 → Option (Unit × wt_S)} (hx : CX b lim) (hT : TH W n fr pl pl pl' lim) (hG : GC b s0 W n fr pl pl') (hR : RP 5 s0 W) {i : Nat} (hi : i < n) : ∀ (m k fu : Nat) (s : wt_S), k + m = vsz W (fr i).1 → m < fu → WK b s0 s → TG (s (b + 15)) W n fr pl pl pl' i i k →
    ∃ s', gX4_turnPlaces_84 b T K fu s (nI (i + 1)) (nI (pl i)) (nI (fr i).1) (nI (vsz W (fr i).1)) (nI k) = K s' (nI i) ∧ WK b s0 s' ∧ s' (b + 16) = s (b + 16) ∧ TG (s' (b + 15)) W n fr pl pl pl' i i (vsz W (fr i).1) ∧ ∀ x, (∀ j, j < n → x < pl j ∨ pl j + vwd W (fr j).1 ≤ x) → s' (b + 15) x = s (b + 15) x := by
  have hb := hx.b
  have hxm := hx.m
  have hf := hT.2.1 i hi
  have hzz := (hT.1.sz hf.1)
  have hw := hf.2
  unfold vwd at hw
  intro m
  induction m with
  | zero =>
    intro k fu s hk hfu hW hq
    obtain ⟨fu, rfl⟩ : ∃ m, fu = m + 1 := ⟨fu - 1, by omega⟩
    obtain rfl : k = vsz W (fr i).1 := by omega
    refine ⟨s, ?_, hW, rfl, hq, fun _ _ => rfl⟩
    rw [gX4_turnPlaces_84, if_pos (Int.le_refl _), nI_pred2]
  | succ m ih =>
    intro k fu s hk hfu hW hq
    obtain ⟨fu, rfl⟩ : ∃ m, fu = m + 1 := ⟨fu - 1, by omega⟩
    have hk1 : k < vsz W (fr i).1 := by omega
    obtain ⟨q1, q2, q3⟩ := hq i hi
    have q3 := q3 k hk1
    rw [if_neg (by omega)] at q3
    rw [gX4_turnPlaces_84, if_neg (by rw [nI_int (by omega), nI_int (by omega)]; omega), c_isPointer (hW.rp hb.1 hR) hf.1, cl_some, if_rb, show nI k + 1 = nI (k + 1) from nI_add k 1]
    rcases vsw_cases (W := W) (pl := pl) (pl' := pl') (F := fr i) (k := k) with ⟨c1, q, c2, c3, c4⟩ | ⟨c1, c2, c3, c4⟩ | ⟨c1, c2⟩
    · have hpq := hT.2.2.2.1 i hi k hk1 c1 q c2
      have hg := hG s (fun c h1 h2 => hW c (by omega) (by omega)) q.1 (by omega) (2 + q.2) (by unfold vwd; omega)
      rw [← Nat.add_assoc, ← Nat.add_assoc] at hg
      obtain ⟨s', a1, a2, a3, a4, a5⟩ := ih (k + 1) fu (wt_u s (b + 15) (pl i + 2 + k) (vsw W pl' (fr i) k)) (by omega) (by omega) (hW.u (Or.inl rfl)) (by rw [wt_u_at]; exact TG.next hT hi hk1 hq)
      refine ⟨s', ?_, a2, by rw [a3, wt_u_ne (by omega)], a4, fun x hx => ?_⟩
      · rw [if_pos c1, show nI (pl i) + 2 + nI k = nI (pl i + 2 + k) by rw [show nI (pl i) + 2 = nI (pl i + 2) from nI_add _ 2, nI_add], c_word (by omega), cl_some, q3, c3, hg, cl_some, c_put (by omega), cl_some, ← c4]
        exact a1
      · rw [a5 x hx, wt_u_nk (by have := hx i hi; unfold vwd at this; omega)]
    · obtain ⟨s', a1, a2, a3, a4, a5⟩ := ih (k + 1) fu (wt_u s (b + 15) (pl i + 2 + k) (-1)) (by omega) (by omega) (hW.u (Or.inl rfl)) (by
        rw [wt_u_at]
        have := TG.next (lim := lim) hT hi hk1 hq
        rw [c4] at this
        exact this)
      refine ⟨s', ?_, a2, by rw [a3, wt_u_ne (by omega)], a4, fun x hx => ?_⟩
      · rw [if_pos c1, show nI (pl i) + 2 + nI k = nI (pl i + 2 + k) by rw [show nI (pl i) + 2 = nI (pl i + 2) from nI_add _ 2, nI_add], c_word (by omega), cl_some, q3, c3, c_turned_m, cl_some, c_put (by omega), cl_some]
        exact a1
      · rw [a5 x hx, wt_u_nk (by have := hx i hi; unfold vwd at this; omega)]
    · rw [if_neg c1]
      exact ih (k + 1) fu s (by omega) (by omega) hW (TG.skip hk1 hq c2)
theorem c_turn_27 (hx : CX b lim) (hT : TH W n fr pl pl pl' lim) (hG : GC b s0 W n fr pl pl') (hR : RP 5 s0 W) (hn : n < 100000) (hTc : T ≠ b + 15 ∧ T ≠ b + 16) : ∀ (i fu : Nat) (s : wt_S), i < n → i + 1 < fu → WK b s0 s → s (b + 16) 1 = nI (pl i) → s (b + 16) 2 = nI (fr i).1 → TG (s (b + 15)) W n fr pl pl pl' (i + 1) i 0 →
    ∃ s1, gX4_turnPlaces_27 b T fu s (nI (i + 1)) = (wt_cl (gX5_turned b s1 (s1 T 11)) fun v2 s1 => (wt_wr s1 T 11 v2 fun s3 => some ((), s3))) ∧ WK b s0 s1 ∧ vMQ (s1 (b + 15)) W n fr pl pl' ∧ ∀ x, (∀ j, j < n → x < pl j ∨ pl j + vwd W (fr j).1 ≤ x) → s1 (b + 15) x = s (b + 15) x := by
  have hb := hx.b
  have hxm := hx.m
  intro i
  induction i with
  | zero =>
    intro fu s hi hfu hW w1 w2 hq
    obtain ⟨fu, rfl⟩ : ∃ m, fu = m + 2 := ⟨fu - 2, by omega⟩
    have hf := hT.2.1 0 hi
    have hw := hf.2
    unfold vwd at hw
    obtain ⟨q1, q2, q3⟩ := hq 0 hi
    rw [if_pos rfl] at q1
    have hz := hT.1.sz hf.1
    rw [gX4_turnPlaces_27, if_neg (by rw [nI_int (by omega), ci0]; omega)]
    unfold gX8_toCaller
    rw [w1, w2, show nI (pl 0) + 1 = nI (pl 0 + 1) from nI_add _ 1, c_word (by omega), cl_some, w1, c_word (by omega), cl_some, wr_eq, wr_eq, wr_eq, cl_some, q1]
    have hW1 : WK b s0 (wt_u (wt_u (wt_u s (b + 16) 1 (-1)) (b + 16) 2 ((s (b + 15) (pl 0 + 1) &&& 1023) >>> (5 &&& 31))) (b + 16) 3 (s (b + 15) (pl 0 + 1) &&& 31)) := ((hW.u (Or.inr rfl)).u (Or.inr rfl)).u (Or.inr rfl)
    have hm1 : wt_u (wt_u (wt_u s (b + 16) 1 (-1)) (b + 16) 2 ((s (b + 15) (pl 0 + 1) &&& 1023) >>> (5 &&& 31))) (b + 16) 3 (s (b + 15) (pl 0 + 1) &&& 31) (b + 15) = s (b + 15) := by rw [wt_u_ne (by omega), wt_u_ne (by omega), wt_u_ne (by omega)]
    generalize wt_u (wt_u (wt_u s (b + 16) 1 (-1)) (b + 16) 2 ((s (b + 15) (pl 0 + 1) &&& 1023) >>> (5 &&& 31))) (b + 16) 3 (s (b + 15) (pl 0 + 1) &&& 31) = s1 at *
    rw [c_sizeOf (hW1.rp hb.1 hR) hf.1, cl_some, hz.1, c_word (by omega), cl_some, hm1, q1, c_turned_m, cl_some, c_put (by omega), cl_some]
    obtain ⟨s2, a1, a2, a3, a4, a5⟩ := c_turn_84 (T := T) (K := gX4_turnPlaces_27 b T (fu + 1)) hx hT hG hR hi (vsz W (fr 0).1) 0 wt_N (wt_u s1 (b + 15) (pl 0) (-1)) (by omega) (by unfold wt_N; omega) (hW1.u (Or.inl rfl)) (by
      rw [wt_u_at, hm1]
      have := TG.base hT hi hq
      rw [if_pos rfl] at this
      exact this)
    rw [show (0 : Int32) = nI 0 from rfl, a1, gX4_turnPlaces_27, if_pos (by rw [nI_int (by omega), ci0]; omega)]
    refine ⟨s2, rfl, a2, TG.fin a4, fun x hx => ?_⟩
    rw [a5 x hx, wt_u_nk (by have := hx 0 hi; unfold vwd at this; omega), hm1]
  | succ i ih =>
    intro fu s hi hfu hW w1 w2 hq
    obtain ⟨fu, rfl⟩ : ∃ m, fu = m + 1 := ⟨fu - 1, by omega⟩
    have hf := hT.2.1 (i + 1) hi
    have hw := hf.2
    unfold vwd at hw
    have hb2 := hT.2.2.2.2.1 i hi
    obtain ⟨q1, q2, q3⟩ := hq (i + 1) hi
    rw [if_neg (by omega), if_neg (by omega)] at q1
    have q1 : s (b + 15) (pl (i + 1)) = nI (pl i) := q1
    have hz := hT.1.sz hf.1
    have hli := hT.2.2.2.2.2 i (by omega)
    rw [gX4_turnPlaces_27, if_neg (by rw [nI_int (by omega), ci0]; omega)]
    unfold gX8_toCaller
    rw [w1, w2, show nI (pl (i + 1)) + 1 = nI (pl (i + 1) + 1) from nI_add _ 1, c_word (by omega), cl_some, w1, c_word (by omega), cl_some, wr_eq, wr_eq, wr_eq, cl_some, q1, q2, (bk_at hb2.1).2.2.2.2, hb2.2]
    have hW1 : WK b s0 (wt_u (wt_u (wt_u s (b + 16) 1 (nI (pl i))) (b + 16) 2 (nI (fr i).1)) (b + 16) 3 (nI (fr (i + 1)).2.2.2.1 &&& 31)) := ((hW.u (Or.inr rfl)).u (Or.inr rfl)).u (Or.inr rfl)
    have hm1 : wt_u (wt_u (wt_u s (b + 16) 1 (nI (pl i))) (b + 16) 2 (nI (fr i).1)) (b + 16) 3 (nI (fr (i + 1)).2.2.2.1 &&& 31) (b + 15) = s (b + 15) := by rw [wt_u_ne (by omega), wt_u_ne (by omega), wt_u_ne (by omega)]
    have hk1 : wt_u (wt_u (wt_u s (b + 16) 1 (nI (pl i))) (b + 16) 2 (nI (fr i).1)) (b + 16) 3 (nI (fr (i + 1)).2.2.2.1 &&& 31) (b + 16) 1 = nI (pl i) := by rw [wt_u_nk (by omega), wt_u_nk (by omega), wt_u_self]
    have hk2 : wt_u (wt_u (wt_u s (b + 16) 1 (nI (pl i))) (b + 16) 2 (nI (fr i).1)) (b + 16) 3 (nI (fr (i + 1)).2.2.2.1 &&& 31) (b + 16) 2 = nI (fr i).1 := by rw [wt_u_nk (by omega), wt_u_self]
    generalize wt_u (wt_u (wt_u s (b + 16) 1 (nI (pl i))) (b + 16) 2 (nI (fr i).1)) (b + 16) 3 (nI (fr (i + 1)).2.2.2.1 &&& 31) = s1 at *
    have hg := hG s1 (fun c h1 h2 => hW1 c (by omega) (by omega)) i (by omega) 0 (by unfold vwd; omega)
    rw [Nat.add_zero, Nat.add_zero] at hg
    rw [c_sizeOf (hW1.rp hb.1 hR) hf.1, cl_some, hz.1, c_word (by omega), cl_some, hm1, q1, hg, cl_some, c_put (by omega), cl_some]
    obtain ⟨s2, a1, a2, a3, a4, a5⟩ := c_turn_84 (T := T) (K := gX4_turnPlaces_27 b T fu) hx hT hG hR hi (vsz W (fr (i + 1)).1) 0 wt_N (wt_u s1 (b + 15) (pl (i + 1)) (nI (pl' i))) (by omega) (by unfold wt_N; omega) (hW1.u (Or.inl rfl)) (by
      rw [wt_u_at, hm1]
      have := TG.base hT hi hq
      rw [if_neg (by omega)] at this
      exact this)
    rw [show (0 : Int32) = nI 0 from rfl, a1]
    obtain ⟨s3, d1, d2, d3, d4⟩ := ih fu s2 (by omega) (by omega) a2 (by rw [a3, wt_u_ne (by omega)]; exact hk1) (by rw [a3, wt_u_ne (by omega)]; exact hk2) (TG.down a4)
    refine ⟨s3, d1, d2, d3, fun x hx => ?_⟩
    rw [d4 x hx, a5 x hx, wt_u_nk (by have := hx (i + 1) hi; unfold vwd at this; omega), hm1]
theorem c_turns {s : wt_S} (hx : CX b lim) (hTc : T ≠ b + 15 ∧ T ≠ b + 16) (hn : n < 100000) (h4 : s T 4 = nI n) (h11 : s T 11 = if n = 0 then -1 else nI (pl (n - 1))) (h9 : 0 < n → s T 9 = nI (fr (n - 1)).1) (hT : 0 < n → TH W n fr pl pl pl' lim) (hG : GC b s W n fr pl pl') (hR : RP 5 s W) (hq : vMQ (s (b + 15)) W n fr pl pl) :
    ∃ s', gX4_turnPlaces b T s = some ((), s') ∧ (∀ c, c ≠ b + 15 → c ≠ b + 16 → c ≠ T → s' c = s c) ∧ s' T = mj_upd (s T) 11 (if n = 0 then -1 else nI (pl' (n - 1))) ∧ vMQ (s' (b + 15)) W n fr pl pl' ∧ ∀ x, (∀ j, j < n → x < pl j ∨ pl j + vwd W (fr j).1 ≤ x) → s' (b + 15) x = s (b + 15) x := by
  have hb := hx.b
  unfold gX4_turnPlaces gX8_toLast
  rw [wr_eq, wr_eq, wr_eq, cl_some]
  have hWs : ∀ v1 v2 v3, WK b s (wt_u (wt_u (wt_u s (b + 16) 1 v1) (b + 16) 2 v2) (b + 16) 3 v3) := fun v1 v2 v3 => ((WK.u (fun _ _ _ => rfl) (Or.inr rfl)).u (Or.inr rfl)).u (Or.inr rfl)
  rw [wt_u_ne hTc.2, wt_u_ne hTc.2, wt_u_ne hTc.2, wt_u_ne hTc.2, wt_u_ne hTc.2, wt_u_ne hTc.2, h4, h11]
  by_cases c : n = 0
  · subst c
    rw [if_pos rfl]
    have hW1 := hWs (-1) (s T 9) (s T 10)
    have hm1 : wt_u (wt_u (wt_u s (b + 16) 1 (-1)) (b + 16) 2 (s T 9)) (b + 16) 3 (s T 10) (b + 15) = s (b + 15) := by rw [wt_u_ne (by omega), wt_u_ne (by omega), wt_u_ne (by omega)]
    generalize wt_u (wt_u (wt_u s (b + 16) 1 (-1)) (b + 16) 2 (s T 9)) (b + 16) 3 (s T 10) = s1 at *
    have hT1 : s1 T = s T := hW1 T hTc.1 hTc.2
    have : ∃ k, wt_N = k + 1 := ⟨2099999999, rfl⟩
    obtain ⟨k, hk⟩ := this
    rw [hk, gX4_turnPlaces_27, if_pos (by rw [nI_int (by omega), ci0]; omega), hT1, h11, if_pos rfl, c_turned_m, cl_some, wr_eq]
    refine ⟨_, rfl, fun c h1 h2 h3 => by rw [wt_u_ne h3, hW1 c h1 h2], by rw [wt_u_at, hT1, if_pos rfl], fun j hj => absurd hj (by omega), fun x _ => by rw [wt_u_ne (Ne.symm hTc.1), hm1]⟩
  · rw [if_neg c, h9 (by omega)]
    have hW1 := hWs (nI (pl (n - 1))) (nI (fr (n - 1)).1) (s T 10)
    have hm1 : wt_u (wt_u (wt_u s (b + 16) 1 (nI (pl (n - 1)))) (b + 16) 2 (nI (fr (n - 1)).1)) (b + 16) 3 (s T 10) (b + 15) = s (b + 15) := by rw [wt_u_ne (by omega), wt_u_ne (by omega), wt_u_ne (by omega)]
    have hk1 : wt_u (wt_u (wt_u s (b + 16) 1 (nI (pl (n - 1)))) (b + 16) 2 (nI (fr (n - 1)).1)) (b + 16) 3 (s T 10) (b + 16) 1 = nI (pl (n - 1)) := by rw [wt_u_nk (by omega), wt_u_nk (by omega), wt_u_self]
    have hk2 : wt_u (wt_u (wt_u s (b + 16) 1 (nI (pl (n - 1)))) (b + 16) 2 (nI (fr (n - 1)).1)) (b + 16) 3 (s T 10) (b + 16) 2 = nI (fr (n - 1)).1 := by rw [wt_u_nk (by omega), wt_u_self]
    generalize wt_u (wt_u (wt_u s (b + 16) 1 (nI (pl (n - 1)))) (b + 16) 2 (nI (fr (n - 1)).1)) (b + 16) 3 (s T 10) = s1 at *
    have hT := hT (by omega)
    have hli := hT.2.2.2.2.2 (n - 1) (by omega)
    have hxm := hx.m
    have hst := TG.start (pl' := pl') hq (by omega)
    rw [← hm1] at hst
    obtain ⟨s2, a1, a2, a3, a4⟩ := c_turn_27 (T := T) hx hT hG hR hn hTc (n - 1) wt_N s1 (by omega) (by unfold wt_N; omega) hW1 hk1 hk2 (by rw [show n - 1 + 1 = n by omega]; exact hst)
    rw [show nI n = nI (n - 1 + 1) by rw [show n - 1 + 1 = n by omega], a1]
    have hT2 : s2 T = s T := a2 T hTc.1 hTc.2
    have hg := hG s2 (fun c h1 h2 => a2 c (by omega) (by omega)) (n - 1) (by omega) 0 (by unfold vwd; omega)
    rw [Nat.add_zero, Nat.add_zero] at hg
    rw [hT2, h11, if_neg c, hg, cl_some, wr_eq]
    refine ⟨_, rfl, fun c h1 h2 h3 => by rw [wt_u_ne h3, a2 c h1 h2], by rw [wt_u_at, hT2, if_neg c], by rw [wt_u_ne (Ne.symm hTc.1)]; exact a3, fun x hx => by rw [wt_u_ne (Ne.symm hTc.1), a4 x hx, hm1]⟩
end
