/-! ===== the class: a line that only reckons ===== -/
section
variable {b lim : Nat} {s s1 : wt_S} {V V1 : vV} {zs : List (vP × Nat)} {fr : List Nat} {t l x y : Nat} {v A B C : Int32} {Z : (Nat → Int32) → Int32 → Int32 → Int32 → Bool}
/-- a task at a line -/
def LC (b lim : Nat) (s : wt_S) (V : vV) (zs : List (vP × Nat)) (fr : List Nat) (t l : Nat) : Prop := RC b lim s V zs fr ∧ CX b lim ∧ VJ lim V ∧ t < 6 ∧ 0 < V.2.2.1 t ∧ V.1 (3975 + t) = nI (vlf V t).1 ∧ l < vli V.1 (vlf V t).1
theorem LC.i (h : LC b lim s V zs fr t l) : V.2.2.1 t - 1 < V.2.2.1 t := by
  have := h.2.2.2.2.1
  omega
theorem LC.f (h : LC b lim s V zs fr t l) : (vlf V t).1 < 10 ∧ vpl V t (V.2.2.1 t - 1) + (vsz V.1 (vlf V t).1 + 2) ≤ wt_mz b := by
  have h1 := h.2.2.1.fit h.2.2.2.1 h.i
  have h2 := h.2.1.m
  refine ⟨h1.1, ?_⟩
  have h3 : vpl V t (V.2.2.1 t - 1) + (vsz V.1 (vlf V t).1 + 2) ≤ lim := h1.2.2
  omega
theorem LC.t9 (h : LC b lim s V zs fr t l) : s (b + 17 + 2 * t) 9 = nI (vlf V t).1 := by
  rw [h.1.at h.2.2.2.1 (e := (9, 3975)) (by decide)]
  exact h.2.2.2.2.2.1
theorem LC.t11 (h : LC b lim s V zs fr t l) : s (b + 17 + 2 * t) 11 = nI (vpl V t (V.2.2.1 t - 1)) := ((h.1.2.2.2.1 t h.2.2.2.1).2.1.2 h.2.2.2.2.1).2
theorem c_ad {p x : Nat} : nI p + 2 + nI x = nI (p + 2 + x) := by rw [li_add2, nI_add]
theorem LC.w (h : LC b lim s V zs fr t l) (hx : x < vsz V.1 (vlf V t).1) : gX3_word b s (nI (vpl V t (V.2.2.1 t - 1)) + 2 + nI x) = some (vsw V.1 (vpl V t) (vlf V t) x, s) := by
  have h1 := h.f.2
  rw [c_ad, c_word (by omega)]
  have := (h.1.2.2.2.2.1 t h.2.2.2.1 _ h.i).2.2.2 x hx
  rw [this]
  rfl
theorem LC.n (h : LC b lim s V zs fr t l) (hx : x < vsz V.1 (vlf V t).1) (hb : ¬ bt (V.1 (2238 + (vlf V t).1)) x) : gX3_word b s (nI (vpl V t (V.2.2.1 t - 1)) + 2 + nI x) = some (vnm (vlf V t) (nI x), s) := by
  have h1 := h.2.2.1.1.sz h.f.1
  rw [h.w hx]
  unfold vsw vnm
  rw [if_neg hb, nI_int (by omega)]
  rfl
theorem LC.nu (h : LC b lim s V zs fr t l) (hx : x < vsz V.1 (vlf V t).1) (hb : ¬ bt (V.1 (2238 + (vlf V t).1)) x) : ∃ s', gX3_put b s (nI (vpl V t (V.2.2.1 t - 1)) + 2 + nI x) v = some ((), s') ∧ RC b lim s' (vnu V t (V.2.2.1 t - 1) x v) zs fr ∧ TO b t s s' := by
  have h1 := h.f.2
  rw [c_ad, c_put (by omega)]
  exact ⟨_, rfl, h.1.num h.2.1 h.2.2.1 h.2.2.2.1 h.i hx hb, TO.u (by omega) h.2.2.2.1⟩
theorem LC.pt (h : LC b lim s V zs fr t l) (hx : x < vsz V.1 (vlf V t).1) (hb : bt (V.1 (2238 + (vlf V t).1)) x) {q : Nat × Nat} (hq : (vlf V t).2.2.2.2.2 x = some q) : q.1 < V.2.2.1 t ∧ q.2 < vsz V.1 (V.2.2.2 t q.1).1 ∧ ¬ bt (V.1 (2238 + (V.2.2.2 t q.1).1)) q.2 ∧ vpl V t q.1 + 2 + q.2 < wt_mz b := by
  obtain ⟨np, -, -, hi⟩ := h.2.2.1.geo h.2.2.2.1 h.2.2.2.2.1
  obtain ⟨g1, g2, g3⟩ := hi.2.2.2.2.2 _ h.i x hx hb q hq
  have g0 : q.1 < V.2.2.1 t := by have := h.i; omega
  have h1 := (h.2.2.1.fit h.2.2.2.1 g0).2.2
  have h2 := h.2.1.m
  have h3 : vwd V.1 (V.2.2.2 t q.1).1 = vsz V.1 (V.2.2.2 t q.1).1 + 2 := rfl
  exact ⟨g0, g2, g3, by omega⟩
theorem LC.pw (h : LC b lim s V zs fr t l) (hx : x < vsz V.1 (vlf V t).1) (hb : bt (V.1 (2238 + (vlf V t).1)) x) : gX3_word b s (nI (vpl V t (V.2.2.1 t - 1)) + 2 + nI x) = some ((match (vlf V t).2.2.2.2.2 x with | none => (-1 : Int32) | some q => nI (vpl V t q.1 + 2 + q.2)), s) := by
  rw [h.w hx]
  unfold vsw
  rw [if_pos hb]
  rfl
theorem vln1_0 : vln1 lim Z V t l 0 A B C = vnu V t (V.2.2.1 t - 1) A.toInt.toNat B := rfl
theorem vln1_1 : vln1 lim Z V t l 1 A B C = vnu V t (V.2.2.1 t - 1) A.toInt.toNat (vnm (vlf V t) B + vnm (vlf V t) C) := rfl
theorem vln1_2 : vln1 lim Z V t l 2 A B C = vnu V t (V.2.2.1 t - 1) A.toInt.toNat (if (vnm (vlf V t) C).toInt ≤ (vnm (vlf V t) B).toInt then 0 else 1) := rfl
theorem vln1_3 : vln1 lim Z V t l 3 A B C = vpo V t (V.2.2.1 t - 1) A.toInt.toNat (some (V.2.2.1 t - 1, B.toInt.toNat)) := rfl
theorem vln1_4 : vln1 lim Z V t l 4 A B C = vnu V t (V.2.2.1 t - 1) A.toInt.toNat (match (vlf V t).2.2.2.2.2 B.toInt.toNat with | none => 0 | some q => (V.2.2.2 t q.1).2.2.2.2.1 q.2) := rfl
theorem vln1_5 : vln1 lim Z V t l 5 A B C = (match (vlf V t).2.2.2.2.2 A.toInt.toNat with | none => V | some q => vnu V t q.1 q.2 (vnm (vlf V t) B)) := rfl
theorem vln1_6 : vln1 lim Z V t l 6 A B C = (if tld V.1 A then vcl lim V t A.toInt.toNat (32 * (vlf V t).1 + l + 1) (vha V.1 A.toInt.toNat (vlf V t) B.toInt.toNat) else vnu V t (V.2.2.1 t - 1) C.toInt.toNat 0) := rfl
theorem vln1_7 : vln1 lim Z V t l 7 A B C = (if (vnm (vlf V t) A).toInt ≤ 0 then V else vs V (3968 + t) B) := rfl
theorem vln1_8 : vln1 lim Z V t l 8 A B C = vrt Z V t (vnm (vlf V t) A) := rfl
theorem vln1_9 : vln1 lim Z V t l 9 A B C = vfg lim V t A B C := rfl
theorem vln1_10 : vln1 lim Z V t l 10 A B C = (vqu lim V t).2 := rfl
theorem c_rk (h : LC b lim s V zs fr t l) {K : Int32} (hK : K = 0 ∨ K = 1 ∨ K = 2 ∨ K = 3 ∨ K = 4 ∨ K = 5 ∨ K = 7) (e0 : V.1 (vco (vlf V t).1 l) = K) (e1 : V.1 (vco (vlf V t).1 l + 1) = A) (e2 : V.1 (vco (vlf V t).1 l + 2) = B) (e3 : V.1 (vco (vlf V t).1 l + 3) = C) :
    ∃ s', gX2_reckon b (b + 17 + 2 * t) s K (nI l) = some ((), s') ∧ RC b lim s' (vln1 lim Z V t l K A B C) zs fr ∧ TO b t s s' ∧ (vln1 lim Z V t l K A B C).1 (3926 + t) = V.1 (3926 + t) := by
  have hft := h.f.1
  have hj := h.2.2.1
  have hlin := (hj.1 _ hft).2.2 l h.2.2.2.2.2.2
  unfold vlin at hlin
  rw [e0, e1, e2, e3] at hlin
  unfold vcan at hlin
  obtain ⟨-, p0, p1, p3, p4, p5, p6, p7, p8, p9⟩ := hlin
  unfold gX2_reckon
  rw [h.t9, c_part1 h.1.2.2.2.2.2 hj.1 hft h.2.2.2.2.2.2, cl_some, h.t9, c_part2 h.1.2.2.2.2.2 hj.1 hft h.2.2.2.2.2.2, cl_some, h.t9, c_part3 h.1.2.2.2.2.2 hj.1 hft h.2.2.2.2.2.2, cl_some, e1, e2, e3, h.t11]
  rcases hK with rfl | rfl | rfl | rfl | rfl | rfl | rfl
  · rw [if_neg (by decide), if_pos (by decide), vln1_0]
    obtain ⟨a, rfl, a2, a3, a4, a5⟩ := vnum_nat hj.1 hft (p0 rfl)
    obtain ⟨s', f1, f2, f3⟩ := h.nu (v := B) a3 a5
    exact ⟨s', by rw [f1, cl_some], by rw [a2]; exact f2, f3, rfl⟩
  · rw [if_neg (by decide), if_neg (by decide), if_pos (by decide), vln1_1]
    obtain ⟨q1, q2, q3⟩ := p1 (Or.inl rfl)
    obtain ⟨a, rfl, a2, a3, a4, a5⟩ := vnum_nat hj.1 hft q1
    obtain ⟨c, rfl, c2, c3, c4, c5⟩ := vnum_nat hj.1 hft q2
    obtain ⟨d, rfl, d2, d3, d4, d5⟩ := vnum_nat hj.1 hft q3
    obtain ⟨s', f1, f2, f3⟩ := h.nu (v := vnm (vlf V t) (nI c) + vnm (vlf V t) (nI d)) a3 a5
    exact ⟨s', by rw [h.n c3 c5, cl_some, h.n d3 d5, cl_some, f1, cl_some], by rw [a2]; exact f2, f3, rfl⟩
  · rw [if_neg (by decide), if_neg (by decide), if_neg (by decide), if_pos (by decide), vln1_2]
    obtain ⟨q1, q2, q3⟩ := p1 (Or.inr rfl)
    obtain ⟨a, rfl, a2, a3, a4, a5⟩ := vnum_nat hj.1 hft q1
    obtain ⟨c, rfl, c2, c3, c4, c5⟩ := vnum_nat hj.1 hft q2
    obtain ⟨d, rfl, d2, d3, d4, d5⟩ := vnum_nat hj.1 hft q3
    obtain ⟨s', f1, f2, f3⟩ := h.nu (v := if (vnm (vlf V t) (nI d)).toInt ≤ (vnm (vlf V t) (nI c)).toInt then 0 else 1) a3 a5
    refine ⟨s', ?_, by rw [a2]; exact f2, f3, rfl⟩
    rw [h.n c3 c5, cl_some, h.n d3 d5, cl_some]
    unfold gX2_reckon_198
    by_cases cq : (vnm (vlf V t) (nI d)).toInt ≤ (vnm (vlf V t) (nI c)).toInt
    · rw [if_pos cq] at f1 ⊢
      rw [f1, cl_some]
    · rw [if_neg cq] at f1 ⊢
      rw [f1, cl_some]
  · rw [if_neg (by decide), if_neg (by decide), if_neg (by decide), if_neg (by decide), if_pos (by decide), vln1_3]
    obtain ⟨q1, q2⟩ := p3 rfl
    obtain ⟨a, rfl, a2, a3, a4, a5⟩ := vptr_nat hj.1 hft q1
    obtain ⟨c, rfl, c2, c3, c4, c5⟩ := vnum_nat hj.1 hft q2
    have f2 := RC.ptr (k := a) (q := some (V.2.2.1 t - 1, c)) h.1 h.2.1 hj h.2.2.2.1 h.i a3 a5
    have h1 := h.f.2
    refine ⟨_, ?_, by rw [a2, c2]; exact f2, TO.u (by omega) h.2.2.2.1, rfl⟩
    rw [c_ad, c_ad, c_put (by omega), cl_some]
  · rw [if_neg (by decide), if_neg (by decide), if_neg (by decide), if_neg (by decide), if_neg (by decide), if_pos (by decide), vln1_4]
    obtain ⟨q1, q2⟩ := p4 rfl
    obtain ⟨a, rfl, a2, a3, a4, a5⟩ := vnum_nat hj.1 hft q1
    obtain ⟨c, rfl, c2, c3, c4, c5⟩ := vptr_nat hj.1 hft q2
    rw [c2, a2, h.pw c3 c5, cl_some]
    unfold gX2_reckon_266
    cases eq : (vlf V t).2.2.2.2.2 c with
    | none =>
      obtain ⟨s', f1, f2, f3⟩ := h.nu (v := 0) a3 a5
      exact ⟨s', by rw [if_neg (by simp), f1, cl_some], f2, f3, rfl⟩
    | some q =>
      obtain ⟨g1, g2, g3, g4⟩ := h.pt c3 c5 eq
      have hm := h.2.1.m
      have hwq := (h.1.2.2.2.2.1 t h.2.2.2.1 q.1 g1).2.2.2 q.2 g2
      have hvq : vsw V.1 (vpl V t) (V.2.2.2 t q.1) q.2 = (V.2.2.2 t q.1).2.2.2.2.1 q.2 := by unfold vsw; rw [if_neg g3]
      obtain ⟨s', f1, f2, f3⟩ := h.nu (v := (V.2.2.2 t q.1).2.2.2.2.1 q.2) a3 a5
      refine ⟨s', ?_, f2, f3, rfl⟩
      dsimp only
      rw [if_pos (nI_m1 (by omega)), c_word g4, cl_some, hwq, hvq, f1, cl_some]
  · rw [if_neg (by decide), if_neg (by decide), if_neg (by decide), if_neg (by decide), if_neg (by decide), if_neg (by decide), if_pos (by decide), vln1_5]
    obtain ⟨q1, q2⟩ := p5 rfl
    obtain ⟨a, rfl, a2, a3, a4, a5⟩ := vptr_nat hj.1 hft q1
    obtain ⟨c, rfl, c2, c3, c4, c5⟩ := vnum_nat hj.1 hft q2
    rw [a2, h.pw a3 a5, cl_some, h.n c3 c5, cl_some]
    cases eq : (vlf V t).2.2.2.2.2 a with
    | none =>
      dsimp only
      rw [c_put_m, cl_some]
      exact ⟨s, rfl, h.1, TO.refl, rfl⟩
    | some q =>
      obtain ⟨g1, g2, g3, g4⟩ := h.pt a3 a5 eq
      dsimp only
      rw [c_put g4, cl_some]
      exact ⟨_, rfl, h.1.num h.2.1 hj h.2.2.2.1 g1 g2 g3, TO.u (by omega) h.2.2.2.1, rfl⟩
  · rw [if_neg (by decide), if_neg (by decide), if_neg (by decide), if_neg (by decide), if_neg (by decide), if_neg (by decide), if_neg (by decide), if_neg (by decide), if_pos (by decide), vln1_7]
    obtain ⟨q1, -⟩ := p7 rfl
    obtain ⟨a, rfl, a2, a3, a4, a5⟩ := vnum_nat hj.1 hft q1
    rw [h.n a3 a5, cl_some, show (0 : Int32).toInt = 0 from rfl]
    by_cases cq : (vnm (vlf V t) (nI a)).toInt ≤ 0
    · rw [if_pos cq, if_pos cq]
      exact ⟨s, rfl, h.1, TO.refl, rfl⟩
    · rw [if_neg cq, if_neg cq, wr_eq]
      exact ⟨_, rfl, h.1.line h.2.1 hj h.2.2.2.1 h.2.2.2.2.1, TO.u (by omega) h.2.2.2.1, vs_ne (by omega)⟩
/-- a function that isn't told is called -/
theorem c_cf0 (h : LC b lim s V zs fr t l) (e1 : V.1 (vco (vlf V t).1 l + 1) = A) (e3 : V.1 (vco (vlf V t).1 l + 3) = C) (hC : vnum V.1 (vlf V t).1 C) (ht : ¬ tld V.1 A) :
    ∃ s', gX2_callFunction b (b + 17 + 2 * t) s (nI l) = some (-1, s') ∧ RC b lim s' (vnu V t (V.2.2.1 t - 1) C.toInt.toNat 0) zs fr ∧ TO b t s s' := by
  have hft := h.f.1
  have hj := h.2.2.1
  unfold gX2_callFunction
  rw [h.t9, c_part1 h.1.2.2.2.2.2 hj.1 hft h.2.2.2.2.2.2, cl_some, c_told h.1.2.2.2.2.2, cl_some, if_rb, e1, if_neg ht, h.t9, c_part3 h.1.2.2.2.2.2 hj.1 hft h.2.2.2.2.2.2, cl_some, e3, h.t11]
  obtain ⟨a, rfl, a2, a3, a4, a5⟩ := vnum_nat hj.1 hft hC
  obtain ⟨s', f1, f2, f3⟩ := h.nu (v := 0) a3 a5
  exact ⟨s', by rw [f1, cl_some], by rw [a2]; exact f2, f3⟩
theorem c_cf1 (h : LC b lim s V zs fr t l) (e1 : V.1 (vco (vlf V t).1 l + 1) = A) (ht : tld V.1 A) : gX2_callFunction b (b + 17 + 2 * t) s (nI l) = some (A, s) := by
  have hft := h.f.1
  have hj := h.2.2.1
  unfold gX2_callFunction
  rw [h.t9, c_part1 h.1.2.2.2.2.2 hj.1 hft h.2.2.2.2.2.2, cl_some, c_told h.1.2.2.2.2.2, cl_some, if_rb, e1, if_pos ht]
end
