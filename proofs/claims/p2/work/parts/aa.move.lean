/-! ===== the class: a copied stack moves ===== -/
theorem nI_turn {p g a : Nat} (h : a ≤ p) : nI p + (nI g - nI a) = nI (g + (p - a)) := by
  rw [Int32.sub_eq_add_neg, ← Int32.add_assoc, nI_add, ← Int32.sub_eq_add_neg, nI_sub (by omega), show p + g - a = g + (p - a) by omega]
theorem vins_lt {q : vP} {l : List vP} (h : ∀ p ∈ l, q.1 < p.1) : vins q l = q :: l := by
  cases l with
  | nil => rfl
  | cons p l =>
    unfold vins
    rw [if_pos (h p List.mem_cons_self)]
theorem vins_cons {q p : vP} {ps : List vP} : vins q (p :: ps) = if q.1 < p.1 then q :: p :: ps else p :: vins q ps := rfl
theorem vins_flt {lim : Nat} {q : vP} {P : vP → Bool} (hP : P q = true) : ∀ {ps : List vP}, vo lim ps → (vins q ps).filter P = vins q (ps.filter P) := by
  intro ps
  induction ps with
  | nil =>
    intro _
    show [q].filter P = [q]
    rw [List.filter_cons_of_pos hP]; rfl
  | cons p ps ih =>
    intro ho
    have hh := vo_head ho
    have hp := ho.2 p List.mem_cons_self
    rw [vins_cons]
    by_cases c : q.1 < p.1
    · rw [if_pos c, List.filter_cons_of_pos hP]
      exact (vins_lt (fun r hr => by
        rcases List.mem_cons.mp (List.mem_filter.mp hr).1 with rfl | hr
        · exact c
        · have := hh r hr; omega)).symm
    · rw [if_neg c]
      cases e : P p with
      | true => rw [List.filter_cons_of_pos e, List.filter_cons_of_pos e, ih (vo_tail ho), vins_cons, if_neg c]
      | false => rw [List.filter_cons_of_neg (by simp [e]), List.filter_cons_of_neg (by simp [e]), ih (vo_tail ho)]
theorem vins_map {q : vP} {f : vP → vP} (hf : ∀ p, (f p).1 = p.1) : ∀ {ps : List vP}, (vins q ps).map f = vins (f q) (ps.map f) := by
  intro ps
  induction ps with
  | nil => rfl
  | cons p ps ih =>
    show (if q.1 < p.1 then q :: p :: ps else p :: vins q ps).map f = if (f q).1 < (f p).1 then f q :: f p :: ps.map f else f p :: vins (f q) (ps.map f)
    rw [hf, hf]
    split
    · rfl
    · rw [← ih]; rfl
theorem MR.mem {mm mm' w : Nat → Int32} {n : Nat} {fr : Nat → vF} {pl : Nat → Nat} (h : MR mm w n fr pl) (he : ∀ i, i < n → ∀ j, j < vwd w (fr i).1 → mm' (pl i + j) = mm (pl i + j)) : MR mm' w n fr pl := by
  intro i hi
  obtain ⟨h1, h2, h3, h4⟩ := h i hi
  have e0 := he i hi 0 (by unfold vwd; omega)
  have e1 := he i hi 1 (by unfold vwd; omega)
  rw [Nat.add_zero] at e0
  refine ⟨h1, by rw [e0]; exact h2, by rw [e1]; exact h3, fun k hk => ?_⟩
  rw [Nat.add_assoc, he i hi (2 + k) (by unfold vwd; omega), ← Nat.add_assoc]
  exact h4 k hk
theorem vud_us {w : Nat → Int32} {fr : Nat → vF} : ∀ {n : Nat}, (∀ i, i < n → (fr i).2.1 = 0) → vud w fr 0 n = vus w fr n := by
  intro n
  induction n with
  | zero => intro _; rfl
  | succ n ih =>
    intro h
    show vud w fr 0 n + _ = vus w fr n + _
    rw [ih (fun i hi => h i (by omega)), if_pos (h n (by omega))]
section
variable {b lim : Nat} {s s' : wt_S} {V V' : vV} {zs zs' : List (vP × Nat)} {fr fr' : List Nat} {t np z need : Nat}
/-- numbers of pieces are not stored -/
theorem PC.map (h : PC b lim s zs fr) {f : vP × Nat → vP × Nat} (hf : ∀ z ∈ zs, (f z).2 = z.2 ∧ (f z).1.1 = z.1.1 ∧ (f z).1.2.1 = z.1.2.1 ∧ (f z).1.2.2.1 = z.1.2.2.1) : PC b lim s (zs.map f) fr := by
  have hids : zids (zs.map f) fr = zids zs fr := by
    unfold zids
    rw [List.map_map]
    congr 1
    exact List.map_congr_left (fun z hz => (hf z hz).1)
  have hva : ∀ l : List (vP × Nat), (∀ z ∈ l, (f z).1.2.1 = z.1.2.1) → vall ((l.map f).map Prod.fst) = vall (l.map Prod.fst) := fun l => by
    induction l with
    | nil => intro _; rfl
    | cons z l ih =>
      intro hz
      show (f z).1.2.1 + vall ((l.map f).map Prod.fst) = z.1.2.1 + vall (l.map Prod.fst)
      rw [ih (fun y hy => hz y (List.mem_cons_of_mem _ hy)), hz z List.mem_cons_self]
  refine ⟨by rw [List.length_map]; exact h.1, by rw [hva zs (fun z hz => (hf z hz).2.2.1)]; exact h.2.1, h.2.2.1, by rw [hids]; exact h.2.2.2.1, by rw [hids]; exact h.2.2.2.2.1, by rw [hids]; exact h.2.2.2.2.2.1, by rw [hids]; exact h.2.2.2.2.2.2.1, fun z hz => ?_⟩
  obtain ⟨z0, hz0, rfl⟩ := List.mem_map.mp hz
  obtain ⟨f1, f2, f3, f4⟩ := hf z0 hz0
  rw [f1, f2, f3, f4]
  exact (h.mem hz0).2
theorem TH.of {pl' : Nat → Nat} (hj : VJ lim V) (ht : t < 6) (h0 : 0 < V.2.2.1 t) : TH V.1 (V.2.2.1 t) (V.2.2.2 t) (vpl V t) (vpl V t) pl' lim := by
  obtain ⟨np, h1, h2, h3⟩ := hj.geo ht h0
  refine ⟨hj.1, fun i hi => ⟨(hj.fit ht hi).1, (hj.fit ht hi).2.2⟩, fun i j hi hj2 hne => hj.dj ht ht hi hj2 (fun e => hne e.2), fun i hi k hk hb q hq => ?_, fun i hi => ?_, fun i hi => (hj.fit ht hi).2.2⟩
  · obtain ⟨a1, a2, -⟩ := h3.2.2.2.2.2 i hi k hk hb q hq
    exact ⟨a1, a2⟩
  · obtain ⟨b1, b2, -⟩ := h3.2.2.1 i hi
    exact ⟨b1, b2⟩
theorem VM.q {mm : Nat → Int32} (h : VM mm V) (ht : t < 6) : vMQ mm V.1 (V.2.2.1 t) (V.2.2.2 t) (vpl V t) (vpl V t) := fun i hi => (h t ht i hi).2
/-- words are brought over -/
theorem c_bring {from' to u : Nat} (hx : CX b lim) (h1 : from' + u ≤ lim) (h2 : to + u ≤ lim) : ∃ s', gX3_bring b s (nI from') (nI to) (nI u) = some ((), s') ∧ (∀ c, c ≠ b + 15 → s' c = s c) ∧ (∀ j, j < u → s' (b + 15) (to + j) = s (b + 15) (from' + j)) ∧ ∀ x, x < to ∨ to + u ≤ x → s' (b + 15) x = s (b + 15) x := by
  have hxm := hx.m
  unfold gX3_bring
  by_cases c : u = 0
  · subst c
    rw [if_pos (by rw [nI_int (by omega), ci0]; omega)]
    exact ⟨s, rfl, fun _ _ => rfl, fun j hj => absurd hj (by omega), fun _ _ => rfl⟩
  · have hm : Int32.ofInt (Int.ofNat (wt_mz b)) = nI (wt_mz b) := Int32.ofInt_eq_ofNat
    rw [if_neg (by rw [nI_int (by omega), ci0]; omega), if_neg (c_lo (by omega)), hm, nI_sub (by omega), if_neg (by rw [nI_int (by omega), nI_int (by omega)]; omega), if_neg (c_lo (by omega)), if_neg (by rw [nI_int (by omega), nI_int (by omega)]; omega), c_ac (by omega) (by omega) (by omega) (by omega)]
    refine ⟨_, rfl, fun c hc => wt_uf_ne hc, fun j hj => ?_, fun x hx => ?_⟩
    · rw [wt_uf_at, mj_cpy_in (by omega) (by omega), show from' + (to + j - to) = from' + j by omega]
    · rw [wt_uf_at, mj_cpy_out (by omega)]
end
