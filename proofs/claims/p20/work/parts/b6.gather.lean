section
/-! ===== the class: COMPACT ===== -/
theorem vall_app : ∀ {a c : List vP}, vall (a ++ c) = vall a + vall c := by
  intro a
  induction a with
  | nil => intro c; show vall c = 0 + vall c; omega
  | cons q a ih =>
    intro c
    show q.2.1 + vall (a ++ c) = q.2.1 + vall a + vall c
    rw [ih]; omega
/-- the words of all pieces before a rank -/
def zP (zs : List (vP × Nat)) (x : Nat) : Nat := vall ((zs.take x).map Prod.fst)
theorem vpk_at : ∀ {ps : List vP} {a x : Nat}, (vpk a ps)[x]? = (ps[x]?).map (fun q => (a + vall (ps.take x), q.2.1, q.2.2)) := by
  intro ps
  induction ps with
  | nil => intro a x; rfl
  | cons q ps ih =>
    intro a x
    cases x with
    | zero => rfl
    | succ x =>
      show (vpk (a + q.2.1) ps)[x]? = (ps[x]?).map (fun p => (a + (q.2.1 + vall (ps.take x)), p.2.1, p.2.2))
      rw [ih]
      congr 1
      funext p
      rw [Nat.add_assoc]
theorem vall_pk : ∀ {ps : List vP} {a : Nat}, vall (vpk a ps) = vall ps := by
  intro ps
  induction ps with
  | nil => intro a; rfl
  | cons q ps ih =>
    intro a
    show q.2.1 + vall (vpk (a + q.2.1) ps) = q.2.1 + vall ps
    rw [ih]
def zpk (zs : List (vP × Nat)) : List (vP × Nat) := zs.mapIdx (fun x z => ((zP zs x, z.1.2.1, z.1.2.2), z.2))
theorem vMQ_mem {mm mm' W : Nat → Int32} {n : Nat} {fr : Nat → vF} {ql pl : Nat → Nat} (h : vMQ mm W n fr ql pl) (he : ∀ i, i < n → ∀ j, j < vwd W (fr i).1 → mm' (ql i + j) = mm (ql i + j)) : vMQ mm' W n fr ql pl := by
  intro i hi
  obtain ⟨h1, h2, h3⟩ := h i hi
  have e0 : mm' (ql i) = mm (ql i) := he i hi 0 (by unfold vwd; omega)
  refine ⟨by rw [e0]; exact h1, by rw [he i hi 1 (by unfold vwd; omega)]; exact h2, fun k hk => ?_⟩
  rw [Nat.add_assoc, he i hi (2 + k) (by unfold vwd; omega), ← Nat.add_assoc]
  exact h3 k hk
section
variable {b lim B : Nat} {s s' : wt_S} {V V' : vV} {zs zs' : List (vP × Nat)} {fr fr' : List Nat} {t np z : Nat}
theorem zP_s {x : Nat} {y : vP × Nat} (h : zs[x]? = some y) : zP zs (x + 1) = zP zs x + y.1.2.1 := by
  unfold zP
  rw [List.take_succ, h, List.map_append, vall_app]
  rfl
theorem zP_le (ho : vo lim (zs.map Prod.fst)) : ∀ {x : Nat} {y : vP × Nat}, zs[x]? = some y → zP zs x ≤ y.1.1 := by
  intro x
  induction x with
  | zero => intro y _; exact Nat.zero_le _
  | succ x ih =>
    intro y hy
    have hl := (List.getElem?_eq_some_iff.mp hy).1
    have hw : zs[x]? = some zs[x] := List.getElem?_eq_getElem (by omega)
    rw [zP_s hw]
    have := ih hw
    have := (zs_lt ho hw hy (by omega)).1
    omega
theorem zP_mono {x y : Nat} (h : x ≤ y) (hy : y ≤ zs.length) : zP zs x ≤ zP zs y := by
  induction y with
  | zero => rw [show x = 0 by omega]; exact Nat.le_refl _
  | succ y ih =>
    by_cases c : x = y + 1
    · rw [c]; exact Nat.le_refl _
    · have := ih (by omega) (by omega)
      have hw : zs[y]? = some zs[y] := List.getElem?_eq_getElem (by omega)
      rw [zP_s hw]
      omega
theorem zpk_at {x : Nat} : (zpk zs)[x]? = (zs[x]?).map (fun y => ((zP zs x, y.1.2.1, y.1.2.2), y.2)) := by
  unfold zpk
  rw [List.getElem?_mapIdx]
theorem zpk_len : (zpk zs).length = zs.length := by unfold zpk; rw [List.length_mapIdx]
theorem zpk_fst : (zpk zs).map Prod.fst = vpk 0 (zs.map Prod.fst) := by
  apply List.ext_getElem?
  intro x
  rw [List.getElem?_map, zpk_at, vpk_at, List.getElem?_map, ← List.map_take]
  cases zs[x]? with
  | none => rfl
  | some y =>
    show some (zP zs x, y.1.2.1, y.1.2.2) = some (0 + vall ((zs.take x).map Prod.fst), y.1.2.1, y.1.2.2)
    rw [Nat.zero_add]
    rfl
theorem zpk_snd : (zpk zs).map Prod.snd = zs.map Prod.snd := by
  apply List.ext_getElem?
  intro x
  rw [List.getElem?_map, zpk_at, List.getElem?_map]
  cases zs[x]? with
  | none => rfl
  | some y => rfl
theorem zpk_mem {y : vP × Nat} : y ∈ zpk zs ↔ ∃ x z, zs[x]? = some z ∧ y = ((zP zs x, z.1.2.1, z.1.2.2), z.2) := by
  constructor
  · intro h
    obtain ⟨x, hx⟩ := List.getElem?_of_mem h
    rw [zpk_at] at hx
    obtain ⟨z, h1, h2⟩ := Option.map_eq_some_iff.mp hx
    exact ⟨x, z, h1, h2.symm⟩
  · rintro ⟨x, z, h1, rfl⟩
    refine List.mem_of_getElem? (i := x) ?_
    rw [zpk_at, h1]
    rfl
theorem PC.rk (h : PC b lim s zs fr) {x y : Nat} {z1 z2 : vP × Nat} (h1 : zs[x]? = some z1) (h2 : zs[y]? = some z2) (he : z1.2 = z2.2) : x = y := by
  have e1 := zids_at (fr := fr) h1
  have e2 := zids_at (fr := fr) h2
  have hn := h.2.2.2.2.1
  obtain ⟨l1, q1⟩ := List.getElem?_eq_some_iff.mp e1
  obtain ⟨l2, q2⟩ := List.getElem?_eq_some_iff.mp e2
  exact (List.getElem_inj hn).mp (by rw [q1, q2, he])
theorem c_gat_4 (hP : PC b lim s zs fr) (ho : vo lim (zs.map Prod.fst)) (hl : lim ≤ 10000) : ∀ (m k fu : Nat) (s1 : wt_S), k + m = zs.length → m < fu → (∀ c, c ≠ b + 9 → s1 c = s c) → (∀ (x : Nat) (y : vP × Nat), x < k → zs[x]? = some y → s1 (b + 9) y.2 = nI (zP zs x) - nI y.1.1) → ∃ s2, gX4_gather_4 b fu s1 (nI (zP zs k)) (nI k) = gX4_gather_64 b wt_N s2 6 0 ∧ (∀ c, c ≠ b + 9 → s2 c = s c) ∧ ∀ (x : Nat) (y : vP × Nat), zs[x]? = some y → s2 (b + 9) y.2 = nI (zP zs x) - nI y.1.1 := by
  have hn := hP.len
  intro m
  induction m with
  | zero =>
    intro k fu s1 hk hfu h1 h2
    obtain ⟨fu, rfl⟩ : ∃ k, fu = k + 1 := ⟨fu - 1, by omega⟩
    refine ⟨s1, ?_, h1, fun x y hy => h2 x y (by have := (List.getElem?_eq_some_iff.mp hy).1; omega) hy⟩
    rw [gX4_gather_4, h1 _ (by omega), hP.1, if_pos (by rw [nI_int (by omega), nI_int (by omega)]; omega)]
  | succ m ih =>
    intro k fu s1 hk hfu h1 h2
    obtain ⟨fu, rfl⟩ : ∃ k, fu = k + 1 := ⟨fu - 1, by omega⟩
    have hz : zs[k]? = some zs[k] := List.getElem?_eq_getElem (by omega)
    generalize zs[k] = z at hz
    have hP1 : PC b lim s1 zs fr := hP.eq (fun c hc => h1 c (by omega))
    obtain ⟨g1, g2, g3, g4, g5, g6, g7⟩ := hP1.at hz
    rw [gX4_gather_4, h1 (b + 2) (by omega), hP.1, if_neg (by rw [nI_int (by omega), nI_int (by omega)]; omega), c_idAt hP1 hz, cl_some, c_aimAt g2, cl_some, c_wordsOf g2, cl_some, wt_u_ne (show b + 4 ≠ b + 9 by omega), g6, g5, nI_add, ← zP_s hz, show nI k + 1 = nI (k + 1) from nI_add k 1]
    refine ih (k + 1) fu (wt_u s1 (b + 9) z.2 (nI (zP zs k) - nI z.1.1)) (by omega) (by omega) (fun c hc => by rw [wt_u_ne hc]; exact h1 c hc) (fun x y hx hy => ?_)
    by_cases c : y.2 = z.2
    · have := hP.rk hy hz c
      subst this
      rw [hz] at hy
      cases hy
      rw [wt_u_self]
    · rw [wt_u_nk c]
      by_cases c2 : x = k
      · subst c2
        rw [hz] at hy
        cases hy
        exact absurd rfl c
      · exact h2 x y (by omega) hy
theorem c_gat_92 {u : vP × Nat → Nat} (hx : CX b lim) (hP : PC b lim s zs fr) (ho : vo lim (zs.map Prod.fst)) (h9 : ∀ (x : Nat) (y : vP × Nat), zs[x]? = some y → s (b + 9) y.2 = nI (zP zs x) - nI y.1.1) (h5 : ∀ (x : Nat) (y : vP × Nat), zs[x]? = some y → s (b + 5) y.2 = nI (u y) ∧ u y ≤ y.1.2.1) : ∀ (m k c fu : Nat) (s1 : wt_S), k + m = zs.length → m < fu → c + m < 100000 → (∀ d, d ≠ b + 3 → d ≠ b + 15 → d ≠ b + 11 → d ≠ b + 12 → s1 d = s d) → (∀ (x : Nat) (y : vP × Nat), zs[x]? = some y → s1 (b + 3) y.2 = nI (if x < k then zP zs x else y.1.1)) → (∀ a, zP zs k ≤ a → s1 (b + 15) a = s (b + 15) a) → (∀ (x : Nat) (y : vP × Nat), x < k → zs[x]? = some y → ∀ j, j < u y → s1 (b + 15) (zP zs x + j) = s (b + 15) (y.1.1 + j)) →
    ∃ s2, gX4_gather_92 b fu s1 (nI c) (nI k) = some (nI (c + vcc (zP zs k) ((zs.drop k).map Prod.fst)), s2) ∧ (∀ d, d ≠ b + 3 → d ≠ b + 15 → d ≠ b + 11 → d ≠ b + 12 → s2 d = s d) ∧ (∀ (x : Nat) (y : vP × Nat), zs[x]? = some y → s2 (b + 3) y.2 = nI (zP zs x)) ∧ ∀ (x : Nat) (y : vP × Nat), zs[x]? = some y → ∀ j, j < u y → s2 (b + 15) (zP zs x + j) = s (b + 15) (y.1.1 + j) := by
  have hb := hx.b
  have hxm := hx.m
  have hn := hP.len
  intro m
  induction m with
  | zero =>
    intro k c fu s1 hk hfu hc h1 h2 h3 h4
    obtain ⟨fu, rfl⟩ : ∃ k, fu = k + 1 := ⟨fu - 1, by omega⟩
    refine ⟨s1, ?_, h1, fun x y hy => ?_, fun x y hy => h4 x y (by have := (List.getElem?_eq_some_iff.mp hy).1; omega) hy⟩
    · rw [gX4_gather_92, h1 _ (by omega) (by omega) (by omega) (by omega), hP.1, if_pos (by rw [nI_int (by omega), nI_int (by omega)]; omega), List.drop_eq_nil_of_le (by omega)]
      rfl
    · rw [h2 x y hy, if_pos (by have := (List.getElem?_eq_some_iff.mp hy).1; omega)]
  | succ m ih =>
    intro k c fu s1 hk hfu hc h1 h2 h3 h4
    obtain ⟨fu, rfl⟩ : ∃ k, fu = k + 1 := ⟨fu - 1, by omega⟩
    have hlk : k < zs.length := by omega
    have hdr : zs.drop k = zs[k] :: zs.drop (k + 1) := List.drop_eq_getElem_cons hlk
    have hz : zs[k]? = some zs[k] := List.getElem?_eq_getElem hlk
    generalize zs[k] = z at hz hdr
    obtain ⟨g1, g2, g3, g4, g5, g6, g7⟩ := hP.at hz
    have hzo := (ho.2 z.1 (List.mem_map.mpr ⟨z, List.mem_of_getElem? hz, rfl⟩))
    have hle := zP_le ho hz
    obtain ⟨u1, u2⟩ := h5 k z hz
    have e3 : s1 (b + 3) z.2 = nI z.1.1 := by rw [h2 k z hz, if_neg (by omega)]
    have e9 : s1 (b + 9) z.2 = nI (zP zs k) - nI z.1.1 := by rw [h1 _ (by omega) (by omega) (by omega) (by omega)]; exact h9 k z hz
    have e5 : s1 (b + 5) z.2 = nI (u z) := by rw [h1 _ (by omega) (by omega) (by omega) (by omega)]; exact u1
    have hid : gX5_idAt b s1 (nI k) = some (nI z.2, s1) := by
      unfold gX5_idAt
      rw [if_neg (c_lo (by omega)), h1 (b + 2) (by omega) (by omega) (by omega) (by omega), hP.1, if_neg (by rw [nI_int (by omega), nI_int (by omega)]; omega), if_neg (c_hi g4), ix_nI g4 (by omega), h1 (b + 8) (by omega) (by omega) (by omega) (by omega), g1]
    obtain ⟨s4, b1, b2, b3, b4⟩ := c_bring (s := s1) (b := b) (from' := z.1.1) (to := zP zs k) (u := u z) hx (by omega) (by omega)
    have hbr : gX4_bringOver b s1 (nI z.2) = some ((), s4) := by
      unfold gX4_bringOver
      rw [c_placeOf g2, cl_some, c_shiftOf g2, cl_some, c_usedOf g2, cl_some, e3, e9, e5, nI_turn (Nat.le_refl _), Nat.sub_self, Nat.add_zero, b1, cl_some]
    have hvc : vcc (zP zs k) ((zs.drop k).map Prod.fst) = (if z.1.1 = zP zs k then 0 else 1) + vcc (zP zs (k + 1)) ((zs.drop (k + 1)).map Prod.fst) := by
      rw [hdr, zP_s hz]
      rfl
    have hmem4 : ∀ (x : Nat) (y : vP × Nat), x < k + 1 → zs[x]? = some y → ∀ j, j < u y → s4 (b + 15) (zP zs x + j) = s (b + 15) (y.1.1 + j) := fun x y hxk hy j hj => by
      by_cases c2 : x = k
      · subst c2
        rw [hz] at hy
        cases hy
        rw [b3 j hj, h3 _ (by omega)]
      · have hm := zP_mono (zs := zs) (show x + 1 ≤ k by omega) (by omega)
        rw [zP_s hy] at hm
        have := (h5 x y hy).2
        rw [b4 _ (by omega)]
        exact h4 x y (by omega) hy j hj
    have hmem3 : ∀ a, zP zs (k + 1) ≤ a → s4 (b + 15) a = s (b + 15) a := fun a ha => by
      rw [zP_s hz] at ha
      rw [b4 _ (by omega)]
      exact h3 a (by omega)
    have e49 : s4 (b + 9) z.2 = nI (zP zs k) - nI z.1.1 := by rw [b2 _ (by omega)]; exact e9
    rw [gX4_gather_92, h1 (b + 2) (by omega) (by omega) (by omega) (by omega), hP.1, if_neg (by rw [nI_int (by omega), nI_int (by omega)]; omega), hid, cl_some, hbr, cl_some, hvc]
    unfold gX5_settle
    rw [if_neg (c_lo (by omega)), if_neg (c_hi g2), ix_nI g2 (by omega), e49, show nI k + 1 = nI (k + 1) from nI_add k 1]
    by_cases ce : z.1.1 = zP zs k
    · rw [if_pos ce, if_neg (by rw [← ce]; simp), cl_some, if_pos rfl, Nat.zero_add]
      refine ih (k + 1) c fu s4 (by omega) (by omega) (by omega) (fun d d1 d2 d3 d4 => by rw [b2 d d2]; exact h1 d d1 d2 d3 d4) (fun x y hy => ?_) hmem3 hmem4
      rw [b2 _ (by omega), h2 x y hy]
      by_cases c2 : x = k
      · subst c2
        rw [hz] at hy
        cases hy
        rw [if_neg (by omega), if_pos (by omega), ce]
      · by_cases c3 : x < k
        · rw [if_pos c3, if_pos (by omega)]
        · rw [if_neg c3, if_neg (by omega)]
    · rw [if_neg ce, if_pos (fun q => ce ?_), ix_nI g2 (by omega), ix_nI g2 (by omega), ix_nI g2 (by omega), wr_eq, cl_some, if_neg (by decide), e49, b2 (b + 3) (by omega), e3, nI_turn (Nat.le_refl _), Nat.sub_self, Nat.add_zero (zP zs k)]
      · obtain ⟨s5, w1, w2⟩ := c_writeLog (b := b) (s := wt_u s4 (b + 3) z.2 (nI (zP zs k))) (i1 := 7) g2
        rw [w1, cl_some, show nI c + 1 = nI (c + 1) from nI_add c 1, ← Nat.add_assoc]
        have e15 : s5 (b + 15) = s4 (b + 15) := by rw [w2 _ (by omega) (by omega), wt_u_ne (by omega)]
        refine ih (k + 1) (c + 1) fu s5 (by omega) (by omega) (by omega) (fun d d1 d2 d3 d4 => by rw [w2 d d3 d4, wt_u_ne d1, b2 d d2]; exact h1 d d1 d2 d3 d4) (fun x y hy => ?_) (fun a ha => by rw [e15]; exact hmem3 a ha) (fun x y hxk hy j hj => by rw [e15]; exact hmem4 x y hxk hy j hj)
        rw [w2 _ (by omega) (by omega)]
        by_cases c2 : x = k
        · subst c2
          rw [hz] at hy
          cases hy
          rw [wt_u_self, if_pos (by omega)]
        · rw [wt_u_nk (fun q => c2 (hP.rk hy hz q)), b2 _ (by omega), h2 x y hy]
          by_cases c3 : x < k
          · rw [if_pos c3, if_pos (by omega)]
          · rw [if_neg c3, if_neg (by omega)]
      · have q : nI (zP zs k) = nI z.1.1 := by
          have := congrArg (fun v => v + nI z.1.1) q
          simpa [Int32.sub_add_cancel] using this
        exact ((nI_inj (by omega) (by omega)).mp q).symm
end
end
section
/-! ===== the class: COMPACT, whole ===== -/
section
variable {b lim B : Nat} {s s' : wt_S} {V V' : vV} {zs zs' : List (vP × Nat)} {fr fr' : List Nat} {t np z : Nat}
/-- all tasks' words are turned -/
theorem c_gat_64 {pn : Nat → Nat → Nat} (hx : CX b lim) (hj : VJ lim V) (h4 : ∀ t, t < 6 → s (b + 17 + 2 * t) 4 = nI (V.2.2.1 t)) (h11 : ∀ t, t < 6 → s (b + 17 + 2 * t) 11 = if V.2.2.1 t = 0 then -1 else nI (vpl V t (V.2.2.1 t - 1))) (h9 : ∀ t, t < 6 → 0 < V.2.2.1 t → s (b + 17 + 2 * t) 9 = nI (V.2.2.2 t (V.2.2.1 t - 1)).1) (hn : ∀ t, t < 6 → V.2.2.1 t < 100000) (hG : ∀ t, t < 6 → GC b s V.1 (V.2.2.1 t) (V.2.2.2 t) (vpl V t) (pn t)) (hR : RP 5 s V.1) :
    ∀ (m k fu : Nat) (s1 : wt_S), k + m = 6 → m < fu → (∀ c, c ≠ b + 15 → c ≠ b + 16 → (∀ t, t < 6 → c ≠ b + 17 + 2 * t) → s1 c = s c) → (∀ t, t < 6 → s1 (b + 17 + 2 * t) = if t < k then mj_upd (s (b + 17 + 2 * t)) 11 (if V.2.2.1 t = 0 then -1 else nI (pn t (V.2.2.1 t - 1))) else s (b + 17 + 2 * t)) → (∀ t, t < 6 → vMQ (s1 (b + 15)) V.1 (V.2.2.1 t) (V.2.2.2 t) (vpl V t) (if t < k then pn t else vpl V t)) →
    ∃ s2, gX4_gather_64 b fu s1 6 (nI k) = gX4_gather_92 b wt_N s2 0 0 ∧ (∀ c, c ≠ b + 15 → c ≠ b + 16 → (∀ t, t < 6 → c ≠ b + 17 + 2 * t) → s2 c = s c) ∧ (∀ t, t < 6 → s2 (b + 17 + 2 * t) = mj_upd (s (b + 17 + 2 * t)) 11 (if V.2.2.1 t = 0 then -1 else nI (pn t (V.2.2.1 t - 1)))) ∧ ∀ t, t < 6 → vMQ (s2 (b + 15)) V.1 (V.2.2.1 t) (V.2.2.2 t) (vpl V t) (pn t) := by
  have hb := hx.b
  intro m
  induction m with
  | zero =>
    intro k fu s1 hk hfu h1 h2 h3
    obtain ⟨fu, rfl⟩ : ∃ k, fu = k + 1 := ⟨fu - 1, by omega⟩
    have hk6 : k = 6 := by omega
    subst hk6
    refine ⟨s1, ?_, h1, fun t ht => by rw [h2 t ht, if_pos ht], fun t ht => by have := h3 t ht; rw [if_pos ht] at this; exact this⟩
    rw [gX4_gather_64, if_pos (by decide)]
  | succ m ih =>
    intro k fu s1 hk hfu h1 h2 h3
    obtain ⟨fu, rfl⟩ : ∃ k, fu = k + 1 := ⟨fu - 1, by omega⟩
    have hk6 : k < 6 := by omega
    have eT : s1 (b + 17 + 2 * k) = s (b + 17 + 2 * k) := by rw [h2 k hk6, if_neg (by omega)]
    have hR1 : RP 5 s1 V.1 := hR.eq hj.1 vpe.refl (fun c c1 c2 => h1 c (by omega) (by omega) (fun t _ => by omega))
    have hG1 : GC b s1 V.1 (V.2.2.1 k) (V.2.2.2 k) (vpl V k) (pn k) := fun s' hs' => hG k hk6 s' (fun c c1 c2 => by rw [hs' c c1 c2]; exact h1 c (by omega) (by omega) (fun t _ => by omega))
    have hq1 := h3 k hk6
    rw [if_neg (by omega)] at hq1
    obtain ⟨s2, t1, t2, t3, t4, t5⟩ := c_turns (s := s1) hx (T := b + 17 + 2 * k) (by omega) (hn k hk6) (by rw [eT]; exact h4 k hk6) (by rw [eT]; exact h11 k hk6) (fun h0 => by rw [eT]; exact h9 k hk6 h0) (fun h0 => TH.of hj hk6 h0) hG1 hR1 hq1
    rw [gX4_gather_64, if_neg (by rw [nI_int (by omega)]; show ¬ (6 : Int) ≤ _; omega), ix_nI hk6 (by omega), t1, cl_some, show nI k + 1 = nI (k + 1) from nI_add k 1]
    refine ih (k + 1) fu s2 (by omega) (by omega) (fun c c1 c2 c3 => by rw [t2 c c1 c2 (c3 k hk6)]; exact h1 c c1 c2 c3) (fun t ht => ?_) (fun t ht => ?_)
    · by_cases c : t = k
      · subst c
        rw [t3, eT, if_pos (show t < t + 1 by omega)]
      · rw [t2 _ (by omega) (by omega) (by omega), h2 t ht]
        by_cases c2 : t < k
        · rw [if_pos c2, if_pos (show t < k + 1 by omega)]
        · rw [if_neg c2, if_neg (show ¬ t < k + 1 by omega)]
    · by_cases c : t = k
      · subst c
        rw [if_pos (by omega)]
        exact t4
      · have := h3 t ht
        rw [show (if t < k + 1 then pn t else vpl V t) = (if t < k then pn t else vpl V t) by
          by_cases c2 : t < k
          · rw [if_pos c2, if_pos (by omega)]
          · rw [if_neg c2, if_neg (by omega)]]
        refine vMQ_mem this (fun i hi j hj2 => t5 _ (fun j' hj' => ?_))
        have := hj.dj ht hk6 hi hj' (fun q => c q.1)
        omega
theorem cm_at (hx : CX b 2048) (h1 : zs.map Prod.fst = V.2.1) (hj : VJ 2048 V) (hP : PC b 2048 s zs fr) {x : Nat} {y : vP × Nat} (hy : zs[x]? = some y) : vat (vpk 0 V.2.1) y.1.2.2.1 y.1.2.2.2 = zP zs x := by
  have hpw : (vpk 0 V.2.1).Pairwise (fun p q => ¬ (p.2.2.1 = q.2.2.1 ∧ p.2.2.2 = q.2.2.2)) := (cm_J hj).2.2.1
  have hm : (zpk zs).map Prod.fst = vpk 0 V.2.1 := by rw [zpk_fst, h1]
  have hin : ((zP zs x, y.1.2.1, y.1.2.2), y.2) ∈ zpk zs := zpk_mem.mpr ⟨x, y, hy, rfl⟩
  obtain ⟨-, w, -, w2, w3, w4, w5, -⟩ := zfind (t := y.1.2.2.1) (n := y.1.2.2.2) hm hpw ⟨(zP zs x, y.1.2.1, y.1.2.2), by rw [← hm]; exact List.mem_map.mpr ⟨_, hin, rfl⟩, rfl, rfl⟩
  have := zuniq hm hpw w2 hin w3 w4
  rw [w5, this]
theorem c_gather (h : RC b 2048 s V zs fr) (hx : CX b 2048) (hI : VI 2048 B V) : ∃ s' zs', gX4_gather b s = some (nI (vcc 0 V.2.1), s') ∧ RC b 2048 s' (vcm V) zs' fr ∧ CF b s s' := by
  have hb := hx.b
  have hxm := hx.m
  have hj := hI.J
  have ho : vo 2048 (zs.map Prod.fst) := by rw [h.1]; exact hj.2.1
  have hn := h.2.1.len
  obtain ⟨s2, a1, a2, a3⟩ := c_gat_4 h.2.1 ho hx.2.2 zs.length 0 wt_N s (by omega) (by unfold wt_N; omega) (fun _ _ => rfl) (fun x y hx _ => by omega)
  -- what is used
  have hu : ∀ (x : Nat) (y : vP × Nat), zs[x]? = some y → s2 (b + 5) y.2 = nI ((fun y : vP × Nat => vud V.1 (V.2.2.2 y.1.2.2.1) y.1.2.2.2 (V.2.2.1 y.1.2.2.1)) y) ∧ (fun y : vP × Nat => vud V.1 (V.2.2.2 y.1.2.2.1) y.1.2.2.2 (V.2.2.1 y.1.2.2.1)) y ≤ y.1.2.1 := fun x y hy => by
    have hm := List.mem_of_getElem? hy
    have hin := h.mem hm
    have ht6 := (hj.2.1.2 y.1 hin).2.2.1
    refine ⟨?_, ?_⟩
    · rw [a2 _ (by omega)]
      exact ((h.2.2.2.1 _ ht6).2.2.2.2.2 y hm rfl).1
    · show vud V.1 (V.2.2.2 y.1.2.2.1) y.1.2.2.2 (V.2.2.1 y.1.2.2.1) ≤ y.1.2.1
      by_cases c : V.2.2.1 y.1.2.2.1 = 0
      · rw [c, vud]; omega
      · obtain ⟨np, g1, g2, -⟩ := hj.geo ht6 (by omega)
        have := g2.udl (k := y.1.2.2.2)
        obtain ⟨-, w, -, w2, w3, w4, w5, w6, -⟩ := zfind (t := y.1.2.2.1) (n := y.1.2.2.2) h.1 hj.2.2.1 ⟨y.1, hin, rfl, rfl⟩
        have hwy := zuniq h.1 hj.2.2.1 w2 hm w3 w4
        rw [w6, hwy] at this
        exact this
  -- where a frame comes
  have hpc : ∀ t, t < 6 → ∀ i, i < V.2.2.1 t → ∃ x y, zs[x]? = some y ∧ y ∈ zs ∧ y.1.2.2.1 = t ∧ y.1.2.2.2 = (V.2.2.2 t i).2.1 ∧ vpl V t i = y.1.1 + (V.2.2.2 t i).2.2.1 ∧ vpl (vcp1 V) t i = zP zs x + (V.2.2.2 t i).2.2.1 ∧ (V.2.2.2 t i).2.2.1 + vwd V.1 (V.2.2.2 t i).1 ≤ y.1.2.1 ∧ (V.2.2.2 t i).2.2.1 + vwd V.1 (V.2.2.2 t i).1 ≤ vud V.1 (V.2.2.2 t) (V.2.2.2 t i).2.1 (V.2.2.1 t) := fun t ht i hi => by
    obtain ⟨np, g1, g2, -⟩ := hj.geo ht (by omega)
    have hfit := (g2.1 i hi).2
    obtain ⟨-, y, -, y2, y3, y4, y5, y6, -⟩ := zfind (t := t) (n := (V.2.2.2 t i).2.1) h.1 hj.2.2.1 (g1.1 _ (g2.1 i hi).1)
    obtain ⟨x, hy⟩ := List.getElem?_of_mem y2
    have hva := cm_at hx h.1 hj h.2.1 hy
    rw [y3, y4] at hva
    refine ⟨x, y, hy, y2, y3, y4, ?_, ?_, ?_, g2.udi hi⟩
    · unfold vpl; rw [y5]
    · show vat (vpk 0 V.2.1) t (V.2.2.2 t i).2.1 + (V.2.2.2 t i).2.2.1 = _
      rw [hva]
    · rw [y6] at hfit; exact hfit
  have hG : ∀ t, t < 6 → GC b s2 V.1 (V.2.2.1 t) (V.2.2.2 t) (vpl V t) (vpl (vcp1 V) t) := fun t ht s' hs' i hi j hj2 => by
    have hP' : PC b 2048 s' zs fr := h.2.1.eq (fun c hc => by rw [hs' c (by omega) (by omega), a2 c (by omega)])
    obtain ⟨x, y, hy, y2, y3, y4, y5, y6, y7, -⟩ := hpc t ht i hi
    rw [c_turned hP' ho hx.2.2 y2 ⟨by omega, by omega⟩, hs' _ (by omega) (by omega), a3 x y hy, nI_turn (by omega), y5, y6, show zP zs x + (y.1.1 + (V.2.2.2 t i).2.2.1 + j - y.1.1) = zP zs x + (V.2.2.2 t i).2.2.1 + j by omega]
  have hfn : ∀ t, t < 6 → V.2.2.1 t < 100000 := fun t ht => by have := hI.n ht; omega
  have hT : ∀ t, t < 6 → s2 (b + 17 + 2 * t) = s (b + 17 + 2 * t) := fun t ht => a2 _ (by omega)
  obtain ⟨s3, c1, c2, c3, c4⟩ := c_gat_64 (s := s2) (pn := vpl (vcp1 V)) hx hj (fun t ht => by rw [hT t ht, h.at ht (e := (4, 3954)) (by decide)]; exact hI.f54 ht) (fun t ht => by
    rw [hT t ht]
    have k2 := (h.2.2.2.1 t ht).2.1
    by_cases c : V.2.2.1 t = 0
    · rw [if_pos c]; exact (k2.1 c).2
    · rw [if_neg c]; exact (k2.2 (by omega)).2) (fun t ht h0 => by
    rw [hT t ht, h.at ht (e := (9, 3975)) (by decide)]
    obtain ⟨-, n, np, e1, e2, e3, e4, e5, e6, e7, e8, e9, e10, e11, e12, -⟩ := hI.bz ht h0
    rw [e1, Nat.add_sub_cancel]
    exact e12) hfn hG (h.2.2.2.2.2.eq hj.1 vpe.refl (fun c c1 c2 => a2 c (by omega))) 6 0 wt_N s2 (by omega) (by unfold wt_N; omega) (fun _ _ _ _ => rfl) (fun t ht => by rw [if_neg (by omega)]) (fun t ht => by rw [if_neg (by omega), a2 _ (by omega)]; exact h.2.2.2.2.1.q ht)
  have f3 : ∀ c, b + 2 ≤ c → c ≤ b + 9 → s3 c = s2 c := fun c h1 h2 => c2 c (by omega) (by omega) (fun t _ => by omega)
  have hP3 : PC b 2048 s3 zs fr := h.2.1.eq (fun c hc => by rw [f3 c (by omega) (by omega), a2 c (by omega)])
  obtain ⟨s4, d1, d2, d3, d4⟩ := c_gat_92 (u := fun y : vP × Nat => vud V.1 (V.2.2.2 y.1.2.2.1) y.1.2.2.2 (V.2.2.1 y.1.2.2.1)) hx hP3 ho (fun x y hy => by rw [f3 _ (by omega) (by omega)]; exact a3 x y hy) (fun x y hy => by rw [f3 _ (by omega) (by omega)]; exact hu x y hy) zs.length 0 0 wt_N s3 (by omega) (by unfold wt_N; omega) (by omega) (fun _ _ _ _ _ => rfl) (fun x y hy => by
    rw [if_neg (by omega)]
    exact (hP3.at hy).2.2.2.2.1) (fun _ _ => rfl) (fun x y hx _ => by omega)
  rw [Nat.zero_add, List.drop_zero, h.1] at d1
  have hO : ∀ c, c ≠ b + 3 → c ≠ b + 9 → c ≠ b + 11 → c ≠ b + 12 → c ≠ b + 15 → c ≠ b + 16 → (∀ t, t < 6 → c ≠ b + 17 + 2 * t) → s4 c = s c := fun c q1 q2 q3 q4 q5 q6 q7 => by
    rw [d2 c q1 q5 q3 q4, c2 c q5 q6 q7, a2 c q2]
  have hT4 : ∀ t, t < 6 → s4 (b + 17 + 2 * t) = mj_upd (s (b + 17 + 2 * t)) 11 (if V.2.2.1 t = 0 then -1 else nI (vpl (vcp1 V) t (V.2.2.1 t - 1))) := fun t ht => by
    rw [d2 _ (by omega) (by omega) (by omega) (by omega), c3 t ht, hT t ht]
  refine ⟨s4, zpk zs, ?_, ?_, fun c hc => hO c (by omega) (by omega) (by omega) (by omega) (by omega) (by omega) (fun t ht => by omega)⟩
  · unfold gX4_gather
    have : zP zs 0 = 0 := rfl
    rw [this] at a1 d1
    rw [show (0 : Int32) = nI 0 from rfl, a1]
    show gX4_gather_64 b wt_N s2 6 (nI 0) = _
    rw [c1]
    exact d1
  have hv : ∀ i, i ≠ 2067 → (i < 3982 ∨ 3988 ≤ i) → (vcm V).1 i = V.1 i := fun i h1 h2 => vcm_ne h1 h2
  have hw : vpe V.1 (vcm V).1 := fun i hi => hv i (by omega) (by omega)
  have hm : (zpk zs).map Prod.fst = vpk 0 V.2.1 := by rw [zpk_fst, h.1]
  have hids : zids (zpk zs) fr = zids zs fr := by unfold zids; rw [zpk_snd]
  have hzz : ∀ y' ∈ zpk zs, ∃ x y, zs[x]? = some y ∧ y ∈ zs ∧ y' = ((zP zs x, y.1.2.1, y.1.2.2), y.2) := fun y' hy' => by
    obtain ⟨x, y, q1, q2⟩ := zpk_mem.mp hy'
    exact ⟨x, y, q1, List.mem_of_getElem? q1, q2⟩
  refine ⟨hm, ⟨?_, ?_, ?_, by rw [hids]; exact h.2.1.2.2.2.1, by rw [hids]; exact h.2.1.2.2.2.2.1, by rw [hids]; exact h.2.1.2.2.2.2.2.1, fun x i hi => ?_, fun y' hy' => ?_⟩, h.2.2.1.keep (hO _ (by omega) (by omega) (by omega) (by omega) (by omega) (by omega) (fun t _ => by omega)) (hO _ (by omega) (by omega) (by omega) (by omega) (by omega) (by omega) (fun t _ => by omega)) (fun i i1 i2 => hv i (by omega) (by omega)), fun k hk => ?_, fun k hk => ?_, h.2.2.2.2.2.eq hj.1 hw (fun c q1 q2 => hO c (by omega) (by omega) (by omega) (by omega) (by omega) (by omega) (fun t _ => by omega))⟩
  · rw [zpk_len, hO _ (by omega) (by omega) (by omega) (by omega) (by omega) (by omega) (fun t _ => by omega)]; exact h.2.1.1
  · rw [hm, vall_pk, ← h.1, hO _ (by omega) (by omega) (by omega) (by omega) (by omega) (by omega) (fun t _ => by omega)]; exact h.2.1.2.1
  · rw [hO _ (by omega) (by omega) (by omega) (by omega) (by omega) (by omega) (fun t _ => by omega)]; exact h.2.1.2.2.1
  · rw [hids] at hi
    rw [hO _ (by omega) (by omega) (by omega) (by omega) (by omega) (by omega) (fun t _ => by omega)]
    exact h.2.1.2.2.2.2.2.2.1 x i hi
  · obtain ⟨x, y, q1, q2, rfl⟩ := hzz y' hy'
    obtain ⟨p1, p2, p3, p4⟩ := h.2.1.mem q2
    refine ⟨d3 x y q1, ?_, ?_⟩
    · rw [hO _ (by omega) (by omega) (by omega) (by omega) (by omega) (by omega) (fun t _ => by omega)]; exact p3
    · rw [hO _ (by omega) (by omega) (by omega) (by omega) (by omega) (by omega) (fun t _ => by omega)]; exact p4
  · obtain ⟨⟨k0, k1, k1'⟩, k2, k3, k4, k5, k6⟩ := h.2.2.2.1 k hk
    have hTj : ∀ j, j ≠ 11 → s4 (b + 17 + 2 * k) j = s (b + 17 + 2 * k) j := fun j hj => by rw [hT4 k hk, mj_upd_ne hj]
    have hT11 : s4 (b + 17 + 2 * k) 11 = if V.2.2.1 k = 0 then -1 else nI (vpl (vcp1 V) k (V.2.2.1 k - 1)) := by rw [hT4 k hk, mj_upd_self]
    have e5 : s4 (b + 5) = s (b + 5) := hO _ (by omega) (by omega) (by omega) (by omega) (by omega) (by omega) (fun t _ => by omega)
    have e6 : s4 (b + 6) = s (b + 6) := hO _ (by omega) (by omega) (by omega) (by omega) (by omega) (by omega) (fun t _ => by omega)
    refine ⟨⟨?_, fun e he => ?_, fun e he => ?_⟩, ⟨fun e => ⟨?_, ?_⟩, fun e => ⟨?_, ?_⟩⟩, ⟨?_, fun y' hy' hyt hyn => ?_⟩, ⟨fun y' hy' q1 q2 => ?_, fun hq => ?_⟩, ?_, fun y' hy' hyt => ?_⟩
    · rw [hTj _ (by omega)]; exact k0
    · have q1 := tf_n e he
      have q2 := tf_p e he
      rw [hTj _ (by omega), hv _ (by omega) (by omega)]; exact k1 e he
    · have q1 := ts_n e he
      have q2 := ts_p e he
      rw [hO _ (by omega) (by omega) (by omega) (by omega) (by omega) (by omega) (fun t _ => by omega), hv _ (by omega) (by omega)]; exact k1' e he
    · rw [hTj _ (by omega)]; exact (k2.1 e).1
    · have e : V.2.2.1 k = 0 := e
      rw [hT11, if_pos e]
    · rw [hTj _ (by omega), hv _ (by omega) (by omega)]; exact (k2.2 e).1
    · have e : 0 < V.2.2.1 k := e
      rw [hT11, if_neg (by omega)]
      rfl
    · rw [hTj _ (by omega), hv _ (by omega) (by omega)]; exact k3.1
    · obtain ⟨x, y, q1, q2, rfl⟩ := hzz y' hy'
      rw [hv _ (by omega) (by omega)] at hyn
      rw [hTj _ (by omega)]
      exact k3.2 y q2 hyt hyn
    · obtain ⟨x, y, p1, p2, rfl⟩ := hzz y' hy'
      rw [hTj _ (by omega)]
      exact k4.1 y p2 q1 q2
    · rw [hTj _ (by omega)]
      refine k4.2 (fun q hq1 hq2 => ?_)
      obtain ⟨p, hp1, hp2⟩ := vpk_mem2 (a := 0) hq1
      exact hq p hp1 (by rw [hp2]; exact hq2)
    · unfold Kg
      rw [hTj _ (by omega), hv _ (by omega) (by omega), hv _ (by omega) (by omega)]; exact k5
    · obtain ⟨x, y, q1, q2, rfl⟩ := hzz y' hy'
      obtain ⟨u1, u2, u3⟩ := k6 y q2 hyt
      rw [e5, e6]
      refine ⟨?_, u2, fun y'' hy'' hyt'' hyn => ?_⟩
      · rw [u1]
        show nI (vud V.1 (V.2.2.2 k) y.1.2.2.2 (V.2.2.1 k)) = nI (vud (vcm V).1 (V.2.2.2 k) y.1.2.2.2 (V.2.2.1 k))
        rw [vud_pe hw (hj.vfr k hk)]
      · obtain ⟨x', y0, p1, p2, rfl⟩ := hzz y'' hy''
        exact u3 y0 p2 hyt'' hyn
  · intro i hi
    have hi : i < V.2.2.1 k := hi
    have hf10 := hj.vfr k hk i hi
    have hsz := hw.sz hf10
    obtain ⟨v1, v2, v3⟩ := c4 k hk i hi
    obtain ⟨x, y, hy, y2, y3, y4, y5, y6, y7, y8⟩ := hpc k hk i hi
    have hcp : ∀ j, j < vwd V.1 (V.2.2.2 k i).1 → s4 (b + 15) (vpl (vcp1 V) k i + j) = s3 (b + 15) (vpl V k i + j) := fun j hj2 => by
      have := d4 x y hy ((V.2.2.2 k i).2.2.1 + j) (by show _ < vud V.1 (V.2.2.2 y.1.2.2.1) y.1.2.2.2 (V.2.2.1 y.1.2.2.1); rw [y3, y4]; omega)
      rw [y5, y6, Nat.add_assoc, this, Nat.add_assoc]
    show (V.2.2.2 k i).1 < 10 ∧ s4 (b + 15) (vpl (vcp1 V) k i) = (if i = 0 then -1 else nI (vpl (vcp1 V) k (i - 1))) ∧ s4 (b + 15) (vpl (vcp1 V) k i + 1) = nI (V.2.2.2 k i).2.2.2.1 ∧ ∀ j, j < vsz (vcm V).1 (V.2.2.2 k i).1 → s4 (b + 15) (vpl (vcp1 V) k i + 2 + j) = vsw (vcm V).1 (vpl (vcp1 V) k) (V.2.2.2 k i) j
    refine ⟨hf10, ?_, ?_, fun j hj2 => ?_⟩
    · have this : s4 (b + 15) (vpl (vcp1 V) k i) = s3 (b + 15) (vpl V k i) := hcp 0 (by unfold vwd; omega)
      rw [this, v1]
    · rw [hcp 1 (by unfold vwd; omega), v2]
    · rw [hsz.1] at hj2
      rw [Nat.add_assoc, hcp (2 + j) (by unfold vwd; omega), ← Nat.add_assoc, v3 j hj2]
      unfold vsw
      rw [hsz.2.2.2]
theorem wl_cm {t : Nat} (h : WL V t) (hI : VI 2048 B V) (ht : t < 6) : WL (vcm V) t := by
  by_cases c : V.1 (3926 + t) = 2
  · exact h.eq hI.2.1 (fun i hi => vcm_ne (by omega) (by omega)) (vbz_f hI ht (Or.inr c)).2 (vcm_ne (by omega) (by omega)) (vcm_ne (by omega) (by omega)) rfl
  · exact WL.no (by rw [vcm_ne (by omega) (by omega)]; exact c)
theorem wl_jo {t : Nat} (h : WL V t) (hI : VI lim B V) (ht : t < 6) (hb : vbz V.1 t) : WL (vjo lim V t).2 t := by
  unfold vjo
  dsimp only
  cases vgap lim 0 V.2.1 (vdbl (vkp V t) 16 (V.1 2048).toInt.toNat) with
  | none => exact h
  | some g =>
    generalize vdbl (vkp V t) 16 (V.1 2048).toInt.toNat = words
    have hv : ∀ i, i ≠ 3982 + t → i ≠ 4066 + t → i ≠ 3933 + t → i ≠ 4017 + t → i ≠ 2059 → i ≠ 2067 → (vj3 (vj2 (vj1 V t g words) t) t).1 i = V.1 i := fun i q1 q2 q3 q4 q5 q6 => (vj3_ne q4 q5 q6).trans ((vj2_ne q2 q3).trans (mj_upd_ne q1))
    refine h.eq hI.2.1 (fun i hi => hv i (by omega) (by omega) (by omega) (by omega) (by omega) (by omega)) (vbz_f hI ht hb).2 (hv _ (by omega) (by omega) (by omega) (by omega) (by omega) (by omega)) (hv _ (by omega) (by omega) (by omega) (by omega) (by omega) (by omega)) ?_
    unfold vlf
    rw [show (vj3 (vj2 (vj1 V t g words) t) t).2.2.2 t = vjf V.1 (V.2.2.2 t) from if_pos rfl]
    rfl
end
end
section
/-! ===== no step changes with what a task began ===== -/
def KE (t : Nat) (V V' : vV) : Prop := (V'.1 (4052 + t) = V.1 (4052 + t) ∧ V'.1 (4059 + t) = V.1 (4059 + t)) ∧ Sd t V'
section
variable {t lim : Nat} {V V1 V2 : vV}
theorem KE.refl (h : Sd t V) : KE t V V := ⟨⟨rfl, rfl⟩, h⟩
theorem KE.trans (h : KE t V V1) (h' : KE t V1 V2) : KE t V V2 := ⟨⟨h'.1.1.trans h.1.1, h'.1.2.trans h.1.2⟩, h'.2⟩
theorem ke_vs {i : Nat} {v : Int32} (h : Sd t V) (hi : i ≠ 4052 + t ∧ i ≠ 4059 + t ∧ i ≠ 3989 + t) : KE t V (vs V i v) := ⟨⟨vs_ne (by omega), vs_ne (by omega)⟩, by unfold Sd; rw [vs_ne (by omega)]; exact h⟩
theorem ke_m1 : KE t V (vs V (3989 + t) (-1)) := ⟨⟨vs_ne (by omega), vs_ne (by omega)⟩, Or.inl vs_at⟩
theorem ke_same (h : Sd t V) (e : V1.1 = V.1) : KE t V V1 := ⟨⟨by rw [e], by rw [e]⟩, by unfold Sd; rw [e]; exact h⟩
theorem KE.s {i : Nat} {v : Int32} (h : KE t V V1) (hi : i ≠ 4052 + t ∧ i ≠ 4059 + t ∧ i ≠ 3989 + t) : KE t V (vs V1 i v) := h.trans (ke_vs h.2 hi)
theorem KE.p {ps : List vP} (h : KE t V V1) : KE t V (vps V1 ps) := h.trans (ke_same h.2 rfl)
theorem KE.n {n : Nat} (h : KE t V V1) : KE t V (vnf V1 t n) := h.trans (ke_same h.2 rfl)
theorem KE.c {k : Nat} {v : Int32} (h : KE t V V1) (hk : k < 12) : KE t V (vcn V1 k v) := h.trans (ke_vs h.2 (by omega))
theorem KE.l (h : KE t V V1) : KE t V (vlg1 V1) := h.trans (ke_vs h.2 (by omega))
theorem KE.i {i : Nat} (h : KE t V V1) (hi : i ≠ 4052 + t ∧ i ≠ 4059 + t ∧ i ≠ 3989 + t) : KE t V (vinc V1 i) := h.trans (ke_vs h.2 hi)
theorem ke_ga (h : Sd t V) : KE t V (vga V t) := by
  unfold vga
  dsimp only
  have h1 : KE t V (if V.1 (3989 + t) = -1 then vps V (V.2.1.filter (fun q => decide (q.2.2.1 ≠ t))) else vs (vps V (V.2.1.filter (fun q => decide (q.2.2.1 ≠ t)))) (3923 + (V.1 (3989 + t)).toInt.toNat) (-1)) := by
    split
    · exact ke_same h rfl
    · rename_i c
      obtain ⟨k, k1, k2⟩ := h.resolve_left c
      rw [k2, nI_int (by omega), Int.toNat_natCast]
      exact (ke_same (V1 := vps V (V.2.1.filter (fun q => decide (q.2.2.1 ≠ t)))) h rfl).trans (ke_vs (V := vps V (V.2.1.filter (fun q => decide (q.2.2.1 ≠ t)))) h (by omega))
  exact KE.s (KE.s (KE.n (KE.s (KE.s (KE.s (h1.trans ke_m1) (by omega)) (by omega)) (by omega))) (by omega)) (by omega)
theorem ke_lg (h : Sd t V) : KE t V (vlg1 V) := ke_vs h (by omega)
theorem ke_cn {k : Nat} {v : Int32} (h : Sd t V) (hk : k < 12) : KE t V (vcn V k v) := ke_vs h (by omega)
theorem ke_inc {i : Nat} (h : Sd t V) (hi : i ≠ 4052 + t ∧ i ≠ 4059 + t ∧ i ≠ 3989 + t) : KE t V (vinc V i) := ke_vs h hi
theorem ke_out (h : Sd t V) : KE t V (vot V t) := by
  unfold vot
  have h1 := ke_ga h
  have h2 := h1.trans (ke_vs (i := 3926 + t) (v := 4) h1.2 (by omega))
  have h3 := h2.trans (ke_cn (k := 1) (v := 1) h2.2 (by omega))
  exact h3.trans (ke_lg h3.2)
theorem ke_sp (h : Sd t V) : KE t V (vsp V t) := by
  unfold vsp
  split
  · have h1 := ke_lg h
    exact h1.trans (ke_same h1.2 rfl)
  · exact KE.refl h
theorem ke_mv {g words : Nat} (h : Sd t V) : KE t V (vmv V t g words) := by
  unfold vmv
  dsimp only
  exact KE.c (KE.s (KE.p (KE.s (KE.refl h) (by omega))) (by omega)) (by omega)
theorem ke_spl {need : Nat} (h : Sd t V) : KE t V (vspl lim V t need).2 := by
  unfold vspl
  dsimp only
  split
  · exact KE.refl h
  · exact KE.i (KE.l (KE.c (KE.i (KE.p (KE.refl h)) (by omega)) (by omega))) (by omega)
theorem ke_gr {need : Nat} (h : Sd t V) : KE t V (vgr lim V t need).2 := by
  unfold vgr
  split
  · dsimp only
    split
    · exact KE.refl h
    · exact KE.l (KE.c (KE.i (ke_mv h) (by omega)) (by omega))
  · split
    · split
      · exact KE.i (KE.l (KE.c (KE.i (KE.p (KE.refl h)) (by omega)) (by omega))) (by omega)
      · exact (ke_sp h).trans (ke_spl (ke_sp h).2)
    · exact ke_spl h
theorem ke_rm {f : Nat} (h : Sd t V) : KE t V (vrm lim V t f).2 := by
  have h1 := ke_inc (i := 4003 + t) h (by omega)
  have h2 := h1.trans (ke_cn (k := 3) (v := 1) h1.2 (by omega))
  have h3 := h2.trans (ke_gr (lim := lim) (need := vnd V.1 f) h2.2)
  unfold vrm
  dsimp only
  split
  · exact h2
  · split
    · rename_i V2 e
      rw [e] at h3
      exact h3
    · rename_i V2 e
      rw [e] at h3
      exact h3.trans (ke_out h3.2)
theorem ke_pu {f bk : Nat} {a : Int32} {q : Option (Nat × Nat)} (h : Sd t V) : KE t V (vpu V t f bk a q) := by
  obtain ⟨w1, -⟩ := vpu_w (V := V) (t := t) (f := f) (bk := bk) (a := a) (q := q)
  exact ⟨⟨w1 _ (by omega) (by omega) (by omega) (by omega) (by omega) (by omega), w1 _ (by omega) (by omega) (by omega) (by omega) (by omega) (by omega)⟩, by unfold Sd; rw [w1 _ (by omega) (by omega) (by omega) (by omega) (by omega) (by omega)]; exact h⟩
theorem ke_cl {f bk : Nat} {hh : Int32 × Option (Nat × Nat)} (h : Sd t V) : KE t V (vcl lim V t f bk hh) := by
  have h3 := ke_rm (lim := lim) (f := f) h
  unfold vcl
  split
  · have h1 := ke_cn (k := 11) (v := 1) h (by omega)
    exact h1.trans (ke_pu h1.2)
  · split
    · rename_i V1 e
      rw [e] at h3
      exact h3.trans (ke_pu h3.2)
    · rename_i V1 e
      rw [e] at h3
      exact h3
theorem ke_fr {i : Nat} {F : vF} (h : Sd t V) : KE t V (vfr V t i F) := ke_same h rfl
theorem ke_nu {i k : Nat} {v : Int32} (h : Sd t V) : KE t V (vnu V t i k v) := ke_same h rfl
theorem ke_po {i k : Nat} {q : Option (Nat × Nat)} (h : Sd t V) : KE t V (vpo V t i k q) := ke_same h rfl
theorem ke_fv {words : Int32} (h : Sd t V) (hn : V.1 (3989 + t) ≠ -1) : KE t V (vfv V t words) := by
  obtain ⟨k, k1, k2⟩ := h.resolve_left hn
  have h1 := ke_cn (k := 9) (v := 1) h (by omega)
  have h2 := h1.trans (ke_vs (i := 3996 + t) (v := V.1 (3996 + t) - words) h1.2 (by omega))
  unfold vfv
  dsimp only
  split
  · exact h2
  · rw [k2, nI_int (by omega), Int.toNat_natCast]
    exact (h2.trans (ke_vs (i := 3923 + k) (v := -1) h2.2 (by omega))).trans ke_m1
theorem ke_lv {F : vF} (h : Sd t V) : KE t V (vlv V t F) := by
  unfold vlv
  split
  · exact KE.refl h
  · have h1 := ke_vs (i := 4066 + t) (v := V.1 (4066 + t) - 1) h (by omega)
    dsimp only
    split
    · have h2 := h1.trans (ke_lg h1.2)
      exact h2.trans (ke_same h2.2 rfl)
    · have h2 := h1.trans (ke_sp h1.2)
      have h3 := h2.trans (ke_same (V1 := vps (vsp (vs V (4066 + t) (V.1 (4066 + t) - 1)) t) ((vsp (vs V (4066 + t) (V.1 (4066 + t) - 1)) t).2.1.map (fun p => if vkey t F.2.1 p then (p.1, p.2.1, p.2.2.1, 1000) else p))) h2.2 rfl)
      exact h3.trans (ke_lg h3.2)
theorem ke_dn {Z : (Nat → Int32) → Int32 → Int32 → Int32 → Bool} {v : Int32} (h : Sd t V) : KE t V (vdn Z V t v) := by
  have h1 := ke_vs (i := 3926 + t) (v := 3) h (by omega)
  have h2 := h1.trans (ke_vs (i := 3940 + t) (v := v) h1.2 (by omega))
  have h3 := h2.trans (ke_ga h2.2)
  have h4 := h3.trans (ke_cn (k := 0) (v := 1) h3.2 (by omega))
  have h5 := h4.trans (ke_lg h4.2)
  unfold vdn
  dsimp only
  split
  · exact h5.trans (ke_inc (i := 2066) h5.2 (by omega))
  · exact h5
theorem ke_rt {Z : (Nat → Int32) → Int32 → Int32 → Int32 → Bool} {v : Int32} (h : Sd t V) (hcb : 2048 ≤ (V.2.2.2 t (V.2.2.1 t - 1)).2.2.2.1 → V.1 (3989 + t) ≠ -1) : KE t V (vrt Z V t v) := by
  have h1 := ke_vs (i := 3961 + t) (v := V.1 (3961 + t) - (V.1 (2228 + (V.2.2.2 t (V.2.2.1 t - 1)).1) + 2)) h (by omega)
  have h2 := h1.trans (ke_vs (i := 3954 + t) (v := V.1 (3954 + t) - 1) h1.2 (by omega))
  have h3 := h2.trans (ke_same (V1 := vnf (vs (vs V (3961 + t) (V.1 (3961 + t) - (V.1 (2228 + (V.2.2.2 t (V.2.2.1 t - 1)).1) + 2))) (3954 + t) (V.1 (3954 + t) - 1)) t (V.2.2.1 t - 1)) h2.2 rfl)
  have e89 : (vnf (vs (vs V (3961 + t) (V.1 (3961 + t) - (V.1 (2228 + (V.2.2.2 t (V.2.2.1 t - 1)).1) + 2))) (3954 + t) (V.1 (3954 + t) - 1)) t (V.2.2.1 t - 1)).1 (3989 + t) = V.1 (3989 + t) := (vs_ne (by omega)).trans (vs_ne (by omega))
  unfold vrt
  dsimp only
  generalize vnf (vs (vs V (3961 + t) (V.1 (3961 + t) - (V.1 (2228 + (V.2.2.2 t (V.2.2.1 t - 1)).1) + 2))) (3954 + t) (V.1 (3954 + t) - 1)) t (V.2.2.1 t - 1) = V1 at *
  split
  · exact h3.trans (ke_dn h3.2)
  · have hlv : ∀ i, i = 3989 + t → (vlv V1 t (V.2.2.2 t (V.2.2.1 t - 1))).1 i = V1.1 i := fun i hi => by
      unfold vlv
      split
      · rfl
      · dsimp only
        split
        · show (vlg1 (vs V1 (4066 + t) (V1.1 (4066 + t) - 1))).1 i = _
          rw [vlg1_ne (by omega), vs_ne (by omega)]
        · rw [vlg1_ne (by omega)]
          show (vsp (vs V1 (4066 + t) (V1.1 (4066 + t) - 1)) t).1 i = _
          rw [vsp_w (by omega), vs_ne (by omega)]
    have h4 : KE t V (if V.1 (3933 + t) = 1 then vlv V1 t (V.2.2.2 t (V.2.2.1 t - 1)) else V1) ∧ (if V.1 (3933 + t) = 1 then vlv V1 t (V.2.2.2 t (V.2.2.1 t - 1)) else V1).1 (3989 + t) = V.1 (3989 + t) := by
      split
      · exact ⟨h3.trans (ke_lv h3.2), (hlv _ rfl).trans e89⟩
      · exact ⟨h3, e89⟩
    generalize (if V.1 (3933 + t) = 1 then vlv V1 t (V.2.2.2 t (V.2.2.1 t - 1)) else V1) = V2 at *
    obtain ⟨h4, e4⟩ := h4
    have h5 := h4.trans (ke_vs (i := 3982 + t) (v := nI (vpl V2 t (V.2.2.1 t - 1 - 1))) h4.2 (by omega))
    have h6 := h5.trans (ke_vs (i := 3975 + t) (v := nI ((V.2.2.2 t (V.2.2.1 t - 1)).2.2.2.1 % 1024 / 32)) h5.2 (by omega))
    have h7 := h6.trans (ke_vs (i := 3968 + t) (v := nI ((V.2.2.2 t (V.2.2.1 t - 1)).2.2.2.1 % 32)) h6.2 (by omega))
    have h8 := h7.trans (ke_nu (i := V.2.2.1 t - 1 - 1) (k := (V.1 (vco ((V.2.2.2 t (V.2.2.1 t - 1)).2.2.2.1 % 1024 / 32) ((V.2.2.2 t (V.2.2.1 t - 1)).2.2.2.1 % 32 - 1) + 3)).toInt.toNat) (v := v) h7.2)
    split
    · rename_i c
      refine h8.trans (ke_fv h8.2 ?_)
      show (vs (vs (vs V2 (3982 + t) _) (3975 + t) _) (3968 + t) _).1 (3989 + t) ≠ -1
      rw [vs_ne (by omega), vs_ne (by omega), vs_ne (by omega), e4]
      exact hcb c
    · exact h8
theorem ke_sd (hz : (V.1 2052).toInt.toNat ≤ 3) (h : Sd t V) (e : vsd V t = some V1) : KE t V V1 ∧ V1.1 (3989 + t) ≠ -1 := by
  unfold vsd at e
  split at e
  · split at e
    · cases e
    · rename_i k hk
      cases e
      have hk3 := vfs_lt hk
      have h1 := ke_vs (i := 3923 + k) (v := nI t) h (by omega)
      exact ⟨h1.trans ⟨⟨vs_ne (by omega), vs_ne (by omega)⟩, Or.inr ⟨k, by omega, vs_at⟩⟩, by rw [vs_at]; exact nI_m1 (by omega)⟩
  · rename_i c
    cases e
    exact ⟨KE.refl h, c⟩
theorem ke_fg {words f slot : Int32} (hz : (V.1 2052).toInt.toNat ≤ 3) (h : Sd t V) : KE t V (vfg lim V t words f slot) := by
  unfold vfg
  cases hsd : vsd V t with
  | none =>
    rw [vhs_0 hsd]
    have h1 := ke_vs (i := 3926 + t) (v := 2) h (by omega)
    have h2 := h1.trans (ke_vs (i := 3968 + t) (v := V.1 (3968 + t) - 1) h1.2 (by omega))
    exact h2.trans (ke_cn (k := 10) (v := 1) h2.2 (by omega))
  | some V1 =>
    obtain ⟨h0, hn0⟩ := ke_sd hz h hsd
    have h1 := h0.trans (ke_vs (i := 3926 + t) (v := 1) h0.2 (by omega))
    by_cases c : ((vs V1 (3926 + t) 1).1 (3996 + t) + words).toInt ≤ ((vs V1 (3926 + t) 1).1 2053).toInt
    · rw [vhs_1 hsd c]
      have h2 := h1.trans (ke_vs (i := 3996 + t) (v := (vs V1 (3926 + t) 1).1 (3996 + t) + words) h1.2 (by omega))
      dsimp only
      split
      · exact h2.trans (ke_cl h2.2)
      · have h3 := h2.trans (ke_nu (i := (vs (vs V1 (3926 + t) 1) (3996 + t) ((vs V1 (3926 + t) 1).1 (3996 + t) + words)).2.2.1 t - 1) (k := slot.toInt.toNat) (v := 3 * vnm (vlf (vs (vs V1 (3926 + t) 1) (3996 + t) ((vs V1 (3926 + t) 1).1 (3996 + t) + words)) t) slot + 1) h2.2)
        refine h3.trans (ke_fv h3.2 ?_)
        show (vs (vs V1 (3926 + t) 1) (3996 + t) _).1 (3989 + t) ≠ -1
        rw [vs_ne (by omega), vs_ne (by omega)]
        exact hn0
    · rw [vhs_2 hsd c]
      exact h1.trans (ke_out h1.2)
theorem ke_qu (h : Sd t V) : KE t V (vqu lim V t).2 := by
  unfold vqu
  split
  · exact ke_sp h
  split
  · exact KE.refl h
  split
  · exact KE.refl h
  · exact KE.l (KE.c (KE.i (ke_mv h) (by omega)) (by omega))
theorem ke_ln {l : Nat} {kind a b c : Int32} {Z : (Nat → Int32) → Int32 → Int32 → Int32 → Bool} (hz : (V.1 2052).toInt.toNat ≤ 3) (h : Sd t V) (hcb : 2048 ≤ (V.2.2.2 t (V.2.2.1 t - 1)).2.2.2.1 → V.1 (3989 + t) ≠ -1) : KE t V (vln1 lim Z V t l kind a b c) := by
  unfold vln1
  dsimp only
  by_cases c0 : kind = 0
  · rw [if_pos c0]; exact ke_nu h
  rw [if_neg c0]
  by_cases c1 : kind = 1
  · rw [if_pos c1]; exact ke_nu h
  rw [if_neg c1]
  by_cases c2 : kind = 2
  · rw [if_pos c2]; exact ke_nu h
  rw [if_neg c2]
  by_cases c3 : kind = 3
  · rw [if_pos c3]; exact ke_po h
  rw [if_neg c3]
  by_cases c4 : kind = 4
  · rw [if_pos c4]; exact ke_nu h
  rw [if_neg c4]
  by_cases c5 : kind = 5
  · rw [if_pos c5]
    cases (vlf V t).2.2.2.2.2 a.toInt.toNat with
    | none => exact KE.refl h
    | some q => exact ke_nu h
  rw [if_neg c5]
  by_cases c6 : kind = 6
  · rw [if_pos c6]
    by_cases ct : tld V.1 a
    · rw [if_pos ct]; exact ke_cl h
    · rw [if_neg ct]; exact ke_nu h
  rw [if_neg c6]
  by_cases c7 : kind = 7
  · rw [if_pos c7]
    by_cases ct : (vnm (vlf V t) a).toInt ≤ 0
    · rw [if_pos ct]; exact KE.refl h
    · rw [if_neg ct]; exact ke_vs h (by omega)
  rw [if_neg c7]
  by_cases c8 : kind = 8
  · rw [if_pos c8]; exact ke_rt h hcb
  rw [if_neg c8]
  by_cases c9 : kind = 9
  · rw [if_pos c9]; exact ke_fg hz h
  rw [if_neg c9]
  exact ke_qu h
theorem ke_st {B : Nat} {Z : (Nat → Int32) → Int32 → Int32 → Int32 → Bool} (hI : VI lim B V) (ht : t < 6) (hb : vbz V.1 t) (hlm : lim ≤ 10000) : (vst lim Z V t).1 (4052 + t) = V.1 (4052 + t) ∧ (vst lim Z V t).1 (4059 + t) = V.1 (4059 + t) := by
  obtain ⟨np, z, z2, z3, k, l, hP, h0, -, -, ⟨s1, s2, s3⟩, -, -, hs, -, hcb⟩ := hI.opn ht hb hlm
  have h : Sd t V := hs
  have hcb' : 2048 ≤ (V.2.2.2 t (V.2.2.1 t - 1)).2.2.2.1 → V.1 (3989 + t) ≠ -1 := fun e e2 => by
    obtain ⟨ks, k1, k2⟩ := hcb e
    rw [e2] at k2
    exact absurd k2.symm (nI_m1 (by omega))
  have h1 := ke_inc (i := 3947 + t) h (by omega)
  have h2 := h1.trans (ke_cn (k := 2) (v := 1) h1.2 (by omega))
  have hz : ∀ V' : vV, (∀ i, i ≠ 3947 + t → i ≠ 2056 → i ≠ 3968 + t → V'.1 i = V.1 i) → ((V'.1 2052).toInt.toNat ≤ 3) := fun V' hv => by
    rw [hv 2052 (by omega) (by omega) (by omega), s1, nI_int (by omega)]
    show (z3 : Int).toNat ≤ 3
    omega
  have e1 : ∀ i, i ≠ 3947 + t → i ≠ 2056 → (vcn (vinc V (3947 + t)) 2 1).1 i = V.1 i := fun i g1 g2 => (vcn_ne (by omega)).trans (vinc_ne g1)
  have e12 : (vcn (vinc V (3947 + t)) 2 1).2 = V.2 := rfl
  unfold vst
  dsimp only
  generalize vcn (vinc V (3947 + t)) 2 1 = V1 at *
  split
  · have h3 := h2.trans (ke_vs (i := 3968 + t) (v := V1.1 (3968 + t) + 1) h2.2 (by omega))
    have e3 : ∀ i, i ≠ 3947 + t → i ≠ 2056 → i ≠ 3968 + t → (vs V1 (3968 + t) (V1.1 (3968 + t) + 1)).1 i = V.1 i := fun i g1 g2 g3 => (vs_ne g3).trans (e1 i g1 g2)
    have e32 : (vs V1 (3968 + t) (V1.1 (3968 + t) + 1)).2 = V.2 := e12
    generalize vs V1 (3968 + t) (V1.1 (3968 + t) + 1) = V3 at *
    exact (h3.trans (ke_ln (hz V3 e3) h3.2 (by rw [e32, e3 _ (by omega) (by omega) (by omega)]; exact hcb'))).1
  · exact (h2.trans (ke_rt h2.2 (by rw [e12, e1 _ (by omega) (by omega)]; exact hcb'))).1
end
end
section
/-! ===== the same program, whatever else ===== -/
def vpp (w w' : Nat → Int32) : Prop := ∀ i, 2228 ≤ i ∧ i < 2898 → w' i = w i
theorem vpp.trans {w1 w2 w3 : Nat → Int32} (h : vpp w1 w2) (h' : vpp w2 w3) : vpp w1 w3 := fun i hi => (h' i hi).trans (h i hi)
theorem vpp.symm {w w' : Nat → Int32} (h : vpp w w') : vpp w' w := fun i hi => (h i hi).symm
section
variable {w w' : Nat → Int32}
theorem vpp.sz (h : vpp w w') {f : Nat} (hf : f < 10) : vsz w' f = vsz w f ∧ vwd w' f = vwd w f ∧ vli w' f = vli w f ∧ w' (2238 + f) = w (2238 + f) := by
  unfold vwd vsz vli
  rw [h _ (by omega), h _ (by omega), h _ (by omega)]
  exact ⟨rfl, rfl, rfl, rfl⟩
theorem vpp.co (h : vpp w w') {f k j : Nat} (hf : f < 10) (hk : k < 16) (hj : j < 4) : w' (vco f k + j) = w (vco f k + j) := by
  unfold vco
  exact h _ (by omega)
theorem vpp.co0 (h : vpp w w') {f k : Nat} (hf : f < 10) (hk : k < 16) : w' (vco f k) = w (vco f k) := h.co (j := 0) hf hk (by omega)
theorem vpp.slt (h : vpp w w') {f : Nat} (hf : f < 10) {x : Int32} : (vslt w' f x ↔ vslt w f x) ∧ (vnum w' f x ↔ vnum w f x) ∧ (vptr w' f x ↔ vptr w f x) := by
  obtain ⟨h1, -, -, h4⟩ := h.sz hf
  unfold vslt vnum vptr
  rw [h1, h4]
  exact ⟨Iff.rfl, Iff.rfl, Iff.rfl⟩
theorem vpp.lin (h : vpp w w') {f k : Nat} (hf : f < 10) (hk : k < 16) (hl : vlin w f k) : vlin w' f k := by
  unfold vlin at hl ⊢
  rw [h.co0 hf hk, h.co hf hk (by omega), h.co hf hk (by omega), h.co hf hk (by omega)]
  have e := fun x => h.slt (f := f) hf (x := x)
  unfold vcan at hl ⊢
  simp only [(e _).1, (e _).2.1, (e _).2.2]
  exact hl
theorem Ipr.wp (hp : Ipr w) (h : vpp w w') : Ipr w' := by
  intro f hf
  obtain ⟨h1, h2, h3⟩ := hp f hf
  have hl := (hp.li hf).2
  obtain ⟨-, -, e3, -⟩ := h.sz hf
  refine ⟨?_, ?_, fun k hk => ?_⟩
  · rw [h _ (by omega)]; exact h1
  · rw [h _ (by omega)]; exact h2
  · rw [e3] at hk
    exact h.lin hf (by omega) (h3 k hk)
theorem vpp.cal (h : vpp w w') {f k : Nat} (hf : f < 10) (hk : k < 16) : vcal w' f k = vcal w f k := by
  unfold vcal
  rw [h.co0 hf hk, h.co hf hk (by omega), h.co hf hk (by omega)]
theorem vpp.tl (h : vpp w w') {x : Int32} : tld w' x ↔ tld w x := by
  constructor
  · intro q
    refine ⟨q.1, ?_⟩
    have := q.2
    rw [h _ (by omega)] at this
    exact this
  · intro q
    refine ⟨q.1, ?_⟩
    rw [h _ (by omega)]
    exact q.2
theorem vpp.dl (h : vpp w w') {D D' : Nat → Option Nat} {f : Nat} (hf : f < 10) (hD : ∀ g, g < 10 → D' g = D g) : ∀ k, k ≤ 16 → vdl w' D' f k = vdl w D f k := by
  intro k
  induction k with
  | zero => intro _; rw [vdl, vdl]
  | succ k ihk =>
    intro hk
    rw [vdl_succ, vdl_succ, ihk (by omega), h.cal hf (by omega)]
    congr 1
    funext d
    by_cases c : tld w (vcal w f k)
    · rw [if_pos c, if_pos (h.tl.mpr c), hD _ (by have := c.1; omega)]
    · rw [if_neg c, if_neg (fun q => c (h.tl.mp q))]
theorem vpp.dp (h : vpp w w') (hp : Ipr w) : ∀ m f, f < 10 → vdp w' m f = vdp w m f := by
  intro m
  induction m with
  | zero => intro f hf; rw [vdp, vdp]
  | succ m ih =>
    intro f hf
    obtain ⟨-, e2, e3, -⟩ := h.sz hf
    rw [vdp_succ, vdp_succ, e3, e2, h.dl hf ih _ (hp.li hf).2]
theorem RP.ep {s s' : wt_S} {q : Nat} (h : RP q s w) (hp : Ipr w) (hw : vpp w w') (hc : ∀ c, q + 1 ≤ c → c ≤ q + 5 → s' c = s c) : RP q s' w' := by
  refine ⟨fun f hf => ?_, fun j hj => ?_⟩
  · rw [hc _ (by omega) (by omega), hc (q + 2) (by omega) (by omega), hc (q + 3) (by omega) (by omega), hc (q + 5) (by omega) (by omega), hw _ (by omega), hw (2238 + f) (by omega), hw (2248 + f) (by omega), (hw.sz hf).1, hw.dp hp 10 f hf]
    exact h.1 f hf
  · rw [hc _ (by omega) (by omega), hw _ (by omega)]
    exact h.2 j hj
end
end
section
/-! ===== the class: a world is cleared ===== -/
/-- nothing yet but the program: A what is set, W the program -/
def vnw (A W : Nat → Int32) : vV := ((fun i => if 2048 ≤ i ∧ i ≤ 2053 then A (i - 2048) else if 2228 ≤ i ∧ i < 2898 then W i else if (3923 ≤ i ∧ i < 3926) ∨ (3975 ≤ i ∧ i < 3982) ∨ (3989 ≤ i ∧ i < 3996) then -1 else 0), [], fun _ => 0, fun _ _ => (0, 0, 0, 0, fun _ => 0, fun _ => none))
section
variable {A W : Nat → Int32} {lim B : Nat}
theorem vnw_se {i : Nat} (h : i < 6) : (vnw A W).1 (2048 + i) = A i := by
  show (if 2048 ≤ 2048 + i ∧ 2048 + i ≤ 2053 then A (2048 + i - 2048) else _) = _
  rw [if_pos (by omega), Nat.add_sub_cancel_left]
theorem vnw_pp : vpp W (vnw A W).1 := fun i hi => by
  show (if 2048 ≤ i ∧ i ≤ 2053 then A (i - 2048) else if 2228 ≤ i ∧ i < 2898 then W i else _) = _
  rw [if_neg (by omega), if_pos hi]
theorem vnw_m {i : Nat} (h : (3923 ≤ i ∧ i < 3926) ∨ (3975 ≤ i ∧ i < 3982) ∨ (3989 ≤ i ∧ i < 3996)) : (vnw A W).1 i = -1 := by
  show (if 2048 ≤ i ∧ i ≤ 2053 then A (i - 2048) else if 2228 ≤ i ∧ i < 2898 then W i else if (3923 ≤ i ∧ i < 3926) ∨ (3975 ≤ i ∧ i < 3982) ∨ (3989 ≤ i ∧ i < 3996) then (-1 : Int32) else 0) = _
  rw [if_neg (by omega), if_neg (by omega), if_pos h]
theorem vnw_0 {i : Nat} (h : (2054 ≤ i ∧ i < 2228) ∨ (2898 ≤ i ∧ i < 3923) ∨ (3926 ≤ i ∧ i < 3975) ∨ (3982 ≤ i ∧ i < 3989) ∨ 3996 ≤ i) : (vnw A W).1 i = 0 := by
  show (if 2048 ≤ i ∧ i ≤ 2053 then A (i - 2048) else if 2228 ≤ i ∧ i < 2898 then W i else if (3923 ≤ i ∧ i < 3926) ∨ (3975 ≤ i ∧ i < 3982) ∨ (3989 ≤ i ∧ i < 3996) then (-1 : Int32) else 0) = _
  rw [if_neg (by omega), if_neg (by omega), if_neg (by omega)]
theorem nw_id {t : Nat} (ht : t < 6) : Iid (vnw A W) t := ⟨rfl, vnw_0 (by omega), vnw_0 (by omega), vnw_0 (by omega), vnw_m (by omega), vnw_m (by omega), vnw_0 (by omega), Or.inl (vnw_0 (by omega)), fun q hq => by cases hq⟩
theorem vi_nw (hp : Ipr W) (hA : Ise lim (vnw A W).1) : VI lim 0 (vnw A W) :=
  ⟨hA, hp.wp vnw_pp, ⟨⟨List.Pairwise.nil, fun q hq => by cases hq⟩, List.Pairwise.nil, fun q hq => by cases hq⟩, fun k hk => Or.inl (vnw_m (by omega)), ⟨0, Nat.le_refl 0, vnw_0 (by omega)⟩, fun t ht => Or.inr (nw_id ht)⟩
theorem wl_nw {t : Nat} (ht : t < 6) : WL (vnw A W) t := WL.no (by rw [vnw_0 (by omega)]; decide)
end
section
variable {b lim : Nat} {s s' : wt_S} {A W : Nat → Int32}
theorem c_ac0 {α : Type} {s : wt_S} {a c n : Nat} {N : Int32} {F : wt_S → Option α} (hN : N = nI n) (h : n ≤ 100000) : wt_ac s a 0 c 0 N n n F = F (wt_uf s c (mj_cpy (s a) (s c) 0 0 n)) := by
  rw [hN]
  exact c_ac (p := 0) (q := 0) (by omega) (by omega) h h
theorem c_ac1 {s : wt_S} {a c n k : Nat} (h : k < n) : wt_uf s c (mj_cpy (s a) (s c) 0 0 n) c k = s a k := by
  rw [wt_uf_at, mj_cpy_in (by omega) (by omega)]
  congr 1
  omega
theorem c_clr5 {v : Int32} : ∃ s', gX5_clear b s v = some ((), s') ∧ (∀ c, c ≠ b + 2 → c ≠ b + 8 → s' c = s c) ∧ (∀ i, i < 256 → s' (b + 8) i = nI i) ∧ s' (b + 2) 7 = 0 ∧ s' (b + 2) 8 = 0 ∧ s' (b + 2) 9 = v := by
  have loop : ∀ (m i fu : Nat) (s1 : wt_S), i + m = 256 → m < fu → (∀ c, c ≠ b + 8 → s1 c = s c) → (∀ j, j < i → s1 (b + 8) j = nI j) → ∃ s', gX5_clear_2 b fu s1 v (nI i) = some ((), s') ∧ (∀ c, c ≠ b + 2 → c ≠ b + 8 → s' c = s c) ∧ (∀ i, i < 256 → s' (b + 8) i = nI i) ∧ s' (b + 2) 7 = 0 ∧ s' (b + 2) 8 = 0 ∧ s' (b + 2) 9 = v := by
    intro m
    induction m with
    | zero =>
      intro i fu s1 hi hfu h1 h2
      obtain ⟨fu, rfl⟩ : ∃ k, fu = k + 1 := ⟨fu - 1, by omega⟩
      rw [gX5_clear_2, if_pos (by rw [nI_int (by omega)]; show (256 : Int) ≤ _; omega), wr_eq, wr_eq, wr_eq]
      refine ⟨_, rfl, fun c c1 c2 => by rw [wt_u_ne c1, wt_u_ne c1, wt_u_ne c1, h1 c c2], fun j hj => by rw [wt_u_ne (by omega), wt_u_ne (by omega), wt_u_ne (by omega)]; exact h2 j (by omega), ?_, ?_, wt_u_self⟩
      · rw [wt_u_nk (by omega), wt_u_nk (by omega), wt_u_self]
      · rw [wt_u_nk (by omega), wt_u_self]
    | succ m ih =>
      intro i fu s1 hi hfu h1 h2
      obtain ⟨fu, rfl⟩ : ∃ k, fu = k + 1 := ⟨fu - 1, by omega⟩
      rw [gX5_clear_2, if_neg (c_hi (by omega)), ix_nI (by omega) (by omega), wr_eq, show nI i + 1 = nI (i + 1) from nI_add i 1]
      refine ih (i + 1) fu _ (by omega) (by omega) (fun c hc => by rw [wt_u_ne hc]; exact h1 c hc) (fun j hj => ?_)
      by_cases c : j = i
      · subst c; rw [wt_u_self]
      · rw [wt_u_nk c]; exact h2 j (by omega)
  exact loop 256 0 wt_N s (by omega) (by unfold wt_N; omega) (fun _ _ => rfl) (fun j hj => by omega)
theorem c_clr9 (hb : b = 11 ∨ b = 40) : ∃ s', gX9_clear b s (nI lim) = some ((), s') ∧ (∀ c, c < b ∨ b + 28 < c → s' c = s c) ∧ PC b lim s' [] (List.range 256) ∧ (∀ j, j < 6 → s' (b + 1) j = s 3 j) ∧ (∀ j, j < 12 → s' (b + 13) j = 0) ∧ (∀ k, k < 6 → s' (b + 17 + 2 * k) = clr (s (b + 17 + 2 * k))) ∧ (∀ k, k < 6 → ∀ j, j < 12 → s' (b + 17 + 2 * k + 1) j = 0) ∧ s' (wt_wo b) 8 = 0 := by
  have hwo : wt_wo b = b := by rcases hb with rfl | rfl <;> rfl
  have hb1 : 11 ≤ b := by omega
  unfold gX9_clear
  rw [c_ac0 (n := 6) (N := 6) rfl (by omega)]
  generalize hs1 : wt_uf s (b + 1) (mj_cpy (s 3) (s (b + 1)) 0 0 6) = s1
  have e1 : ∀ j, j < 6 → s1 (b + 1) j = s 3 j := fun j hj => by rw [← hs1]; exact c_ac1 hj
  have f1 : ∀ c, c ≠ b + 1 → s1 c = s c := fun c hc => by rw [← hs1]; exact wt_uf_ne hc
  obtain ⟨s2, a1, a2, a3, a4, a5, a6⟩ := c_clr5 (b := b) (s := s1) (v := nI lim)
  rw [a1, cl_some]
  have loop : ∀ (m k fu : Nat) (s3 : wt_S), k + m = 6 → m < fu → (∀ c, (∀ k, k < 6 → c ≠ b + 17 + 2 * k ∧ c ≠ b + 17 + 2 * k + 1) → s3 c = s2 c) → (∀ j, j < 6 → s3 (b + 17 + 2 * j) = if j < k then clr (s2 (b + 17 + 2 * j)) else s2 (b + 17 + 2 * j)) → (∀ j, j < k → ∀ i, i < 12 → s3 (b + 17 + 2 * j + 1) i = 0) →
      ∃ s', gX9_clear_33 b fu s3 6 (nI k) = some ((), s') ∧ (∀ c, c ≠ b → c ≠ b + 11 → c ≠ b + 13 → (∀ k, k < 6 → c ≠ b + 17 + 2 * k ∧ c ≠ b + 17 + 2 * k + 1) → s' c = s2 c) ∧ (∀ j, j < 6 → s' (b + 17 + 2 * j) = clr (s2 (b + 17 + 2 * j))) ∧ (∀ j, j < 6 → ∀ i, i < 12 → s' (b + 17 + 2 * j + 1) i = 0) ∧ (∀ j, j < 12 → s' (b + 13) j = 0) ∧ s' b 8 = 0 := by
    intro m
    induction m with
    | zero =>
      intro k fu s3 hk hfu h1 h2 h3
      obtain ⟨fu, rfl⟩ : ∃ k, fu = k + 1 := ⟨fu - 1, by omega⟩
      obtain ⟨s4, b1, b2, b3, -⟩ := c_fill (r := b + 13) (n := 12) (v := 0) (s := wt_u s3 (b + 11) 1 0) (by omega)
      rw [gX9_clear_33, if_pos (by rw [nI_int (by omega)]; show (6 : Int) ≤ _; omega), wr_eq, b1, cl_some, wr_eq, hwo]
      refine ⟨_, rfl, fun c c1 c2 c3 c4 => by rw [wt_u_ne c1, b2 c c3, wt_u_ne c2, h1 c c4], fun j hj => ?_, fun j hj i hi => ?_, fun j hj => ?_, wt_u_self⟩
      · rw [wt_u_ne (by omega), b2 _ (by omega), wt_u_ne (by omega), h2 j hj, if_pos (by omega)]
      · rw [wt_u_ne (by omega), b2 _ (by omega), wt_u_ne (by omega), h3 j (by omega) i hi]
      · rw [wt_u_ne (by omega)]; exact b3 j hj
    | succ m ih =>
      intro k fu s3 hk hfu h1 h2 h3
      obtain ⟨fu, rfl⟩ : ∃ k, fu = k + 1 := ⟨fu - 1, by omega⟩
      obtain ⟨s4, b1, b2, b3, b4⟩ := c_clear (s := s3) (T := b + 17 + 2 * k)
      rw [gX9_clear_33, if_neg (by rw [nI_int (by omega)]; show ¬ (6 : Int) ≤ _; omega), ix_nI (by omega) (by omega), b1, cl_some, show nI k + 1 = nI (k + 1) from nI_add k 1]
      refine ih (k + 1) fu s4 (by omega) (by omega) (fun c hc => by rw [b2 c (hc k (by omega)).1 (hc k (by omega)).2]; exact h1 c hc) (fun j hj => ?_) (fun j hj i hi => ?_)
      · by_cases c : j = k
        · subst c
          rw [b3, h2 j hj, if_neg (by omega), if_pos (by omega)]
        · rw [b2 _ (by omega) (by omega), h2 j hj]
          by_cases c2 : j < k
          · rw [if_pos c2, if_pos (by omega)]
          · rw [if_neg c2, if_neg (by omega)]
      · by_cases c : j = k
        · subst c
          exact b4 i hi
        · rw [b2 _ (by omega) (by omega)]
          exact h3 j (by omega) i hi
  obtain ⟨s', l1, l2, l3, l4, l5, l6⟩ := loop 6 0 wt_N s2 (by omega) (by unfold wt_N; omega) (fun _ _ => rfl) (fun j hj => by rw [if_neg (by omega)]) (fun j hj => by omega)
  have k2 : ∀ c, c ≠ b → c ≠ b + 11 → c ≠ b + 13 → (∀ k, k < 6 → c ≠ b + 17 + 2 * k ∧ c ≠ b + 17 + 2 * k + 1) → s' c = s2 c := l2
  refine ⟨s', l1, fun c hc => ?_, ⟨?_, ?_, ?_, ?_, ?_, fun i hi => ?_, fun x i hx => ?_, fun z hz => by cases hz⟩, fun j hj => ?_, l5, fun k hk => ?_, l4, by rw [hwo]; exact l6⟩
  · rw [k2 c (by omega) (by omega) (by omega) (fun k _ => by omega), a2 c (by omega) (by omega), f1 c (by omega)]
  · rw [k2 _ (by omega) (by omega) (by omega) (fun k _ => by omega), a4]; rfl
  · rw [k2 _ (by omega) (by omega) (by omega) (fun k _ => by omega), a5]; rfl
  · rw [k2 _ (by omega) (by omega) (by omega) (fun k _ => by omega), a6]
  · show ([] ++ List.range 256).length = 256
    rw [List.nil_append, List.length_range]
  · show ([] ++ List.range 256).Nodup
    rw [List.nil_append]; exact List.nodup_range
  · have hi : i ∈ [] ++ List.range 256 := hi
    rw [List.nil_append] at hi
    exact List.mem_range.mp hi
  · have hx : ([] ++ List.range 256)[x]? = some i := hx
    rw [List.nil_append, List.getElem?_eq_some_iff] at hx
    obtain ⟨h1, h2⟩ := hx
    rw [List.length_range] at h1
    rw [List.getElem_range] at h2
    rw [k2 _ (by omega) (by omega) (by omega) (fun k _ => by omega), a3 x h1, h2]
  · rw [k2 _ (by omega) (by omega) (by omega) (fun k _ => by omega), a2 _ (by omega) (by omega)]; exact e1 j hj
  · rw [l3 k hk, a2 _ (by omega) (by omega), f1 _ (by omega)]
/-- it holds the picture -/
theorem RC.fresh (hb : 11 ≤ b) {s0 : wt_S} (hP : PC b lim s [] (List.range 256)) (hA : ∀ j, j < 6 → s (b + 1) j = A j) (hc : ∀ j, j < 12 → s (b + 13) j = 0) (hT : ∀ k, k < 6 → s (b + 17 + 2 * k) = clr (s0 (b + 17 + 2 * k))) (h0 : ∀ k, k < 6 → s0 (b + 17 + 2 * k) 0 = nI k) (hS : ∀ k, k < 6 → ∀ j, j < 12 → s (b + 17 + 2 * k + 1) j = 0) (hR : RP 5 s W) (hp : Ipr W) : RC b lim s (vnw A W) [] (List.range 256) := by
  refine ⟨rfl, hP, ⟨fun j hj => by rw [vnw_se hj]; exact hA j hj, fun j hj => by rw [vnw_0 (by omega)]; exact hc j hj⟩, fun k hk => ?_, fun k hk i hi => absurd hi (Nat.not_lt_zero i), hR.ep hp vnw_pp (fun _ _ _ => rfl)⟩
  have hTj : ∀ j, s (b + 17 + 2 * k) j = if j = 0 ∨ 17 ≤ j then s0 (b + 17 + 2 * k) j else if j = 7 ∨ (9 ≤ j ∧ j ≤ 13) ∨ j = 15 then -1 else 0 := fun j => by rw [hT k hk]; rfl
  refine ⟨⟨?_, fun e he => ?_, fun e he => ?_⟩, ⟨fun _ => ⟨?_, ?_⟩, fun h => absurd h (Nat.not_lt_zero 0)⟩, ⟨fun _ => ?_, fun z hz => by cases hz⟩, ⟨fun z hz => (by cases hz), fun _ => ?_⟩, fun h => ?_, fun z hz => by cases hz⟩
  · rw [hTj, if_pos (by omega)]; exact h0 k hk
  · rw [hTj]
    simp only [tf, List.mem_cons, List.not_mem_nil, or_false] at he
    rcases he with rfl | rfl | rfl | rfl | rfl | rfl | rfl | rfl | rfl | rfl
    · rw [vnw_0 (by omega)]; rfl
    · rw [vnw_0 (by omega)]; rfl
    · rw [vnw_0 (by omega)]; rfl
    · rw [vnw_0 (by omega)]; rfl
    · rw [vnw_0 (by omega)]; rfl
    · rw [vnw_0 (by omega)]; rfl
    · rw [vnw_m (by omega)]; rfl
    · rw [vnw_0 (by omega)]; rfl
    · rw [vnw_m (by omega)]; rfl
    · rw [vnw_0 (by omega)]; rfl
  · have q1 := ts_p e he
    have q2 : ∀ e ∈ ts, e.1 < 12 ∧ e.2 ≠ 3975 ∧ e.2 ≠ 3989 := by decide
    have q3 := q2 e he
    rw [hS k hk _ q3.1, vnw_0 (by omega)]
  · rw [hTj, if_neg (by omega), if_pos (by omega)]
  · rw [hTj, if_neg (by omega), if_pos (by omega)]
  · rw [hTj, if_neg (by omega), if_pos (by omega)]
  · rw [hTj, if_neg (by omega), if_pos (by omega)]
  · exact absurd (vnw_0 (by omega)) h
end
end
section
/-! ===== the class: on an endless stack, in thought ===== -/
theorem ix_0 {α : Type} {n : Nat} {F : Nat → Option α} (h : 0 < n) (hn : n ≤ 100000) : wt_ix 0 n F = F 0 := ix_nI (k := 0) h hn
/-- what always is: what can be set, what is set at first -/
def vAt (j : Nat) : Int32 := if j = 0 then 16 else if j = 3 then 40 else if j = 5 then 60 else 1
def KC (s : wt_S) : Prop := ∀ j, j < 6 → (s 1 j).toInt = vlo j ∧ (s 2 j).toInt = vhi j ∧ s 3 j = vAt j
def TN (s : wt_S) : Prop := ∀ k, k < 6 → s (40 + 17 + 2 * k) 0 = nI k
/-- only what is now and what is thought changes -/
def NF (s s' : wt_S) : Prop := ∀ c, c < 11 ∨ 68 < c → s' c = s c
theorem NF.refl {s : wt_S} : NF s s := fun _ _ => rfl
theorem NF.trans {s s1 s2 : wt_S} (h : NF s s1) (h' : NF s1 s2) : NF s s2 := fun c hc => (h' c hc).trans (h c hc)
theorem CF.n1 {s s' : wt_S} (h : CF 11 s s') : NF s s' := fun c hc => h c (by omega)
theorem CF.n4 {s s' : wt_S} (h : CF 40 s s') : NF s s' := fun c hc => h c (by omega)
theorem cx11 : CX 11 2048 := ⟨Or.inl rfl, by unfold wt_mz; decide, by omega⟩
theorem cx40 {lim : Nat} (h : lim ≤ 10000) : CX 40 lim := ⟨Or.inr rfl, by unfold wt_mz; rw [if_pos rfl]; exact h, h⟩
/-- so many steps, as long as it is busy -/
def vrl (lim : Nat) (Z : (Nat → Int32) → Int32 → Int32 → Int32 → Bool) (t : Nat) : Nat → vV → vV
  | 0, V => V
  | n + 1, V => if vby V t then vrl lim Z t n (vst lim Z V t) else V
section
variable {b lim B : Nat} {s s' : wt_S} {V V' : vV} {zs zs' : List (vP × Nat)} {fr fr' : List Nat} {t f : Nat} {a : Int32} {W : Nat → Int32} {Z : (Nat → Int32) → Int32 → Int32 → Int32 → Bool}
theorem c_on (h : RC b lim s V zs fr) (ht : t < 6) : gX7_on (b + 17 + 2 * t) s = some (rb (vby V t = true), s) := by
  have e : s (b + 17 + 2 * t) 1 = V.1 (3926 + t) := h.at ht (e := (1, 3926)) (by decide)
  unfold gX7_on
  rw [e]
  by_cases c1 : V.1 (3926 + t) = 1
  · rw [if_pos c1, rb_pos (vby_iff.mpr (Or.inl c1))]
  · rw [if_neg c1]
    by_cases c2 : V.1 (3926 + t) = 2
    · rw [if_neg (fun q => q c2), rb_pos (vby_iff.mpr (Or.inr c2))]
    · rw [if_pos c2, rb_neg (fun q => by rcases vby_iff.mp q with e | e; exact c1 e; exact c2 e)]
/-- what RC looks at has not changed: the world's own row may -/
theorem RC.eq2 (h : RC b lim s V zs fr) (hx : CX b lim) (he : ∀ c, c ≠ b → c ≠ b + 11 → c ≠ b + 12 → c ≠ b + 9 → c ≠ b + 16 → c < b + 29 → s' c = s c) : RC b lim s' V zs fr := by
  have hb := hx.b
  obtain ⟨h1, h2, ⟨h3, h3'⟩, h4, h5, ⟨h6, h6'⟩⟩ := h
  refine ⟨h1, h2.eq (fun c hc => he c (by omega) (by omega) (by omega) (by omega) (by omega) (by omega)), ⟨?_, ?_⟩, fun k hk => ?_, ?_, ?_, ?_⟩
  · rw [he _ (by omega) (by omega) (by omega) (by omega) (by omega) (by omega)]; exact h3
  · rw [he _ (by omega) (by omega) (by omega) (by omega) (by omega) (by omega)]; exact h3'
  · have := h4 k hk
    unfold RCk Ks Kl Ka Kr Kg Kz at this ⊢
    rw [he (b + 17 + 2 * k) (by omega) (by omega) (by omega) (by omega) (by omega) (by omega), he (b + 17 + 2 * k + 1) (by omega) (by omega) (by omega) (by omega) (by omega) (by omega), he (b + 5) (by omega) (by omega) (by omega) (by omega) (by omega) (by omega), he (b + 6) (by omega) (by omega) (by omega) (by omega) (by omega) (by omega)]
    exact this
  · rw [he _ (by omega) (by omega) (by omega) (by omega) (by omega) (by omega)]; exact h5
  · rw [he (5 + 1) (by omega) (by omega) (by omega) (by omega) (by omega) (by omega), he (5 + 2) (by omega) (by omega) (by omega) (by omega) (by omega) (by omega), he (5 + 3) (by omega) (by omega) (by omega) (by omega) (by omega) (by omega), he (5 + 5) (by omega) (by omega) (by omega) (by omega) (by omega) (by omega)]; exact h6
  · rw [he (5 + 4) (by omega) (by omega) (by omega) (by omega) (by omega) (by omega)]; exact h6'
theorem c_69 (hx : CX 40 lim) : ∀ (m k fu B : Nat) (s : wt_S) (V : vV) (zs : List (vP × Nat)) (fr : List Nat), k + m = 2000 → m < fu → RC 40 lim s V zs fr → VI lim B V → WL V 0 → ∃ s' zs' fr', gX10_thinkEndless_69 fu s (40 + 17 + 2 * 0) (nI k) = some (40 + 17 + 2 * 0, s') ∧ RC 40 lim s' (vrl lim Z 0 m V) zs' fr' ∧ VI lim (B + 4 * m) (vrl lim Z 0 m V) ∧ TO 40 0 s s' := by
  intro m
  induction m with
  | zero =>
    intro k fu B s V zs fr hk hfu h hI hW
    obtain ⟨fu, rfl⟩ : ∃ k, fu = k + 1 := ⟨fu - 1, by omega⟩
    refine ⟨s, zs, fr, ?_, h, hI, TO.refl⟩
    rw [gX10_thinkEndless_69, if_pos (by rw [nI_int (by omega)]; show (2000 : Int) ≤ _; omega)]
    rfl
  | succ m ih =>
    intro k fu B s V zs fr hk hfu h hI hW
    obtain ⟨fu, rfl⟩ : ∃ k, fu = k + 1 := ⟨fu - 1, by omega⟩
    rw [gX10_thinkEndless_69, if_neg (by rw [nI_int (by omega)]; show ¬ (2000 : Int) ≤ _; omega), c_on h (by omega), cl_some, if_rb, vrl]
    by_cases c : vby V 0 = true
    · rw [if_pos c, if_pos c]
      have hb := vby_iff.mp c
      obtain ⟨s1, zs1, fr1, a1, a2, a3⟩ := c_step (Z := Z) h hx hI (by omega) hb hW
      obtain ⟨s', zs', fr', b1, b2, b3, b4⟩ := ih (k + 1) fu (B + 4) s1 (vst lim Z V 0) zs1 fr1 (by omega) (by omega) a2 (vi_st hI (by omega) hb hx.2.2) (wl_st hI (by omega) hb hW hx.2.2)
      rw [a1, cl_some, show nI k + 1 = nI (k + 1) from nI_add k 1]
      exact ⟨s', zs', fr', b1, b2, b3.mono (by omega), a3.trans b4⟩
    · rw [if_neg c, if_neg c]
      exact ⟨s, zs, fr, rfl, h, hI.mono (by omega), TO.refl⟩
/-- what is set for an endless stack -/
def vEA (j : Nat) : Int32 := if j = 0 then 10000 else if j = 2 then 0 else if j = 5 then 1000000 else vAt j
theorem ise_en : Ise 10000 (vnw vEA W).1 := by
  refine ⟨⟨10000, ?_, by omega, by omega, by omega⟩, Or.inr ?_, Or.inl ?_, ⟨40, ?_, by omega, by omega⟩, ⟨1, ?_, by omega, by omega⟩, ⟨1000000, ?_, by omega⟩⟩
  · exact (vnw_se (i := 0) (by omega)).trans (by decide)
  · exact (vnw_se (i := 1) (by omega)).trans (by decide)
  · exact (vnw_se (i := 2) (by omega)).trans (by decide)
  · exact (vnw_se (i := 3) (by omega)).trans (by decide)
  · exact (vnw_se (i := 4) (by omega)).trans (by decide)
  · exact (vnw_se (i := 5) (by omega)).trans (by decide)
def vET (Z : (Nat → Int32) → Int32 → Int32 → Int32 → Bool) (W : Nat → Int32) (f : Nat) (a : Int32) : vV := vrl 10000 Z 0 2000 (vbg 10000 (vnw vEA W) 0 f a 0).2
theorem c_think (hR : RP 5 s W) (hp : Ipr W) (hK : KC s) (hT : TN s) (hf : f < 10) (hs1 : 1 ≤ vsz W f) : ∃ s' zs' fr', gX10_thinkEndless s (nI f) a = some (57, s') ∧ RC 40 10000 s' (vET Z W f a) zs' fr' ∧ VI 10000 8003 (vET Z W f a) ∧ (∀ c, c < 40 ∨ 68 < c → s' c = s c) ∧ TN s' := by
  obtain ⟨s1, a1, a2, a3, a4, a5, a6, a7, a8⟩ := c_clr9 (b := 40) (s := s) (lim := 10000) (Or.inr rfl)
  have a1 : gX9_clear 40 s 10000 = some ((), s1) := a1
  unfold gX10_thinkEndless
  rw [a1, cl_some, wr_eq, wr_eq, wr_eq, ix_0 (by omega) (by omega)]
  generalize hS : wt_u (wt_u (wt_u s1 41 0 10000) 41 2 0) 41 5 1000000 = s4
  have f4 : ∀ c, c ≠ 41 → s4 c = s1 c := fun c hc => by rw [← hS, wt_u_ne hc, wt_u_ne hc, wt_u_ne hc]
  have e4 : ∀ j, j < 6 → s4 (40 + 1) j = vEA j := fun j hj => by
    have hk := (hK j hj).2.2
    have h4 := a4 j hj
    rw [hk] at h4
    rw [← hS]
    unfold vEA
    by_cases c5 : j = 5
    · subst c5; rw [wt_u_self]; rfl
    rw [wt_u_nk c5]
    by_cases c2 : j = 2
    · subst c2; rw [wt_u_self]; rfl
    rw [wt_u_nk c2]
    by_cases c0 : j = 0
    · subst c0; rw [wt_u_self]; rfl
    rw [wt_u_nk c0, if_neg c0, if_neg c2, if_neg c5]
    exact h4
  have hR4 : RP 5 s4 W := hR.eq hp vpe.refl (fun c c1 c2 => by rw [f4 c (by omega), a2 c (by omega)])
  have hF := RC.fresh (b := 40) (lim := 10000) (s := s4) (s0 := s) (A := vEA) (W := W) (by omega) (a3.eq (fun c hc => f4 c (by omega))) e4 (fun j hj => by rw [f4 _ (by omega)]; exact a5 j hj) (fun k hk => by rw [f4 _ (by omega)]; exact a6 k hk) hT (fun k hk j hj => by rw [f4 _ (by omega)]; exact a7 k hk j hj) hR4 hp
  have hx := cx40 (lim := 10000) (Nat.le_refl _)
  have hI0 : VI 10000 0 (vnw vEA W) := vi_nw hp ise_en
  have hs1' : 1 ≤ vsz (vnw vEA W).1 f := by rw [(vnw_pp.sz hf).1]; exact hs1
  obtain ⟨s6, zs6, fr6, b1, b2, b3⟩ := c_begin (t := 0) (a := a) (mode := 0) hF hx hI0 (by omega) (nw_id (by omega)) hf hs1' (Or.inl rfl)
  rw [b1, cl_some]
  obtain ⟨s', zs', fr', d1, d2, d3, d4⟩ := c_69 (Z := Z) hx 2000 0 wt_N 3 s6 _ zs6 fr6 (by omega) (by unfold wt_N; omega) b2 (vi_bg hI0 (by omega) (by omega) (nw_id (by omega)) hf hs1' (Or.inl rfl)) (wl_bg hI0 (by omega) (by omega) (nw_id (by omega)) hf hs1' (Or.inl rfl))
  refine ⟨s', zs', fr', d1, d2, d3.mono (by omega), fun c hc => ?_, fun k hk => (d2.2.2.2.1 k hk).1.1⟩
  rw [d4.2 c (by omega), b3.2 c (by omega), f4 c (by omega), a2 c (by omega)]
end
end
