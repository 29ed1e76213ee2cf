/-! ===== the class: COMPACT ===== -/
theorem vall_app : ∀ {a c : List vP}, vall (a ++ c) = vall a + vall c := by
  intro a
  induction a with
  | nil => intro c; show vall c = 0 + vall c; omega
  | cons q a ih =>
    intro c
    show q.2.1 + vall (a ++ c) = q.2.1 + vall a + vall c
    rw [ih]; omega
/-- the words of all pieces before a rank -/
def zP (zs : List (vP × Nat)) (x : Nat) : Nat := vall ((zs.take x).map Prod.fst)
theorem vpk_at : ∀ {ps : List vP} {a x : Nat}, (vpk a ps)[x]? = (ps[x]?).map (fun q => (a + vall (ps.take x), q.2.1, q.2.2)) := by
  intro ps
  induction ps with
  | nil => intro a x; rfl
  | cons q ps ih =>
    intro a x
    cases x with
    | zero => rfl
    | succ x =>
      show (vpk (a + q.2.1) ps)[x]? = (ps[x]?).map (fun p => (a + (q.2.1 + vall (ps.take x)), p.2.1, p.2.2))
      rw [ih]
      congr 1
      funext p
      rw [Nat.add_assoc]
theorem vall_pk : ∀ {ps : List vP} {a : Nat}, vall (vpk a ps) = vall ps := by
  intro ps
  induction ps with
  | nil => intro a; rfl
  | cons q ps ih =>
    intro a
    show q.2.1 + vall (vpk (a + q.2.1) ps) = q.2.1 + vall ps
    rw [ih]
def zpk (zs : List (vP × Nat)) : List (vP × Nat) := zs.mapIdx (fun x z => ((zP zs x, z.1.2.1, z.1.2.2), z.2))
theorem vMQ_mem {mm mm' W : Nat → Int32} {n : Nat} {fr : Nat → vF} {ql pl : Nat → Nat} (h : vMQ mm W n fr ql pl) (he : ∀ i, i < n → ∀ j, j < vwd W (fr i).1 → mm' (ql i + j) = mm (ql i + j)) : vMQ mm' W n fr ql pl := by
  intro i hi
  obtain ⟨h1, h2, h3⟩ := h i hi
  have e0 : mm' (ql i) = mm (ql i) := he i hi 0 (by unfold vwd; omega)
  refine ⟨by rw [e0]; exact h1, by rw [he i hi 1 (by unfold vwd; omega)]; exact h2, fun k hk => ?_⟩
  rw [Nat.add_assoc, he i hi (2 + k) (by unfold vwd; omega), ← Nat.add_assoc]
  exact h3 k hk
section
variable {b lim B : Nat} {s s' : wt_S} {V V' : vV} {zs zs' : List (vP × Nat)} {fr fr' : List Nat} {t np z : Nat}
theorem zP_s {x : Nat} {y : vP × Nat} (h : zs[x]? = some y) : zP zs (x + 1) = zP zs x + y.1.2.1 := by
  unfold zP
  rw [List.take_succ, h, List.map_append, vall_app]
  rfl
theorem zP_le (ho : vo lim (zs.map Prod.fst)) : ∀ {x : Nat} {y : vP × Nat}, zs[x]? = some y → zP zs x ≤ y.1.1 := by
  intro x
  induction x with
  | zero => intro y _; exact Nat.zero_le _
  | succ x ih =>
    intro y hy
    have hl := (List.getElem?_eq_some_iff.mp hy).1
    have hw : zs[x]? = some zs[x] := List.getElem?_eq_getElem (by omega)
    rw [zP_s hw]
    have := ih hw
    have := (zs_lt ho hw hy (by omega)).1
    omega
theorem zP_mono {x y : Nat} (h : x ≤ y) (hy : y ≤ zs.length) : zP zs x ≤ zP zs y := by
  induction y with
  | zero => rw [show x = 0 by omega]; exact Nat.le_refl _
  | succ y ih =>
    by_cases c : x = y + 1
    · rw [c]; exact Nat.le_refl _
    · have := ih (by omega) (by omega)
      have hw : zs[y]? = some zs[y] := List.getElem?_eq_getElem (by omega)
      rw [zP_s hw]
      omega
theorem zpk_at {x : Nat} : (zpk zs)[x]? = (zs[x]?).map (fun y => ((zP zs x, y.1.2.1, y.1.2.2), y.2)) := by
  unfold zpk
  rw [List.getElem?_mapIdx]
theorem zpk_len : (zpk zs).length = zs.length := by unfold zpk; rw [List.length_mapIdx]
theorem zpk_fst : (zpk zs).map Prod.fst = vpk 0 (zs.map Prod.fst) := by
  apply List.ext_getElem?
  intro x
  rw [List.getElem?_map, zpk_at, vpk_at, List.getElem?_map, ← List.map_take]
  cases zs[x]? with
  | none => rfl
  | some y =>
    show some (zP zs x, y.1.2.1, y.1.2.2) = some (0 + vall ((zs.take x).map Prod.fst), y.1.2.1, y.1.2.2)
    rw [Nat.zero_add]
    rfl
theorem zpk_snd : (zpk zs).map Prod.snd = zs.map Prod.snd := by
  apply List.ext_getElem?
  intro x
  rw [List.getElem?_map, zpk_at, List.getElem?_map]
  cases zs[x]? with
  | none => rfl
  | some y => rfl
theorem zpk_mem {y : vP × Nat} : y ∈ zpk zs ↔ ∃ x z, zs[x]? = some z ∧ y = ((zP zs x, z.1.2.1, z.1.2.2), z.2) := by
  constructor
  · intro h
    obtain ⟨x, hx⟩ := List.getElem?_of_mem h
    rw [zpk_at] at hx
    obtain ⟨z, h1, h2⟩ := Option.map_eq_some_iff.mp hx
    exact ⟨x, z, h1, h2.symm⟩
  · rintro ⟨x, z, h1, rfl⟩
    refine List.mem_of_getElem? (i := x) ?_
    rw [zpk_at, h1]
    rfl
theorem PC.rk (h : PC b lim s zs fr) {x y : Nat} {z1 z2 : vP × Nat} (h1 : zs[x]? = some z1) (h2 : zs[y]? = some z2) (he : z1.2 = z2.2) : x = y := by
  have e1 := zids_at (fr := fr) h1
  have e2 := zids_at (fr := fr) h2
  have hn := h.2.2.2.2.1
  obtain ⟨l1, q1⟩ := List.getElem?_eq_some_iff.mp e1
  obtain ⟨l2, q2⟩ := List.getElem?_eq_some_iff.mp e2
  exact (List.getElem_inj hn).mp (by rw [q1, q2, he])
theorem c_gat_4 (hP : PC b lim s zs fr) (ho : vo lim (zs.map Prod.fst)) (hl : lim ≤ 10000) : ∀ (m k fu : Nat) (s1 : wt_S), k + m = zs.length → m < fu → (∀ c, c ≠ b + 9 → s1 c = s c) → (∀ (x : Nat) (y : vP × Nat), x < k → zs[x]? = some y → s1 (b + 9) y.2 = nI (zP zs x) - nI y.1.1) → ∃ s2, gX4_gather_4 b fu s1 (nI (zP zs k)) (nI k) = gX4_gather_64 b wt_N s2 6 0 ∧ (∀ c, c ≠ b + 9 → s2 c = s c) ∧ ∀ (x : Nat) (y : vP × Nat), zs[x]? = some y → s2 (b + 9) y.2 = nI (zP zs x) - nI y.1.1 := by
  have hn := hP.len
  intro m
  induction m with
  | zero =>
    intro k fu s1 hk hfu h1 h2
    obtain ⟨fu, rfl⟩ : ∃ k, fu = k + 1 := ⟨fu - 1, by omega⟩
    refine ⟨s1, ?_, h1, fun x y hy => h2 x y (by have := (List.getElem?_eq_some_iff.mp hy).1; omega) hy⟩
    rw [gX4_gather_4, h1 _ (by omega), hP.1, if_pos (by rw [nI_int (by omega), nI_int (by omega)]; omega)]
  | succ m ih =>
    intro k fu s1 hk hfu h1 h2
    obtain ⟨fu, rfl⟩ : ∃ k, fu = k + 1 := ⟨fu - 1, by omega⟩
    have hz : zs[k]? = some zs[k] := List.getElem?_eq_getElem (by omega)
    generalize zs[k] = z at hz
    have hP1 : PC b lim s1 zs fr := hP.eq (fun c hc => h1 c (by omega))
    obtain ⟨g1, g2, g3, g4, g5, g6, g7⟩ := hP1.at hz
    rw [gX4_gather_4, h1 (b + 2) (by omega), hP.1, if_neg (by rw [nI_int (by omega), nI_int (by omega)]; omega), c_idAt hP1 hz, cl_some, c_aimAt g2, cl_some, c_wordsOf g2, cl_some, wt_u_ne (show b + 4 ≠ b + 9 by omega), g6, g5, nI_add, ← zP_s hz, show nI k + 1 = nI (k + 1) from nI_add k 1]
    refine ih (k + 1) fu (wt_u s1 (b + 9) z.2 (nI (zP zs k) - nI z.1.1)) (by omega) (by omega) (fun c hc => by rw [wt_u_ne hc]; exact h1 c hc) (fun x y hx hy => ?_)
    by_cases c : y.2 = z.2
    · have := hP.rk hy hz c
      subst this
      rw [hz] at hy
      cases hy
      rw [wt_u_self]
    · rw [wt_u_nk c]
      by_cases c2 : x = k
      · subst c2
        rw [hz] at hy
        cases hy
        exact absurd rfl c
      · exact h2 x y (by omega) hy
theorem c_gat_92 {u : vP × Nat → Nat} (hx : CX b lim) (hP : PC b lim s zs fr) (ho : vo lim (zs.map Prod.fst)) (h9 : ∀ (x : Nat) (y : vP × Nat), zs[x]? = some y → s (b + 9) y.2 = nI (zP zs x) - nI y.1.1) (h5 : ∀ (x : Nat) (y : vP × Nat), zs[x]? = some y → s (b + 5) y.2 = nI (u y) ∧ u y ≤ y.1.2.1) : ∀ (m k c fu : Nat) (s1 : wt_S), k + m = zs.length → m < fu → c + m < 100000 → (∀ d, d ≠ b + 3 → d ≠ b + 15 → d ≠ b + 11 → d ≠ b + 12 → s1 d = s d) → (∀ (x : Nat) (y : vP × Nat), zs[x]? = some y → s1 (b + 3) y.2 = nI (if x < k then zP zs x else y.1.1)) → (∀ a, zP zs k ≤ a → s1 (b + 15) a = s (b + 15) a) → (∀ (x : Nat) (y : vP × Nat), x < k → zs[x]? = some y → ∀ j, j < u y → s1 (b + 15) (zP zs x + j) = s (b + 15) (y.1.1 + j)) →
    ∃ s2, gX4_gather_92 b fu s1 (nI c) (nI k) = some (nI (c + vcc (zP zs k) ((zs.drop k).map Prod.fst)), s2) ∧ (∀ d, d ≠ b + 3 → d ≠ b + 15 → d ≠ b + 11 → d ≠ b + 12 → s2 d = s d) ∧ (∀ (x : Nat) (y : vP × Nat), zs[x]? = some y → s2 (b + 3) y.2 = nI (zP zs x)) ∧ ∀ (x : Nat) (y : vP × Nat), zs[x]? = some y → ∀ j, j < u y → s2 (b + 15) (zP zs x + j) = s (b + 15) (y.1.1 + j) := by
  have hb := hx.b
  have hxm := hx.m
  have hn := hP.len
  intro m
  induction m with
  | zero =>
    intro k c fu s1 hk hfu hc h1 h2 h3 h4
    obtain ⟨fu, rfl⟩ : ∃ k, fu = k + 1 := ⟨fu - 1, by omega⟩
    refine ⟨s1, ?_, h1, fun x y hy => ?_, fun x y hy => h4 x y (by have := (List.getElem?_eq_some_iff.mp hy).1; omega) hy⟩
    · rw [gX4_gather_92, h1 _ (by omega) (by omega) (by omega) (by omega), hP.1, if_pos (by rw [nI_int (by omega), nI_int (by omega)]; omega), List.drop_eq_nil_of_le (by omega)]
      rfl
    · rw [h2 x y hy, if_pos (by have := (List.getElem?_eq_some_iff.mp hy).1; omega)]
  | succ m ih =>
    intro k c fu s1 hk hfu hc h1 h2 h3 h4
    obtain ⟨fu, rfl⟩ : ∃ k, fu = k + 1 := ⟨fu - 1, by omega⟩
    have hlk : k < zs.length := by omega
    have hdr : zs.drop k = zs[k] :: zs.drop (k + 1) := List.drop_eq_getElem_cons hlk
    have hz : zs[k]? = some zs[k] := List.getElem?_eq_getElem hlk
    generalize zs[k] = z at hz hdr
    obtain ⟨g1, g2, g3, g4, g5, g6, g7⟩ := hP.at hz
    have hzo := (ho.2 z.1 (List.mem_map.mpr ⟨z, List.mem_of_getElem? hz, rfl⟩))
    have hle := zP_le ho hz
    obtain ⟨u1, u2⟩ := h5 k z hz
    have e3 : s1 (b + 3) z.2 = nI z.1.1 := by rw [h2 k z hz, if_neg (by omega)]
    have e9 : s1 (b + 9) z.2 = nI (zP zs k) - nI z.1.1 := by rw [h1 _ (by omega) (by omega) (by omega) (by omega)]; exact h9 k z hz
    have e5 : s1 (b + 5) z.2 = nI (u z) := by rw [h1 _ (by omega) (by omega) (by omega) (by omega)]; exact u1
    have hid : gX5_idAt b s1 (nI k) = some (nI z.2, s1) := by
      unfold gX5_idAt
      rw [if_neg (c_lo (by omega)), h1 (b + 2) (by omega) (by omega) (by omega) (by omega), hP.1, if_neg (by rw [nI_int (by omega), nI_int (by omega)]; omega), if_neg (c_hi g4), ix_nI g4 (by omega), h1 (b + 8) (by omega) (by omega) (by omega) (by omega), g1]
    obtain ⟨s4, b1, b2, b3, b4⟩ := c_bring (s := s1) (b := b) (from' := z.1.1) (to := zP zs k) (u := u z) hx (by omega) (by omega)
    have hbr : gX4_bringOver b s1 (nI z.2) = some ((), s4) := by
      unfold gX4_bringOver
      rw [c_placeOf g2, cl_some, c_shiftOf g2, cl_some, c_usedOf g2, cl_some, e3, e9, e5, nI_turn (Nat.le_refl _), Nat.sub_self, Nat.add_zero, b1, cl_some]
    have hvc : vcc (zP zs k) ((zs.drop k).map Prod.fst) = (if z.1.1 = zP zs k then 0 else 1) + vcc (zP zs (k + 1)) ((zs.drop (k + 1)).map Prod.fst) := by
      rw [hdr, zP_s hz]
      rfl
    have hmem4 : ∀ (x : Nat) (y : vP × Nat), x < k + 1 → zs[x]? = some y → ∀ j, j < u y → s4 (b + 15) (zP zs x + j) = s (b + 15) (y.1.1 + j) := fun x y hxk hy j hj => by
      by_cases c2 : x = k
      · subst c2
        rw [hz] at hy
        cases hy
        rw [b3 j hj, h3 _ (by omega)]
      · have hm := zP_mono (zs := zs) (show x + 1 ≤ k by omega) (by omega)
        rw [zP_s hy] at hm
        have := (h5 x y hy).2
        rw [b4 _ (by omega)]
        exact h4 x y (by omega) hy j hj
    have hmem3 : ∀ a, zP zs (k + 1) ≤ a → s4 (b + 15) a = s (b + 15) a := fun a ha => by
      rw [zP_s hz] at ha
      rw [b4 _ (by omega)]
      exact h3 a (by omega)
    have e49 : s4 (b + 9) z.2 = nI (zP zs k) - nI z.1.1 := by rw [b2 _ (by omega)]; exact e9
    rw [gX4_gather_92, h1 (b + 2) (by omega) (by omega) (by omega) (by omega), hP.1, if_neg (by rw [nI_int (by omega), nI_int (by omega)]; omega), hid, cl_some, hbr, cl_some, hvc]
    unfold gX5_settle
    rw [if_neg (c_lo (by omega)), if_neg (c_hi g2), ix_nI g2 (by omega), e49, show nI k + 1 = nI (k + 1) from nI_add k 1]
    by_cases ce : z.1.1 = zP zs k
    · rw [if_pos ce, if_neg (by rw [← ce]; simp), cl_some, if_pos rfl, Nat.zero_add]
      refine ih (k + 1) c fu s4 (by omega) (by omega) (by omega) (fun d d1 d2 d3 d4 => by rw [b2 d d2]; exact h1 d d1 d2 d3 d4) (fun x y hy => ?_) hmem3 hmem4
      rw [b2 _ (by omega), h2 x y hy]
      by_cases c2 : x = k
      · subst c2
        rw [hz] at hy
        cases hy
        rw [if_neg (by omega), if_pos (by omega), ce]
      · by_cases c3 : x < k
        · rw [if_pos c3, if_pos (by omega)]
        · rw [if_neg c3, if_neg (by omega)]
    · rw [if_neg ce, if_pos (fun q => ce ?_), ix_nI g2 (by omega), ix_nI g2 (by omega), ix_nI g2 (by omega), wr_eq, cl_some, if_neg (by decide), e49, b2 (b + 3) (by omega), e3, nI_turn (Nat.le_refl _), Nat.sub_self, Nat.add_zero (zP zs k)]
      · obtain ⟨s5, w1, w2⟩ := c_writeLog (b := b) (s := wt_u s4 (b + 3) z.2 (nI (zP zs k))) (i1 := 7) g2
        rw [w1, cl_some, show nI c + 1 = nI (c + 1) from nI_add c 1, ← Nat.add_assoc]
        have e15 : s5 (b + 15) = s4 (b + 15) := by rw [w2 _ (by omega) (by omega), wt_u_ne (by omega)]
        refine ih (k + 1) (c + 1) fu s5 (by omega) (by omega) (by omega) (fun d d1 d2 d3 d4 => by rw [w2 d d3 d4, wt_u_ne d1, b2 d d2]; exact h1 d d1 d2 d3 d4) (fun x y hy => ?_) (fun a ha => by rw [e15]; exact hmem3 a ha) (fun x y hxk hy j hj => by rw [e15]; exact hmem4 x y hxk hy j hj)
        rw [w2 _ (by omega) (by omega)]
        by_cases c2 : x = k
        · subst c2
          rw [hz] at hy
          cases hy
          rw [wt_u_self, if_pos (by omega)]
        · rw [wt_u_nk (fun q => c2 (hP.rk hy hz q)), b2 _ (by omega), h2 x y hy]
          by_cases c3 : x < k
          · rw [if_pos c3, if_pos (by omega)]
          · rw [if_neg c3, if_neg (by omega)]
      · have q : nI (zP zs k) = nI z.1.1 := by
          have := congrArg (fun v => v + nI z.1.1) q
          simpa [Int32.sub_add_cancel] using this
        exact ((nI_inj (by omega) (by omega)).mp q).symm
end
