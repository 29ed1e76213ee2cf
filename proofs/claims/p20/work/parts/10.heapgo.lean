section
/-! ===== the rows that read and write the heap ===== -/
section
variable {X : mj_X} {ρ : Type} {R0 : ρ} {pc : Nat} {loc : mj_l Int32} {st : mj_s Int32} {h : mj_h Int32} {kn : mj_l Int32 → mj_s Int32 → mj_h Int32 → Option ρ}
theorem mj_oldT {G : mj_G} {s : State} {H : Heap} {a n : Nat} {f : Nat → Int32} (hK : mj_KK G s) (hsz : G.2.1.size = G.1) (hR : mj_HR G h H) (ha : a < 4) (hc : h[a]? = some (.inl (0, n, f))) : va_T .int (mj_ad G a) n (fun j => .int (f j)) (mj_A G) s H := by
  have h1 := hK.2.2.2.1 a n f ha (by rw [← hR.old ha]; exact hc)
  unfold mj_ad
  rw [if_pos ha]
  exact h1.kept fun q hq hA => hR.2.2.2.2 q (by rw [← hsz]; exact hq)
theorem go_iald (C : mj_Cx X) (hd : decode X.2.1.2.1 pc = .ok (.iaload, 1)) (hE : mj_ald mj_I loc st h kn none 0 = some R0) (K : ∀ loc' st' h1, kn loc' st' h1 = some R0 → mj_Go X (pc + 1) loc' st' h1) : mj_Go X pc loc st h := by
  rcases X with ⟨G, e, p, l, en, R, s, m, args, below, meth, c, h0, Q⟩
  obtain ⟨hx, hb, hml, hr, hown, hlk, hnm, hts, hK, hR0, hsz, hol⟩ := C
  unfold mj_ald at hE
  split at hE
  · rename_i i a rest
    rw [mj_nth_eq] at hE
    split at hE
    · rename_i t n f hc
      split at hE
      · rename_i z ht hz
        obtain rfl : i.toInt = z := Option.some.inj hz
        obtain rfl : t = 0 := Nat.eq_of_beq_eq_true ht
        split at hE
        · rename_i k hk
          obtain ⟨k1, k2, k3⟩ := mj_ix_spec hk
          intro H locs ls hR h1 h2 h3 hL
          by_cases ha : 4 ≤ a
          · refine va_iald hx hb hK.1 hR.2.2.2.1 (a - 4) 0 (mj_ws_get ha hc) rfl k1 hd ?_
            rw [k2]
            exact K _ _ _ hE H locs ls hR h1 h2 h3 hL
          · obtain ⟨cell, c1, c2, c3, c4, c5, c6, c7⟩ := mj_oldT hK hsz hR (by omega) hc
            refine W.iald hx hb c1 c2 c3 (fun q => k1 (q.imp id fun q => Nat.le_trans c4 q)) (by rw [k2]; exact c6 k k3) rfl rfl hd ?_
            exact K _ _ _ hE H locs ls hR h1 h2 h3 hL
        · cases hE
      · cases hE
    · cases hE
  · cases hE
theorem go_zald (C : mj_Cx X) (hd : decode X.2.1.2.1 pc = .ok (.baload, 1)) (hE : mj_ald mj_I loc st h kn none 1 = some R0) (K : ∀ loc' st' h1, kn loc' st' h1 = some R0 → mj_Go X (pc + 1) loc' st' h1) : mj_Go X pc loc st h := by
  rcases X with ⟨G, e, p, l, en, R, s, m, args, below, meth, c, h0, Q⟩
  obtain ⟨hx, hb, hml, hr, hown, hlk, hnm, hts, hK, hR0, hsz, hol⟩ := C
  unfold mj_ald at hE
  split at hE
  · rename_i i a rest
    rw [mj_nth_eq] at hE
    split at hE
    · rename_i t n f hc
      split at hE
      · rename_i z ht hz
        obtain rfl : i.toInt = z := Option.some.inj hz
        obtain rfl : t = 1 := Nat.eq_of_beq_eq_true ht
        split at hE
        · rename_i k hk
          obtain ⟨k1, k2, k3⟩ := mj_ix_spec hk
          intro H locs ls hR h1 h2 h3 hL
          by_cases ha : 4 ≤ a
          · refine va_zald hx hb hK.1 hR.2.2.2.1 (a - 4) 1 (mj_ws_get ha hc) rfl k1 hd ?_
            rw [k2]
            exact K _ _ _ hE H locs ls hR h1 h2 h3 hL
          · obtain ⟨n', f', ho⟩ := hol a (by omega)
            rw [← hR.old (by omega), hc] at ho
            cases ho
        · cases hE
      · cases hE
    · cases hE
  · cases hE
theorem go_iast (C : mj_Cx X) (hd : decode X.2.1.2.1 pc = .ok (.iastore, 1)) (hE : mj_ast mj_I loc st h kn none = some R0) (K : ∀ loc' st' h1, kn loc' st' h1 = some R0 → mj_Go X (pc + 1) loc' st' h1) : mj_Go X pc loc st h := by
  rcases X with ⟨G, e, p, l, en, R, s, m, args, below, meth, c, h0, Q⟩
  obtain ⟨hx, hb, hml, hr, hown, hlk, hnm, hts, hK, hR0, hsz, hol⟩ := C
  unfold mj_ast at hE
  split at hE
  · rename_i v i a rest
    rw [mj_nth_eq] at hE
    split at hE
    · rename_i n f hc h4
      have ha := Nat.le_of_ble_eq_true h4
      dsimp only [mj_I] at hE
      split at hE
      · rename_i k hk
        obtain ⟨k1, k2, k3⟩ := mj_ix_spec hk
        intro H locs ls hR h1 h2 h3 hL
        have hP := hR.2.2.2.1 (a - 4) _ (mj_ws_get ha hc)
        refine W.iast hx hb hP ((hK.1.2 0 _ rfl).1 n (fun j => .int (f j))) (fun q => by cases q) (by show ¬ (i < 0 ∨ (arrV _ _ _).slots.size ≤ _); rw [arrV_size]; exact k1) rfl rfl hd fun H1 e1 z oq => ?_
        obtain ⟨s1, s2⟩ := mj_sz_put (c' := .inl (0, n, mj_upd f k v)) hc rfl
        have := K _ _ _ hE H1 (locs ++ [⟨mj_ad G a, i.toNatClampNeg⟩]) ls (hR.put ha hc (by
          show H1[_]? = some (vp_cell _ _)
          rw [e1]
          show some ((vp_cell _ _).setSlot _ _) = some (vp_cell _ _)
          rw [vp_cell_i, vp_cell_i, arrV_store, mj_upd_eq, k2]
          congr 2
          funext q
          by_cases hq : q = k
          · simp [updV, hq]
          · simp [updV, hq]) z oq) (by rw [s2]; exact h1) (by rw [s1]; exact h2) (mj_locs h3 ha) hL
        rw [s1, s2] at this
        exact this
      · cases hE
    · cases hE
  · cases hE
theorem mj_bit_spec {v : Int32} (h : mj_bit (some v.toInt) = true) : v = 0 ∨ v = 1 := by
  unfold mj_bit at h
  split at h
  · rename_i hq
    left
    have : v.toInt = (0 : Int32).toInt := by rw [Option.some.inj hq]; rfl
    exact Int32.toInt_inj.mp this
  · rename_i hq
    right
    have : v.toInt = (1 : Int32).toInt := by rw [Option.some.inj hq]; rfl
    exact Int32.toInt_inj.mp this
  · cases h
theorem go_zast (C : mj_Cx X) (hd : decode X.2.1.2.1 pc = .ok (.bastore, 1)) (hE : mj_bst mj_I loc st h kn none = some R0) (K : ∀ loc' st' h1, kn loc' st' h1 = some R0 → mj_Go X (pc + 1) loc' st' h1) : mj_Go X pc loc st h := by
  rcases X with ⟨G, e, p, l, en, R, s, m, args, below, meth, c, h0, Q⟩
  obtain ⟨hx, hb, hml, hr, hown, hlk, hnm, hts, hK, hR0, hsz, hol⟩ := C
  unfold mj_bst at hE
  split at hE
  · rename_i v i a rest
    rw [mj_nth_eq] at hE
    split at hE
    · rename_i n f hc h4 hbit
      have ha := Nat.le_of_ble_eq_true h4
      have hv : narrow .boolean (.int v) = .int v := by
        rcases mj_bit_spec hbit with rfl | rfl <;> rfl
      dsimp only [mj_I] at hE
      split at hE
      · rename_i k hk
        obtain ⟨k1, k2, k3⟩ := mj_ix_spec hk
        intro H locs ls hR h1 h2 h3 hL
        have hP := hR.2.2.2.1 (a - 4) _ (mj_ws_get ha hc)
        refine W.zast hx hb hP ((hK.1.2 1 _ rfl).1 n (fun j => .int (f j))) (fun q => by cases q) (by show ¬ (i < 0 ∨ (arrV _ _ _).slots.size ≤ _); rw [arrV_size]; exact k1) rfl rfl hd fun H1 e1 z oq => ?_
        obtain ⟨s1, s2⟩ := mj_sz_put (c' := .inl (1, n, mj_upd f k v)) hc rfl
        have := K _ _ _ hE H1 (locs ++ [⟨mj_ad G a, i.toNatClampNeg⟩]) ls (hR.put ha hc (by
          show H1[_]? = some (vp_cell _ _)
          rw [e1, hv]
          show some ((vp_cell _ _).setSlot _ _) = some (vp_cell _ _)
          rw [vp_cell_i, vp_cell_i, arrV_store, mj_upd_eq, k2]
          congr 2
          funext q
          by_cases hq : q = k
          · simp [updV, hq]
          · simp [updV, hq]) z oq) (by rw [s2]; exact h1) (by rw [s1]; exact h2) (mj_locs h3 ha) hL
        rw [s1, s2] at this
        exact this
      · cases hE
    · cases hE
  · cases hE
theorem go_aald (C : mj_Cx X) (hd : decode X.2.1.2.1 pc = .ok (.aaload, 1)) (hE : mj_aald mj_I loc st h kn none = some R0) (K : ∀ loc' st' h1, kn loc' st' h1 = some R0 → mj_Go X (pc + 1) loc' st' h1) : mj_Go X pc loc st h := by
  rcases X with ⟨G, e, p, l, en, R, s, m, args, below, meth, c, h0, Q⟩
  obtain ⟨hx, hb, hml, hr, hown, hlk, hnm, hts, hK, hR0, hsz, hol⟩ := C
  unfold mj_aald at hE
  split at hE
  · rename_i i a rest
    rw [mj_nth_eq] at hE
    split at hE
    · rename_i n f hc
      split at hE
      · rename_i z hz h4
        obtain rfl : i.toInt = z := Option.some.inj hz
        have ha := Nat.le_of_ble_eq_true h4
        split at hE
        · rename_i k hk
          obtain ⟨k1, k2, k3⟩ := mj_ix_spec hk
          split at hE
          · rename_i b hf
            intro H locs ls hR h1 h2 h3 hL
            refine va_aldq hx hb hK.1 hR.2.2.2.1 (a - 4) 2 (mj_ws_get ha hc) rfl k1 hd ?_
            have := K _ _ _ hE H locs ls hR h1 h2 h3 hL
            rw [k2, hf]
            exact this
          · cases hE
        · cases hE
      · cases hE
    · cases hE
  · cases hE
theorem go_aast (C : mj_Cx X) (hd : decode X.2.1.2.1 pc = .ok (.aastore, 1)) (hE : mj_aast mj_I loc st h kn none = some R0) (K : ∀ loc' st' h1, kn loc' st' h1 = some R0 → mj_Go X (pc + 1) loc' st' h1) : mj_Go X pc loc st h := by
  rcases X with ⟨G, e, p, l, en, R, s, m, args, below, meth, c, h0, Q⟩
  obtain ⟨hx, hb, hml, hr, hown, hlk, hnm, hts, hK, hR0, hsz, hol⟩ := C
  unfold mj_aast at hE
  split at hE
  · rename_i b i a rest
    rw [mj_nth_eq, mj_nth_eq] at hE
    split at hE
    · rename_i n f fs hc h4 hcb h4b
      have ha := Nat.le_of_ble_eq_true h4
      have hb4 := Nat.le_of_ble_eq_true h4b
      dsimp only [mj_I] at hE
      split at hE
      · rename_i k hk
        obtain ⟨k1, k2, k3⟩ := mj_ix_spec hk
        intro H locs ls hR h1 h2 h3 hL
        have hP := hR.2.2.2.1 (a - 4) _ (mj_ws_get ha hc)
        have hn0 : ¬ i < 0 := fun q => k1 (Or.inl q)
        obtain ⟨r', hr', cellV, g1, g2, g3, -⟩ := hR.2.2.2.1 (b - 4) _ (mj_ws_get hb4 hcb)
        have hcls := (hK.1.1 7 _ rfl).2
        obtain ⟨kA, comp, e1, e2, e3, -⟩ := (hK.1.2 2 _ rfl).2
        have hcomp : comp = G.2.2.2.1.1 7 := Option.some.inj (e3.symm.trans hcls.1)
        subst hcomp
        obtain ⟨kC, hkC, -⟩ := hcls.2
        refine W.aast hx hb hP (fun q h => by cases h) (fun h => by cases h) e1 e2 rfl hkC ⟨hn0, by show _ < (arrV _ _ _).slots.size; rw [arrV_size, k2]; exact k3⟩ g1 (fun q h => by rw [g3] at h; cases h) (by rw [g2]; exact hkC) (by rw [g2]; exact va_assign hcls) rfl rfl hd fun H1 e4 z oq => ?_
        obtain ⟨s1, s2⟩ := mj_sz_put (c' := .inr (.inl (n, mj_upd f k (some b)))) hc rfl
        have := K _ _ _ hE H1 (locs ++ [⟨mj_ad G a, i.toNatClampNeg⟩]) ls (hR.put ha hc (by
          show H1[_]? = some (vp_cell _ _)
          rw [e4]
          show some ((vp_cell _ _).setSlot _ _) = some (vp_cell _ _)
          rw [vp_cell_q, vp_cell_q, arrV_store, mj_upd_eq, k2]
          congr 2
          funext q
          by_cases hq : q = k
          · simp [updV, hq, va_rf]
          · simp [updV, hq]) z oq) (by rw [s2]; exact h1) (by rw [s1]; exact h2) (mj_locs h3 ha) hL
        rw [s1, s2] at this
        exact this
      · cases hE
    · cases hE
  · cases hE
theorem mj_ofInt_nat (n : Nat) : Int32.ofInt (Int.ofNat n) = Int32.ofNat n := by
  rfl
theorem go_alen (C : mj_Cx X) (hd : decode X.2.1.2.1 pc = .ok (.arraylength, 1)) (hE : mj_alen mj_I loc st h kn none = some R0) (K : ∀ loc' st' h1, kn loc' st' h1 = some R0 → mj_Go X (pc + 1) loc' st' h1) : mj_Go X pc loc st h := by
  rcases X with ⟨G, e, p, l, en, R, s, m, args, below, meth, c, h0, Q⟩
  obtain ⟨hx, hb, hml, hr, hown, hlk, hnm, hts, hK, hR0, hsz, hol⟩ := C
  unfold mj_alen at hE
  split at hE
  · rename_i a rest
    rw [mj_nth_eq] at hE
    split at hE
    · rename_i t n f hc
      intro H locs ls hR h1 h2 h3 hL
      by_cases ha : 4 ≤ a
      · by_cases ht : t = 0
        · refine va_alen hx hb hK.1 hR.2.2.2.1 (a - 4) 0 (cA := G.2.2.2.2.1) (x := (n, .inl f)) (by rw [mj_ws_get ha hc]; show some (_, Sum.inl (if t = 0 then _ else _, _)) = _; rw [if_pos ht]) rfl (mj_ofInt_nat n).symm hd ?_
          exact K _ _ _ hE H locs ls hR h1 h2 h3 hL
        · refine va_alen hx hb hK.1 hR.2.2.2.1 (a - 4) 1 (cA := G.2.2.2.2.2.1) (x := (n, .inl f)) (by rw [mj_ws_get ha hc]; show some (_, Sum.inl (if t = 0 then _ else _, _)) = _; rw [if_neg ht]) rfl (mj_ofInt_nat n).symm hd ?_
          exact K _ _ _ hE H locs ls hR h1 h2 h3 hL
      · obtain ⟨n', f', ho⟩ := hol a (by omega)
        rw [← hR.old (by omega), hc] at ho
        cases ho
        obtain ⟨cell, c1, c2, c3, c4, c5, c6, c7⟩ := mj_oldT hK hsz hR (by omega) hc
        refine W.alen hx hb c1 c2 (n := Int32.ofInt (Int.ofNat n)) (by rw [c5, mj_ofInt_nat]) rfl rfl hd ?_
        exact K _ _ _ hE H locs ls hR h1 h2 h3 hL
    · rename_i n f hc
      split at hE
      · rename_i h4
        have ha := Nat.le_of_ble_eq_true h4
        intro H locs ls hR h1 h2 h3 hL
        refine va_alen hx hb hK.1 hR.2.2.2.1 (a - 4) 2 (mj_ws_get ha hc) rfl (mj_ofInt_nat n).symm hd ?_
        exact K _ _ _ hE H locs ls hR h1 h2 h3 hL
      · cases hE
    · cases hE
  · cases hE
end
end
section
/-! ===== fields, new cells, copies ===== -/
section
variable {X : mj_X} {ρ : Type} {R0 : ρ} {pc : Nat} {loc : mj_l Int32} {st : mj_s Int32} {h : mj_h Int32} {kn : mj_l Int32 → mj_s Int32 → mj_h Int32 → Option ρ}
theorem mj_hts {args : Array Value} {s : State} (hts : ∀ w ∈ lw_tbl, goodWord w = true → w.before args s = true) : ∀ w ∈ mj_gw, w.before args s = true := fun w hw => hts w (List.mem_filter.mp hw).1 (List.mem_filter.mp hw).2
theorem mj_vw {ci : Nat} {C : String} {T : u_T} {N : Nat} (hc : vwCl[ci]? = some (C, T, N)) : ∃ ty : Nat → FieldType, (∀ k, k < N → parseFieldDescriptor (T k).2.2.1 = some (ty k)) ∧ (∀ a, a < N → ∀ b, b < N → a ≠ b → (T a).2.1 ≠ (T b).2.1) ∧ (∀ w ∈ u_ws C T N, w ∈ mj_gw) := mj_cls _ (List.mem_of_getElem? hc)
theorem go_getf {i x ci : Nat} {xs : List Nat} {C0 : String} {T : u_T} {N : Nat} (C : mj_Cx X) (hcl : vwCl[ci]? = some (C0, T, N)) (hk : x < N) (hw : .fieldLink X.2.1.1.cls i (T x).1 (T x).2.1 (T x).2.2.1 ∈ lw_tbl) (hd : decode X.2.1.2.1 pc = .ok (.getfield i, 3))
    (hE : mj_getf x (ci :: xs) loc st h kn none = some R0) (K : ∀ loc' st' h1, kn loc' st' h1 = some R0 → mj_Go X (pc + 3) loc' st' h1) : mj_Go X pc loc st h := by
  rcases X with ⟨G, e, p, l, en, R, s, m, args, below, meth, c, h0, Q⟩
  obtain ⟨hx, hb, hml, hr, hown, hlk, hnm, hts, hK, hR0, hsz, hol⟩ := C
  obtain ⟨ty, t1, t2, t3⟩ := mj_vw hcl
  unfold mj_getf at hE
  split at hE
  · rename_i a rest ci' xs' heq
    cases heq
    rw [mj_nth_eq] at hE
    split at hE
    · rename_i c1 fs hc
      rw [mj_nth_eq] at hE
      split at hE
      · rename_i v e1 e2 hv
        obtain rfl : c1 = ci := Nat.eq_of_beq_eq_true e1
        have ha := Nat.le_of_ble_eq_true e2
        intro H locs ls hR h1 h2 h3 hL
        refine va_get (D := G.2.2.2.1) (ci := c1) (v := mj_rv G v) (C := C0) (T := T) (N := N) hx hb (mj_hts hts) t3 hown hK.1 hR.2.2.2.1 (a - 4) (mj_ws_get ha hc) hcl x hk (hts _ hw rfl) (fun _ h9 => h9) (by rw [List.getElem?_map, hv]; rfl) hd ?_
        exact K _ _ _ hE H locs ls hR h1 h2 h3 hL
      · cases hE
    · cases hE
  · cases hE
theorem mj_fit_spec {G : mj_G} {kind : Nat} {v : mj_v Int32} {ty : FieldType} (h : mj_fit mj_I kind v = true) (hk : mj_kd (some ty) = kind) : narrow ty (mj_rv G v) = mj_rv G v ∧ fits ty (mj_rv G v) = true := by
  unfold mj_fit at h
  split at h
  · unfold mj_kd at hk
    split at hk <;> first | cases hk | skip
    rename_i heq
    cases heq
    exact ⟨rfl, rfl⟩
  · rename_i a
    unfold mj_kd at hk
    split at hk <;> first | cases hk | skip
    rename_i heq
    cases heq
    rcases mj_bit_spec h with rfl | rfl <;> exact ⟨rfl, rfl⟩
  · rename_i b
    unfold mj_kd at hk
    split at hk <;> first | cases hk | skip
    all_goals
      rename_i heq
      cases heq
      cases b <;> exact ⟨rfl, rfl⟩
  · cases h
theorem go_putf {i x ci pw kind : Nat} {xs : List Nat} {C0 : String} {T : u_T} {N : Nat} (C : mj_Cx X) (hcl : vwCl[ci]? = some (C0, T, N)) (hk : x < N) (hw : .fieldLink X.2.1.1.cls i (T x).1 (T x).2.1 (T x).2.2.1 ∈ lw_tbl)
    (hfin : (T x).2.2.2 = false ∨ ((T x).2.2.2 = true ∧ X.2.1.1.name = "<init>" ∧ (T x).1 = X.2.1.1.cls)) (hkd : mj_kd (parseFieldDescriptor (T x).2.2.1) = kind) (hd : decode X.2.1.2.1 pc = .ok (.putfield i, 3))
    (hE : mj_putf mj_I x (ci :: pw :: kind :: xs) loc st h kn none = some R0) (K : ∀ loc' st' h1, kn loc' st' h1 = some R0 → mj_Go X (pc + 3) loc' st' h1) : mj_Go X pc loc st h := by
  rcases X with ⟨G, e, p, l, en, R, s, m, args, below, meth, c, h0, Q⟩
  obtain ⟨hx, hb, hml, hr, hown, hlk, hnm, hts, hK, hR0, hsz, hol⟩ := C
  obtain ⟨ty, t1, t2, t3⟩ := mj_vw hcl
  unfold mj_putf at hE
  split at hE
  · rename_i v a rest ci' pw' kind' xs' heq
    cases heq
    rw [mj_nth_eq] at hE
    split at hE
    · rename_i c1 fs hc
      rw [mj_nth_eq] at hE
      split at hE
      · rename_i v0 e1 e2 hv e3
        obtain rfl : c1 = ci := Nat.eq_of_beq_eq_true e1
        have ha := Nat.le_of_ble_eq_true e2
        rw [t1 x hk] at hkd
        obtain ⟨n1, n2⟩ := mj_fit_spec (G := G) e3 hkd
        intro H locs ls hR h1 h2 h3 hL
        have hP := hR.2.2.2.1
        have he := mj_ws_get (G := G) ha hc
        have hap := va_apart (own := e.1.cls) (mj_hts hts) t3 ty t1 t2 hK.1 hcl
        obtain ⟨r, g1, cell, q1, q2, q3, q4⟩ := hP (a - 4) _ he
        have hr1 : r = (C0, T, N) := Option.some.inj (g1.symm.trans hcl)
        subst hr1
        obtain ⟨hS, hfc, kC, hkC, hkind⟩ := hK.1.1 c1 _ hcl
        obtain ⟨cf, kf, fi, f, hi, hsl⟩ := hS x hk
        have hlay := mj_hts hts _ (t3 _ (u_in_lay hk))
        have hst := (u_facts hfc hkC (u_lays (mj_hts hts) t3 hk) hi).1
        have hlen : x < fs.length := (List.getElem?_eq_some_iff.mp hv).1
        obtain ⟨s1, s2⟩ := mj_sz_put (c' := .inr (.inr (c1, mj_put fs x v))) hc (by show (mj_put fs x v).length = fs.length; rw [mj_put_eq]; simp)
        have fin : ∀ H' : Heap, H'[mj_ad G a]? = some (cell.setSlot f.slot (mj_rv G v)) → H'.size = H.size → (∀ q, q ≠ mj_ad G a → H'[q]? = H[q]?) → W p l en R s m args below meth c H' (locs ++ [⟨mj_ad G a, f.slot⟩]) (h.length - h0.length) (mj_sz h - mj_sz h0) Q (F0 m (pc + 3) ls (rest.map (mj_rv G))) := by
          intro H' e1 e2 e3
          rw [hsl] at e1
          have := K _ _ _ hE H' (locs ++ [⟨mj_ad G a, f.slot⟩]) ls (hR.put ha hc (by
            refine ⟨_, hcl, ?_⟩
            show t_OB _ _ _ _ _ (vp_V ((mj_put fs x v).map (mj_rv G)))
            refine t_OB.to (V := updV (vp_V (fs.map (mj_rv G))) x (mj_rv G v)) ⟨_, e1, q2, q3, t_set q4 hap hk _⟩ (fun j _ => ?_)
            rw [vp_updV_set (by simpa using hlen), mj_put_eq, List.map_set]) e2 e3) (by rw [s2]; exact h1) (by rw [s1]; exact h2) (mj_locs h3 ha) hL
          rw [s1, s2] at this
          exact this
        unfold u_lay at hlay
        rcases hfin with hf | ⟨hf, hin, hdc⟩
        · rw [if_neg (by rw [hf]; decide)] at hlay
          have h6 := u_store hfc hkC hkind hlay hi (t1 x hk) n1 n2
          exact W.putK hx hb (f := f) ⟨hown, hts _ hw rfl, ⟨_, _, _, hi⟩, hst⟩ (by rw [q2]; exact h6) q1 q3 (by rw [hsl]; exact k2_hasslot (q4 x hk)) rfl rfl hd fin
        · rw [if_pos hf] at hlay
          have hcf : m.cls = cf := by
            obtain ⟨_, _, c', _, _, _, -, -, hf', -, -, -, hown2, -⟩ := Cond.laysFinal_spec hlay
            have e1 : c' = cf := by have := hi.symm.trans hf'; simp at this; exact this.1.symm
            rw [hdc] at hown2
            rw [← e1]; exact Option.some.inj (hown.symm.trans hown2)
          have h6 := u_fits hfc hkC hkind (Or.inr hlay) hi (t1 x hk) n1 n2
          exact W.putFinK hx hb hown (hts _ hw rfl) hi hst hcf (hnm hin) (by rw [q2]; exact h6) q1 q3 (by rw [hsl]; exact k2_hasslot (q4 x hk)) rfl rfl hd fin
      · cases hE
    · cases hE
  · cases hE
theorem go_gets {i x : Nat} (C : mj_Cx X) (h1 : 1 ≤ x) (h2 : x < 4) (hw : .fieldLink X.2.1.1.cls i "GrowingStacks" (mj_sn x) "[I" ∈ lw_tbl ∨ .fieldLinkNest X.2.1.1.cls i "GrowingStacks" (mj_sn x) "[I" "GrowingStacks" ∈ lw_tbl) (hd : decode X.2.1.2.1 pc = .ok (.getstatic i, 3))
    (K : mj_Go X (pc + 3) loc (.inr (some x) :: st) h) : mj_Go X pc loc st h := by
  rcases X with ⟨G, e, p, l, en, R, s, m, args, below, meth, c, h0, Q⟩
  obtain ⟨hx, hb, hml, hr, hown, hlk, hnm, hts, hK, hR0, hsz, hol⟩ := C
  intro H locs ls hR q1 q2 q3 hL
  have hZ := (hK.2.2.2.2 x h1 h2).kept (H1 := s.heap) fun q hq hA => hR0.2.2.2.2 q (by rw [← hsz]; exact hq)
  have hS := hR0.S hR q1 q3
  have := K H locs ls hR q1 q2 q3 hL
  rw [List.map_cons, show mj_rv G (.inr (some x)) = .ref (G.2.2.1 x) by show Value.ref (mj_ad G x) = _; unfold mj_ad; rw [if_pos h2]] at this
  rcases hw with hw | hw
  · exact va_gets hx hb hZ hS hown (hts _ hw rfl) (fun _ h9 => h9) hd this
  · exact va_getsN hx hb hZ hS hown ((hK.2.1 _ hw rfl).use rfl) (fun _ h9 => h9) hd this
theorem mj_dfl_len {V : Type} (O : mj_O V) (ks : List Nat) : (mj_dfl O ks).length = ks.length := by
  induction ks with
  | nil => rfl
  | cons k ks ih => show (mj_dfl O ks).length + 1 = _; rw [ih]; rfl
theorem mj_dfl_cons {V : Type} (O : mj_O V) (k : Nat) (ks : List Nat) : mj_dfl O (k :: ks) = (match k with
    | 2 => (Sum.inr none : mj_v V)
    | _ => Sum.inl (O.1 0)) :: mj_dfl O ks := rfl
theorem mj_dfl_get {V : Type} (O : mj_O V) (ks : List Nat) : ∀ j, j < ks.length → (mj_dfl O ks)[j]? = some (if ks.getD j 0 = 2 then .inr none else .inl (O.1 0)) := by
  induction ks with
  | nil => intro j hj; simp at hj
  | cons k ks ih =>
    intro j hj
    rw [mj_dfl_cons]
    cases j with
    | zero =>
      rw [List.getElem?_cons_zero, List.getD_cons_zero]
      by_cases h2 : k = 2
      · subst h2; rfl
      · rw [if_neg h2]
        split
        · exact absurd rfl h2
        · rfl
    | succ j =>
      rw [List.getElem?_cons_succ, List.getD_cons_succ]
      exact ih j (by simpa using hj)
theorem mj_dk_spec {k : Nat} {ty : FieldType} (h : mj_dk k (some ty) = true) (G : mj_G) : defaultValue ty = mj_rv G (if k = 2 then .inr none else .inl (Int32.ofInt 0)) := by
  unfold mj_dk at h
  split at h
  · simp only [decide_eq_true_eq] at h
    unfold mj_kd at h
    split at h <;> first | (cases h; done) | skip
    all_goals
      rename_i heq
      cases heq
      rfl
  · rename_i hk
    simp only [Bool.or_eq_true, decide_eq_true_eq] at h
    rw [if_neg (fun q => hk q)]
    unfold mj_kd at h
    split at h <;> first | (rcases h with h | h <;> cases h; done) | skip
    all_goals
      rename_i heq
      cases heq
      rfl
theorem go_new {i x p1 p2 p3 : Nat} {ks : List Nat} {C0 : String} {T : u_T} {N : Nat} (C : mj_Cx X) (hcl : vwCl[x]? = some (C0, T, N)) (w1 : .classLink X.2.1.1.cls i C0 ∈ lw_tbl) (w2 : .instantiable C0 N ∈ lw_tbl) (w3 : .initialized C0 ∈ lw_tbl) (hks : ks.length = N) (hdk : ∀ j, j < N → mj_dk (ks.getD j 0) (parseFieldDescriptor (T j).2.2.1) = true) (hd : decode X.2.1.2.1 pc = .ok (.new i, 3))
    (hE : mj_new mj_I x (p1 :: p2 :: p3 :: ks) loc st h kn none = some R0) (Gr : ∀ loc' st' h1, kn loc' st' h1 = some R0 → h1.length - X.2.2.2.2.2.2.2.2.2.2.2.2.1.length ≤ X.2.2.2.2.2.1.cells ∧ mj_sz h1 - mj_sz X.2.2.2.2.2.2.2.2.2.2.2.2.1 ≤ X.2.2.2.2.2.1.slots) (K : ∀ loc' st' h1, kn loc' st' h1 = some R0 → mj_Go X (pc + 3) loc' st' h1) : mj_Go X pc loc st h := by
  rcases X with ⟨G, e, p, l, en, R, s, m, args, below, meth, c, h0, Q⟩
  obtain ⟨hx, hb, hml, hr, hown, hlk, hnm, hts, hK, hR0, hsz, hol⟩ := C
  obtain ⟨ty, t1, t2, t3⟩ := mj_vw hcl
  have hE : kn loc (.inr (some (mj_len h)) :: st) (mj_app h (.inr (.inr (x, mj_dfl mj_I ks)))) = some R0 := hE
  have hKn := hK.1.1 x _ hcl
  obtain ⟨s1, s2⟩ := mj_sz_app (h := h) (c' := .inr (.inr (x, mj_dfl mj_I ks)))
  obtain ⟨r1, r2⟩ := Gr _ _ _ hE
  have hcs : mj_csz (.inr (.inr (x, mj_dfl mj_I ks)) : mj_c Int32) = N := by show (mj_dfl mj_I ks).length = N; rw [mj_dfl_len, hks]
  rw [s2] at r1
  rw [s1, hcs] at r2
  intro H locs ls hR h1 h2 h3 hL
  dsimp only at r1 r2
  refine W.newcK hx hb hown (hts _ w1 rfl) (hts _ w2 rfl) (hts _ w3 rfl) rfl hd (by omega) (by omega) hKn.2.1 rfl fun H1 kC hkC e1 z1 o1 => ?_
  have := K _ _ _ hE H1 locs ls (hR.push (by
    refine ⟨_, hcl, (u_born ty (mj_hts hts) t3 hKn hkC e1 t1).to fun j hj => ?_⟩
    show _ = vp_V ((mj_dfl mj_I ks).map (mj_rv G)) j
    have hq := mj_dfl_get mj_I ks j (by rw [hks]; exact hj)
    unfold vp_V
    rw [List.getD_eq_getElem?_getD, List.getElem?_map, hq]
    have hz := hdk j hj
    rw [t1 j hj] at hz
    exact mj_dk_spec hz G) z1 o1) (by rw [s2]; omega) (by rw [s1]; omega) h3 hL
  rw [s1, s2, hcs, List.map_cons, show mj_rv G (.inr (some (mj_len h))) = .ref H.size by
    show Value.ref (mj_ad G (mj_len h)) = _
    rw [mj_len_eq, mj_ad_ge hR.1, hR.2.2.1]] at this
  rw [show h.length - h0.length + 1 = h.length + 1 - h0.length by omega, show mj_sz h - mj_sz h0 + N = mj_sz h + N - mj_sz h0 by omega]
  exact this
theorem go_newa {t : ArrayType} {tag : Nat} (ht : (t = .int ∧ tag = 0) ∨ (t = .boolean ∧ tag = 1)) (C : mj_Cx X) (w1 : .arrayClass (newarray.typeOf t) ∈ lw_tbl) (hd : decode X.2.1.2.1 pc = .ok (.newarray t, 2))
    (hE : mj_newa mj_I loc st h kn none tag = some R0) (Gr : ∀ loc' st' h1, kn loc' st' h1 = some R0 → h1.length - X.2.2.2.2.2.2.2.2.2.2.2.2.1.length ≤ X.2.2.2.2.2.1.cells ∧ mj_sz h1 - mj_sz X.2.2.2.2.2.2.2.2.2.2.2.2.1 ≤ X.2.2.2.2.2.1.slots) (K : ∀ loc' st' h1, kn loc' st' h1 = some R0 → mj_Go X (pc + 2) loc' st' h1) : mj_Go X pc loc st h := by
  rcases X with ⟨G, e, p, l, en, R, s, m, args, below, meth, c, h0, Q⟩
  obtain ⟨hx, hb, hml, hr, hown, hlk, hnm, hts, hK, hR0, hsz, hol⟩ := C
  unfold mj_newa at hE
  split at hE
  · rename_i a rest
    split at hE
    · rename_i n hn
      have hn : a.toInt = Int.ofNat n := Option.some.inj hn
      obtain ⟨n1, n2⟩ := mj_ofNat hn
      split at hE
      · rename_i hle
        have hle := Nat.le_of_ble_eq_true hle
        obtain ⟨s1, s2⟩ := mj_sz_app (h := h) (c' := .inl (tag, n, fun _ => mj_I.1 0))
        obtain ⟨r1, r2⟩ := Gr _ _ _ hE
        have hcs : mj_csz (.inl (tag, n, fun _ => mj_I.1 0) : mj_c Int32) = n := rfl
        rw [s2] at r1
        rw [s1, hcs] at r2
        intro H locs ls hR h1 h2 h3 hL
        dsimp only at r1 r2
        refine va_newaK hx hb (hts _ w1 rfl) rfl hd rfl n1 n2 (by rcases ht with ⟨rfl, -⟩ | ⟨rfl, -⟩ <;> simp [newarray.typeOf, componentBytes] <;> omega) (by omega) (by omega) rfl fun H1 cA e1 z1 o1 hAr hNm => ?_
        have := K _ _ _ hE H1 locs ls (hR.push (by
          show H1[H.size]? = some (vp_cell _ _)
          rw [e1, vp_cell_i]
          rcases ht with ⟨rfl, rfl⟩ | ⟨rfl, rfl⟩
          · have hcA : G.2.2.2.2.1 = cA := Option.some.inj (((hK.1.2 0 _ rfl).2).symm.trans hNm)
            rw [← hcA]
            rfl
          · have hcA : G.2.2.2.2.2.1 = cA := Option.some.inj (((hK.1.2 1 _ rfl).2).symm.trans hNm)
            rw [← hcA]
            rfl) z1 o1) (by rw [s2]; omega) (by rw [s1]; omega) h3 hL
        rw [s1, s2, hcs, List.map_cons, show mj_rv G (.inr (some (mj_len h))) = .ref H.size by
          show Value.ref (mj_ad G (mj_len h)) = _
          rw [mj_len_eq, mj_ad_ge hR.1, hR.2.2.1]] at this
        rw [show h.length - h0.length + 1 = h.length + 1 - h0.length by omega, show mj_sz h - mj_sz h0 + n = mj_sz h + n - mj_sz h0 by omega]
        exact this
      · cases hE
    · cases hE
  · cases hE
theorem go_anew {i : Nat} (C : mj_Cx X) (w1 : .classLink X.2.1.1.cls i "GrowingStacks$Task" ∈ lw_tbl) (hd : decode X.2.1.2.1 pc = .ok (.anewarray i, 3))
    (hE : mj_anew mj_I loc st h kn none = some R0) (Gr : ∀ loc' st' h1, kn loc' st' h1 = some R0 → h1.length - X.2.2.2.2.2.2.2.2.2.2.2.2.1.length ≤ X.2.2.2.2.2.1.cells ∧ mj_sz h1 - mj_sz X.2.2.2.2.2.2.2.2.2.2.2.2.1 ≤ X.2.2.2.2.2.1.slots) (K : ∀ loc' st' h1, kn loc' st' h1 = some R0 → mj_Go X (pc + 3) loc' st' h1) : mj_Go X pc loc st h := by
  rcases X with ⟨G, e, p, l, en, R, s, m, args, below, meth, c, h0, Q⟩
  obtain ⟨hx, hb, hml, hr, hown, hlk, hnm, hts, hK, hR0, hsz, hol⟩ := C
  unfold mj_anew at hE
  split at hE
  · rename_i a rest
    split at hE
    · rename_i n hn
      have hn : a.toInt = Int.ofNat n := Option.some.inj hn
      obtain ⟨n1, n2⟩ := mj_ofNat hn
      split at hE
      · rename_i hle
        have hle := Nat.le_of_ble_eq_true hle
        obtain ⟨s1, s2⟩ := mj_sz_app (h := h) (c' := .inr (.inl (n, fun _ => none)))
        obtain ⟨r1, r2⟩ := Gr _ _ _ hE
        have hcs : mj_csz (.inr (.inl (n, fun _ => none)) : mj_c Int32) = n := rfl
        rw [s2] at r1
        rw [s1, hcs] at r2
        intro H locs ls hR h1 h2 h3 hL
        dsimp only at r1 r2
        refine W.anew hx hb hown (hts _ w1 rfl) hK.2.2.1.use rfl hd rfl n1 (by omega) (by omega) (by rw [n2]; omega) fun cA kA comp a1 a2 a3 a4 => ?_
        rw [n2]
        have := K _ _ _ hE (H.push { cls := cA, slots := Array.replicate n .null, vm := .none }) locs ls (hR.push (by
          show (H.push _)[H.size]? = some (vp_cell _ _)
          rw [vp_cell_q]
          obtain ⟨kA', comp', b1, b2, b3, b4⟩ := (hK.1.2 2 _ rfl).2
          have hcA : G.2.2.2.2.2.2.1 = cA := Option.some.inj (b4.symm.trans a1)
          rw [← hcA, Array.getElem?_push_size]
          unfold arrV
          congr 2
          apply Array.ext
          · simp
          · intro j q1 q2
            simp [va_rf]) (by simp) (fun q hq => by rw [Array.getElem?_push_lt hq, Array.getElem?_eq_getElem hq])) (by rw [s2]; omega) (by rw [s1]; omega) h3 hL
        rw [s1, s2, hcs, List.map_cons, show mj_rv G (.inr (some (mj_len h))) = .ref H.size by
          show Value.ref (mj_ad G (mj_len h)) = _
          rw [mj_len_eq, mj_ad_ge hR.1, hR.2.2.1]] at this
        rw [show h.length - h0.length + 1 = h.length + 1 - h0.length by omega, show mj_sz h - mj_sz h0 + n = mj_sz h + n - mj_sz h0 by omega]
        exact this
      · cases hE
    · cases hE
  · cases hE
end
end
section
/-! ===== Object(), System.arraycopy, Math.max and min, calls ===== -/
theorem mj_w_oi : (.instanceMethod objectInit : Jvm.Cond) ∈ lw_tbl := mj_at_mem (p := 1022) (by decide +kernel)
theorem mj_w_oc : (.code objectInit ⟨#[0xb1]⟩ 1 none : Jvm.Cond) ∈ lw_tbl := mj_at_mem (p := 1023) (by decide +kernel)
theorem mj_w_an : (.native arraycopyName : Jvm.Cond) ∈ lw_tbl := mj_at_mem (p := 2031) (by decide +kernel)
theorem mj_w_as : (.static arraycopyName : Jvm.Cond) ∈ lw_tbl := mj_at_mem (p := 2030) (by decide +kernel)
theorem mj_w_ai : (.initialized "java/lang/System" : Jvm.Cond) ∈ lw_tbl := mj_at_mem (p := 1010) (by decide +kernel)
theorem mj_w_mi : (.initialized "java/lang/Math" : Jvm.Cond) ∈ lw_tbl := mj_at_mem (p := 1007) (by decide +kernel)
theorem mj_w_xs : (.static Lib.Math.max.name : Jvm.Cond) ∈ lw_tbl := mj_at_mem (p := 1117) (by decide +kernel)
theorem mj_w_xc : (.code Lib.Math.max.name Lib.Math.max.code 2 (some .int) : Jvm.Cond) ∈ lw_tbl := mj_at_mem (p := 1118) (by decide +kernel)
theorem mj_w_ns : (.static Lib.Math.min.name : Jvm.Cond) ∈ lw_tbl := mj_at_mem (p := 4202) (by decide +kernel)
theorem mj_w_nc : (.code Lib.Math.min.name Lib.Math.min.code 2 (some .int) : Jvm.Cond) ∈ lw_tbl := mj_at_mem (p := 4203) (by decide +kernel)
theorem mj_cat_sum (G : mj_G) (st : mj_s Int32) : ((st.map (mj_rv G)).map fun v => v.category).sum = st.length := by
  induction st with
  | nil => rfl
  | cons v st ih =>
    rw [List.map_cons, List.map_cons, List.sum_cons, ih, mj_rv_cat, List.length_cons]
    omega
section
variable {X : mj_X} {ρ : Type} {R0 : ρ} {pc : Nat} {loc : mj_l Int32} {st : mj_s Int32} {h : mj_h Int32} {kn : mj_l Int32 → mj_s Int32 → mj_h Int32 → Option ρ}
theorem go_oinit {i : Nat} {v : mj_v Int32} {a : Nat} {rest : mj_s Int32} (C : mj_Cx X) (hf : 1 ≤ X.2.2.2.2.2.1.frames) (hl : 64 ≤ X.2.2.2.2.2.1.locals) (w1 : .methodLink X.2.1.1.cls i objectInit ∈ lw_tbl) (hd : decode X.2.1.2.1 pc = .ok (.invokespecial i, 3)) (hst : st = .inr (some a) :: rest) (hle : rest.length ≤ 8)
    (K : mj_Go X (pc + 3) loc rest h) : mj_Go X pc loc st h := by
  rcases X with ⟨G, e, p, l, en, R, s, m, args, below, meth, c, h0, Q⟩
  obtain ⟨hx, hb, hml, hr, hown, hlk, hnm, hts, hK, hR0, hsz, hol⟩ := C
  subst hst
  intro H locs ls hR h1 h2 h3 hL
  dsimp only at hf hl
  refine W.objInit hx hb hown (hts _ w1 rfl) (hts _ mj_w_oi rfl) (hts _ mj_w_oc rfl) rfl (by rw [hml]; exact hL.2.1) rfl hd hf (by
    show 2 * 0 + ((rest.map (mj_rv G)).map fun v => v.category).sum + 12 ≤ R.locals
    rw [mj_cat_sum]; omega) ?_
  exact K H locs ls hR h1 h2 h3 hL
/-- a row of ints that can be read: where it lies, what it holds -/
theorem mj_src {G : mj_G} {s : State} {H : Heap} {a n : Nat} {f : Nat → Int32} (hK : mj_KK G s) (hsz : G.2.1.size = G.1) (hR : mj_HR G h H) (hc : h[a]? = some (.inl (0, n, f))) :
    ∃ cell : Cell, H[mj_ad G a]? = some cell ∧ s.isArrayOf cell .int ∧ cell.vm ≠ .unknown ∧ n ≤ cell.slots.size ∧ ∀ j : Nat, j < n → cell.slots[j]? = some (.int (f j)) := by
  by_cases ha : 4 ≤ a
  · have hP := hR.2.2.2.1 (a - 4) _ (mj_ws_get ha hc)
    refine ⟨_, hP, (hK.1.2 0 _ rfl).1 n (fun j => .int (f j)), (fun q => by cases q), ?_, fun j hj => ?_⟩
    · show n ≤ (arrV _ _ _).slots.size
      rw [arrV_size]
      exact Nat.le_refl _
    · exact arrV_read _ _ hj
  · obtain ⟨cell, c1, c2, c3, c4, c5, c6, c7⟩ := mj_oldT hK hsz hR (by omega) hc
    exact ⟨cell, c1, c2, c3, c4, c6⟩
theorem go_acopy {i : Nat} (C : mj_Cx X) (hf : 1 ≤ X.2.2.2.2.2.1.frames) (hl : 64 ≤ X.2.2.2.2.2.1.locals) (w1 : .methodLink X.2.1.1.cls i arraycopyName ∈ lw_tbl) (hd : decode X.2.1.2.1 pc = .ok (.invokestatic i, 3)) (hE : mj_acopy mj_I loc st h kn none = some R0)
    (K : ∀ loc' st' h1, kn loc' st' h1 = some R0 → mj_Go X (pc + 3) loc' st' h1) : mj_Go X pc loc st h := by
  rcases X with ⟨G, e, p, l, en, R, s, m, args, below, meth, c, h0, Q⟩
  obtain ⟨hx, hb, hml, hr, hown, hlk, hnm, hts, hK, hR0, hsz, hol⟩ := C
  unfold mj_acopy at hE
  split at hE
  · rename_i n dp b sp a rest
    rw [mj_nth_eq, mj_nth_eq] at hE
    split at hE
    · rename_i n0 f n1 g hca hcb h4
      have hb4 := Nat.le_of_ble_eq_true h4
      split at hE
      · rename_i n' dp' sp' hn hdp hsp
        obtain ⟨a1, a2⟩ := mj_ofNat (Option.some.inj hn)
        obtain ⟨b1, b2⟩ := mj_ofNat (Option.some.inj hdp)
        obtain ⟨c1, c2⟩ := mj_ofNat (Option.some.inj hsp)
        split at hE
        · rename_i l1 l2 l3
          have l1 := Nat.le_of_ble_eq_true l1
          have l2 := Nat.le_of_ble_eq_true l2
          have l3 := Nat.le_of_ble_eq_true l3
          rw [mj_len_eq] at l3
          intro H locs ls hR h1 h2 h3 hL T hT XX
          dsimp only at hf hl
          obtain ⟨scr, hc0, hs2, hs3, hs4, hs5⟩ := mj_src hK hsz hR hca
          have hc1 : H[mj_ad G b]? = some (vp_cell G.2.2.2.2.1 (n1, .inl g)) := hR.2.2.2.1 (b - 4) _ (mj_ws_get hb4 hcb)
          obtain ⟨hs6, k0, hk0, cm0, hkk0⟩ := hs2
          obtain ⟨-, k1, hk1, cm1, hkk1⟩ := (hK.1.2 0 _ rfl).1 n1 (fun j => .int (g j))
          obtain ⟨vm', X', step⟩ := XX.arraycopy hx hown (hts _ w1 rfl) (hts _ mj_w_an rfl) (hts _ mj_w_as rfl) (hts _ mj_w_ai rfl) (src := mj_ad G a) (dst := mj_ad G b) (cs := scr) (cd := vp_cell G.2.2.2.2.1 (n1, .inl g)) (srcPos := sp) (destPos := dp) (n := n) (by rw [hT]; exact hc0) (by rw [hT]; exact hc1)
            hs6 (fun _ h => by cases h) hs3 (fun h => by cases h) hk0 hk1 hkk0 hkk1 (by simp [refKind]) c1 b1 a1
            (by rw [mj_nn c1, mj_nn a1, a2, c2]; omega)
            (by rw [mj_nn b1, mj_nn a1, a2, b2]; show ¬ _ > ((arrV G.2.2.2.2.1 n1 (fun j => .int (g j))).slots.size : Int); rw [arrV_size]; omega)
            (fun vm₁ _ i hi => by
              have e : scr.slots.getD (sp.toNatClampNeg + i) .null = .int (f (sp.toNatClampNeg + i)) := by
                rw [Array.getD_eq_getD_getElem?, hs5 _ (by omega)]
                rfl
              refine ⟨?_, ?_⟩
              · rw [e]
                rfl
              · rw [e]
                exact trivial)
            (g := F0 m pc ls (.int n :: .int dp :: .ref (mj_ad G b) :: .int sp :: .ref (mj_ad G a) :: rest.map (mj_rv G))) rfl (by rw [hml]; exact hL.2.1) (rest := rest.map (mj_rv G)) rfl (by rw [hb]; exact hd) hf (by
              show 2 * 0 + ((rest.map (mj_rv G)).map fun v => v.category).sum + _ ≤ _
              rw [mj_cat_sum]
              have hnf : nativeFrameWords "java/lang/System" "arraycopy" 5 = 7 := by decide +kernel
              rw [hnf]; omega)
          have e1 : copied scr (vp_cell G.2.2.2.2.1 (n1, .inl g)) sp dp n = vp_cell G.2.2.2.2.1 (n1, .inl (va_cpy f g sp.toNatClampNeg dp.toNatClampNeg n.toNatClampNeg)) := va_copiedX (fun z => .int z) scr G.2.2.2.2.1 f g hs5 (by omega)
          rw [e1, a2, b2, c2, ← mj_cpy_eq] at X' step
          have hl : mj_ad G b < H.size := (Array.getElem?_eq_some_iff.mp hc1).1
          have hheap : ((T.setVm vm').setCell (mj_ad G b) (vp_cell G.2.2.2.2.1 (n1, .inl (mj_cpy f g sp' dp' n')))).heap = H.setIfInBounds (mj_ad G b) (vp_cell G.2.2.2.2.1 (n1, .inl (mj_cpy f g sp' dp' n'))) := by rw [← hT]; rfl
          have oq : ∀ q : Nat, q ≠ mj_ad G b → (H.setIfInBounds (mj_ad G b) (vp_cell G.2.2.2.2.1 (n1, .inl (mj_cpy f g sp' dp' n'))))[q]? = H[q]? := fun q hq => by simp [Array.getElem?_setIfInBounds, Ne.symm hq]
          obtain ⟨s1, s2⟩ := mj_sz_put (c' := .inl (0, n1, mj_cpy f g sp' dp' n')) hcb rfl
          have KK := K _ _ _ hE _ (locs ++ (scr.stretch sp' n').zipIdx.map fun q => ⟨mj_ad G b, dp' + q.2⟩) ls (hR.put (H' := H.setIfInBounds (mj_ad G b) (vp_cell G.2.2.2.2.1 (n1, .inl (mj_cpy f g sp' dp' n')))) hb4 hcb (show (H.setIfInBounds (mj_ad G b) _)[mj_ad G b]? = some _ by simp [Array.getElem?_setIfInBounds, hl]) (by simp) oq) (by rw [s2]; exact h1) (by rw [s1]; exact h2) (fun q hq => by
            rcases List.mem_append.mp hq with h | h
            · exact h3 q h
            · obtain ⟨z, -, hz⟩ := List.mem_map.mp h
              rw [← hz]
              show G.1 ≤ mj_ad G b
              rw [mj_ad_ge hb4]
              exact Nat.le_add_right _ _) hL
          rw [s1, s2] at KK
          obtain ⟨t, q1, q2⟩ := KK _ hheap X'
          exact ⟨t, step t q1, q2⟩
        · cases hE
      · cases hE
    · cases hE
  · cases hE
theorem go_max {i : Nat} {a b : Int32} {rest : mj_s Int32} (C : mj_Cx X) (hf : 1 ≤ X.2.2.2.2.2.1.frames) (hl : 64 ≤ X.2.2.2.2.2.1.locals) (hcs : h.length - X.2.2.2.2.2.2.2.2.2.2.2.2.1.length ≤ X.2.2.2.2.2.1.cells ∧ mj_sz h - mj_sz X.2.2.2.2.2.2.2.2.2.2.2.2.1 ≤ X.2.2.2.2.2.1.slots) (w1 : .methodLink X.2.1.1.cls i Lib.Math.max.name ∈ lw_tbl) (hd : decode X.2.1.2.1 pc = .ok (.invokestatic i, 3)) (hst : st = .inl b :: .inl a :: rest) (hle : rest.length ≤ 8)
    (K : mj_Go X (pc + 3) loc (.inl (if a < b then b else a) :: rest) h) : mj_Go X pc loc st h := by
  rcases X with ⟨G, e, p, l, en, R, s, m, args, below, meth, c, h0, Q⟩
  obtain ⟨hx, hb, hml, hr, hown, hlk, hnm, hts, hK, hR0, hsz, hol⟩ := C
  subst hst
  intro H locs ls hR h1 h2 h3 hL
  dsimp only at hf hl hcs
  refine va_mmax hx hb (by rw [hml]; exact hL.2.1.symm) hown (hts _ w1 rfl) (hts _ mj_w_xs rfl) (hts _ mj_w_mi rfl) (hts _ mj_w_xc rfl) hf (by rw [mj_cat_sum]; omega) hcs.1 hcs.2 hd ?_
  exact K H locs ls hR h1 h2 h3 hL
theorem go_min {i : Nat} {a b : Int32} {rest : mj_s Int32} (C : mj_Cx X) (hf : 1 ≤ X.2.2.2.2.2.1.frames) (hl : 64 ≤ X.2.2.2.2.2.1.locals) (hcs : h.length - X.2.2.2.2.2.2.2.2.2.2.2.2.1.length ≤ X.2.2.2.2.2.1.cells ∧ mj_sz h - mj_sz X.2.2.2.2.2.2.2.2.2.2.2.2.1 ≤ X.2.2.2.2.2.1.slots) (w1 : .methodLink X.2.1.1.cls i Lib.Math.min.name ∈ lw_tbl) (hd : decode X.2.1.2.1 pc = .ok (.invokestatic i, 3)) (hst : st = .inl b :: .inl a :: rest) (hle : rest.length ≤ 8)
    (K : mj_Go X (pc + 3) loc (.inl (if b < a then b else a) :: rest) h) : mj_Go X pc loc st h := by
  rcases X with ⟨G, e, p, l, en, R, s, m, args, below, meth, c, h0, Q⟩
  obtain ⟨hx, hb, hml, hr, hown, hlk, hnm, hts, hK, hR0, hsz, hol⟩ := C
  subst hst
  intro H locs ls hR h1 h2 h3 hL
  dsimp only at hf hl hcs
  refine va_mmin hx hb (by rw [hml]; exact hL.2.1.symm) hown (hts _ w1 rfl) (hts _ mj_w_ns rfl) (hts _ mj_w_mi rfl) (hts _ mj_w_nc rfl) hf (by rw [mj_cat_sum]; omega) hcs.1 hcs.2 hd ?_
  exact K H locs ls hR h1 h2 h3 hL
end
/-! ### a call, once the callee's contract is there -/
def mj_rm (d mc ms : Nat) : Room := { frames := d + 1, cells := mc, slots := ms, locals := 64 * (d + 1) }
def mj_wm (e : mj_e) : List Jvm.Cond := .code e.1 e.2.1 e.2.2.1 e.2.2.2.1 :: mj_gw
def mj_Pc (G : mj_G) (as : List (mj_v Int32)) (h : mj_h Int32) : Array Value → State → Prop := va_Pc (as.map (mj_rv G)) (fun U => mj_HR G h U.heap ∧ mj_KK G U)
def mj_Qc (G : mj_G) (r : Option (mj_v Int32)) (h1 : mj_h Int32) : Array Value → State → Outcome → State → Prop := fun _ _ o t => o = .returned (r.map (mj_rv G)) ∧ mj_HR G h1 t.heap
/-- the contract of a method for one start -/
def mj_Met (G : mj_G) (l : Launch) (e : mj_e) (d : Nat) (as : List (mj_v Int32)) (h : mj_h Int32) (r : Option (mj_v Int32)) (h1 : mj_h Int32) : Prop := Met l e.1 (mj_wm e) (mj_rm d (h1.length - h.length) (mj_sz h1 - mj_sz h)) (mj_Pc G as h) (mj_Qc G r h1) (h1.length - h.length) (mj_sz h1 - mj_sz h) (mj_A G)
theorem mj_blind {G : mj_G} {as : List (mj_v Int32)} {h : mj_h Int32} : FrameBlind (mj_Pc G as h) := by
  intro a U g mk q
  obtain ⟨q0, q1, q2⟩ := q
  exact ⟨q0, q1, mj_KK.same (s := U) (show U.vm = (U.calling g mk a).vm from rfl) q2⟩
theorem mj_okm_spec {e : mj_e} (h : mj_Mok e) : (.code e.1 e.2.1 e.2.2.1 e.2.2.2.1 : Jvm.Cond) ∈ lw_tbl ∧ (.initialized e.1.cls : Jvm.Cond) ∈ lw_tbl ∧ plainName e.1.cls = true ∧ e.1.cls ≠ "java/lang/invoke/MethodHandle" ∧ e.1.cls ≠ "java/lang/invoke/VarHandle" ∧ (parseMethodDescriptor e.1.desc).map (fun d => d.parameters.length) = some e.2.2.2.2.2.1 ∧ e.2.2.1 ≤ 40 ∧ e.2.2.2.2.2.1 + (if e.2.2.2.2.1 = 2 then 0 else 1) ≤ e.2.2.1 ∧
    (e.2.2.2.2.1 = 0 → (.instanceMethod e.1 : Jvm.Cond) ∈ lw_tbl ∧ (.selects e.1.cls e.1 e.1 : Jvm.Cond) ∈ lw_tbl) ∧ (e.2.2.2.2.1 = 1 → (.instanceMethod e.1 : Jvm.Cond) ∈ lw_tbl ∧ e.1.name = "<init>" ∧ e.2.2.2.1 = none) ∧ (e.2.2.2.2.1 = 2 → (.static e.1 : Jvm.Cond) ∈ lw_tbl) := by
  obtain ⟨y, cc, ml, ret, kind, np, ps, cd⟩ := e
  obtain ⟨h1, h2⟩ := h
  unfold mj_okm at h1
  simp only [Bool.and_eq_true, decide_eq_true_eq] at h1
  obtain ⟨⟨⟨⟨⟨⟨a1, a2⟩, a3⟩, a4⟩, a5⟩, a6⟩, a7⟩ := h1
  refine ⟨mj_at_mem h2, ?_⟩
  split at a7
  · rename_i p0 pi pn ps0 ps1
    simp only [Bool.and_eq_true, decide_eq_true_eq] at a7
    obtain ⟨b1, b2⟩ := a7
    refine ⟨mj_at_mem b1, a1, a2, a3, a4, a5, a6, ?_, ?_, ?_⟩
    · intro hk
      dsimp only at hk
      subst hk
      simp only [Bool.and_eq_true, decide_eq_true_eq] at b2
      exact ⟨mj_at_mem b2.1, mj_at_mem b2.2⟩
    · intro hk
      dsimp only at hk
      subst hk
      simp only [Bool.and_eq_true, decide_eq_true_eq] at b2
      exact ⟨mj_at_mem b2.1.1, b2.1.2, b2.2⟩
    · intro hk
      dsimp only at hk
      subst hk
      simp only [decide_eq_true_eq] at b2
      exact mj_at_mem b2
  · cases a7
end
