/-! ===== the rows that read and write the heap ===== -/
section
variable {X : mj_X} {ρ : Type} {R0 : ρ} {pc : Nat} {loc : mj_l Int32} {st : mj_s Int32} {h : mj_h Int32} {kn : mj_l Int32 → mj_s Int32 → mj_h Int32 → Option ρ}
theorem mj_oldT {G : mj_G} {s : State} {H : Heap} {a n : Nat} {f : Nat → Int32} (hK : mj_KK G s) (hsz : G.2.1.size = G.1) (hR : mj_HR G h H) (ha : a < 4) (hc : h[a]? = some (.inl (0, n, f))) : va_T .int (mj_ad G a) n (fun j => .int (f j)) (mj_A G) s H := by
  have h1 := hK.2.2.2.1 a n f ha (by rw [← hR.old ha]; exact hc)
  unfold mj_ad
  rw [if_pos ha]
  exact h1.kept fun q hq hA => hR.2.2.2.2 q (by rw [← hsz]; exact hq)
theorem go_iald (C : mj_Cx X) (hd : decode X.2.1.2.1 pc = .ok (.iaload, 1)) (hE : mj_ald mj_I loc st h kn none 0 = some R0) (K : ∀ loc' st' h1, kn loc' st' h1 = some R0 → mj_Go X (pc + 1) loc' st' h1) : mj_Go X pc loc st h := by
  rcases X with ⟨G, e, p, l, en, R, s, m, args, below, meth, c, h0, Q⟩
  obtain ⟨hx, hb, hml, hr, hown, hlk, hnm, hts, hK, hR0, hsz, hol⟩ := C
  unfold mj_ald at hE
  split at hE
  · rename_i i a rest
    rw [mj_nth_eq] at hE
    split at hE
    · rename_i t n f hc
      split at hE
      · rename_i z ht hz
        obtain rfl : i.toInt = z := Option.some.inj hz
        obtain rfl : t = 0 := Nat.eq_of_beq_eq_true ht
        split at hE
        · rename_i k hk
          obtain ⟨k1, k2, k3⟩ := mj_ix_spec hk
          intro H locs ls hR h1 h2 h3 hL
          by_cases ha : 4 ≤ a
          · refine va_iald hx hb hK.1 hR.2.2.2.1 (a - 4) 0 (mj_ws_get ha hc) rfl k1 hd ?_
            rw [k2]
            exact K _ _ _ hE H locs ls hR h1 h2 h3 hL
          · obtain ⟨cell, c1, c2, c3, c4, c5, c6, c7⟩ := mj_oldT hK hsz hR (by omega) hc
            refine W.iald hx hb c1 c2 c3 (fun q => k1 (q.imp id fun q => Nat.le_trans c4 q)) (by rw [k2]; exact c6 k k3) rfl rfl hd ?_
            exact K _ _ _ hE H locs ls hR h1 h2 h3 hL
        · cases hE
      · cases hE
    · cases hE
  · cases hE
theorem go_zald (C : mj_Cx X) (hd : decode X.2.1.2.1 pc = .ok (.baload, 1)) (hE : mj_ald mj_I loc st h kn none 1 = some R0) (K : ∀ loc' st' h1, kn loc' st' h1 = some R0 → mj_Go X (pc + 1) loc' st' h1) : mj_Go X pc loc st h := by
  rcases X with ⟨G, e, p, l, en, R, s, m, args, below, meth, c, h0, Q⟩
  obtain ⟨hx, hb, hml, hr, hown, hlk, hnm, hts, hK, hR0, hsz, hol⟩ := C
  unfold mj_ald at hE
  split at hE
  · rename_i i a rest
    rw [mj_nth_eq] at hE
    split at hE
    · rename_i t n f hc
      split at hE
      · rename_i z ht hz
        obtain rfl : i.toInt = z := Option.some.inj hz
        obtain rfl : t = 1 := Nat.eq_of_beq_eq_true ht
        split at hE
        · rename_i k hk
          obtain ⟨k1, k2, k3⟩ := mj_ix_spec hk
          intro H locs ls hR h1 h2 h3 hL
          by_cases ha : 4 ≤ a
          · refine va_zald hx hb hK.1 hR.2.2.2.1 (a - 4) 1 (mj_ws_get ha hc) rfl k1 hd ?_
            rw [k2]
            exact K _ _ _ hE H locs ls hR h1 h2 h3 hL
          · obtain ⟨n', f', ho⟩ := hol a (by omega)
            rw [← hR.old (by omega), hc] at ho
            cases ho
        · cases hE
      · cases hE
    · cases hE
  · cases hE
theorem go_iast (C : mj_Cx X) (hd : decode X.2.1.2.1 pc = .ok (.iastore, 1)) (hE : mj_ast mj_I loc st h kn none = some R0) (K : ∀ loc' st' h1, kn loc' st' h1 = some R0 → mj_Go X (pc + 1) loc' st' h1) : mj_Go X pc loc st h := by
  rcases X with ⟨G, e, p, l, en, R, s, m, args, below, meth, c, h0, Q⟩
  obtain ⟨hx, hb, hml, hr, hown, hlk, hnm, hts, hK, hR0, hsz, hol⟩ := C
  unfold mj_ast at hE
  split at hE
  · rename_i v i a rest
    rw [mj_nth_eq] at hE
    split at hE
    · rename_i n f hc h4
      have ha := Nat.le_of_ble_eq_true h4
      dsimp only [mj_I] at hE
      split at hE
      · rename_i k hk
        obtain ⟨k1, k2, k3⟩ := mj_ix_spec hk
        intro H locs ls hR h1 h2 h3 hL
        have hP := hR.2.2.2.1 (a - 4) _ (mj_ws_get ha hc)
        refine W.iast hx hb hP ((hK.1.2 0 _ rfl).1 n (fun j => .int (f j))) (fun q => by cases q) (by show ¬ (i < 0 ∨ (arrV _ _ _).slots.size ≤ _); rw [arrV_size]; exact k1) rfl rfl hd fun H1 e1 z oq => ?_
        obtain ⟨s1, s2⟩ := mj_sz_put (c' := .inl (0, n, mj_upd f k v)) hc rfl
        have := K _ _ _ hE H1 (locs ++ [⟨mj_ad G a, i.toNatClampNeg⟩]) ls (hR.put ha hc (by
          show H1[_]? = some (vp_cell _ _)
          rw [e1]
          show some ((vp_cell _ _).setSlot _ _) = some (vp_cell _ _)
          rw [vp_cell_i, vp_cell_i, arrV_store, mj_upd_eq, k2]
          congr 2
          funext q
          by_cases hq : q = k
          · simp [updV, hq]
          · simp [updV, hq]) z oq) (by rw [s2]; exact h1) (by rw [s1]; exact h2) (mj_locs h3 ha) hL
        rw [s1, s2] at this
        exact this
      · cases hE
    · cases hE
  · cases hE
theorem mj_bit_spec {v : Int32} (h : mj_bit (some v.toInt) = true) : v = 0 ∨ v = 1 := by
  unfold mj_bit at h
  split at h
  · rename_i hq
    left
    have : v.toInt = (0 : Int32).toInt := by rw [Option.some.inj hq]; rfl
    exact Int32.toInt_inj.mp this
  · rename_i hq
    right
    have : v.toInt = (1 : Int32).toInt := by rw [Option.some.inj hq]; rfl
    exact Int32.toInt_inj.mp this
  · cases h
theorem go_zast (C : mj_Cx X) (hd : decode X.2.1.2.1 pc = .ok (.bastore, 1)) (hE : mj_bst mj_I loc st h kn none = some R0) (K : ∀ loc' st' h1, kn loc' st' h1 = some R0 → mj_Go X (pc + 1) loc' st' h1) : mj_Go X pc loc st h := by
  rcases X with ⟨G, e, p, l, en, R, s, m, args, below, meth, c, h0, Q⟩
  obtain ⟨hx, hb, hml, hr, hown, hlk, hnm, hts, hK, hR0, hsz, hol⟩ := C
  unfold mj_bst at hE
  split at hE
  · rename_i v i a rest
    rw [mj_nth_eq] at hE
    split at hE
    · rename_i n f hc h4 hbit
      have ha := Nat.le_of_ble_eq_true h4
      have hv : narrow .boolean (.int v) = .int v := by
        rcases mj_bit_spec hbit with rfl | rfl <;> rfl
      dsimp only [mj_I] at hE
      split at hE
      · rename_i k hk
        obtain ⟨k1, k2, k3⟩ := mj_ix_spec hk
        intro H locs ls hR h1 h2 h3 hL
        have hP := hR.2.2.2.1 (a - 4) _ (mj_ws_get ha hc)
        refine W.zast hx hb hP ((hK.1.2 1 _ rfl).1 n (fun j => .int (f j))) (fun q => by cases q) (by show ¬ (i < 0 ∨ (arrV _ _ _).slots.size ≤ _); rw [arrV_size]; exact k1) rfl rfl hd fun H1 e1 z oq => ?_
        obtain ⟨s1, s2⟩ := mj_sz_put (c' := .inl (1, n, mj_upd f k v)) hc rfl
        have := K _ _ _ hE H1 (locs ++ [⟨mj_ad G a, i.toNatClampNeg⟩]) ls (hR.put ha hc (by
          show H1[_]? = some (vp_cell _ _)
          rw [e1, hv]
          show some ((vp_cell _ _).setSlot _ _) = some (vp_cell _ _)
          rw [vp_cell_i, vp_cell_i, arrV_store, mj_upd_eq, k2]
          congr 2
          funext q
          by_cases hq : q = k
          · simp [updV, hq]
          · simp [updV, hq]) z oq) (by rw [s2]; exact h1) (by rw [s1]; exact h2) (mj_locs h3 ha) hL
        rw [s1, s2] at this
        exact this
      · cases hE
    · cases hE
  · cases hE
theorem go_aald (C : mj_Cx X) (hd : decode X.2.1.2.1 pc = .ok (.aaload, 1)) (hE : mj_aald mj_I loc st h kn none = some R0) (K : ∀ loc' st' h1, kn loc' st' h1 = some R0 → mj_Go X (pc + 1) loc' st' h1) : mj_Go X pc loc st h := by
  rcases X with ⟨G, e, p, l, en, R, s, m, args, below, meth, c, h0, Q⟩
  obtain ⟨hx, hb, hml, hr, hown, hlk, hnm, hts, hK, hR0, hsz, hol⟩ := C
  unfold mj_aald at hE
  split at hE
  · rename_i i a rest
    rw [mj_nth_eq] at hE
    split at hE
    · rename_i n f hc
      split at hE
      · rename_i z hz h4
        obtain rfl : i.toInt = z := Option.some.inj hz
        have ha := Nat.le_of_ble_eq_true h4
        split at hE
        · rename_i k hk
          obtain ⟨k1, k2, k3⟩ := mj_ix_spec hk
          split at hE
          · rename_i b hf
            intro H locs ls hR h1 h2 h3 hL
            refine va_aldq hx hb hK.1 hR.2.2.2.1 (a - 4) 2 (mj_ws_get ha hc) rfl k1 hd ?_
            have := K _ _ _ hE H locs ls hR h1 h2 h3 hL
            rw [k2, hf]
            exact this
          · cases hE
        · cases hE
      · cases hE
    · cases hE
  · cases hE
theorem go_aast (C : mj_Cx X) (hd : decode X.2.1.2.1 pc = .ok (.aastore, 1)) (hE : mj_aast mj_I loc st h kn none = some R0) (K : ∀ loc' st' h1, kn loc' st' h1 = some R0 → mj_Go X (pc + 1) loc' st' h1) : mj_Go X pc loc st h := by
  rcases X with ⟨G, e, p, l, en, R, s, m, args, below, meth, c, h0, Q⟩
  obtain ⟨hx, hb, hml, hr, hown, hlk, hnm, hts, hK, hR0, hsz, hol⟩ := C
  unfold mj_aast at hE
  split at hE
  · rename_i b i a rest
    rw [mj_nth_eq, mj_nth_eq] at hE
    split at hE
    · rename_i n f fs hc h4 hcb h4b
      have ha := Nat.le_of_ble_eq_true h4
      have hb4 := Nat.le_of_ble_eq_true h4b
      dsimp only [mj_I] at hE
      split at hE
      · rename_i k hk
        obtain ⟨k1, k2, k3⟩ := mj_ix_spec hk
        intro H locs ls hR h1 h2 h3 hL
        have hP := hR.2.2.2.1 (a - 4) _ (mj_ws_get ha hc)
        have hn0 : ¬ i < 0 := fun q => k1 (Or.inl q)
        obtain ⟨r', hr', cellV, g1, g2, g3, -⟩ := hR.2.2.2.1 (b - 4) _ (mj_ws_get hb4 hcb)
        have hcls := (hK.1.1 7 _ rfl).2
        obtain ⟨kA, comp, e1, e2, e3, -⟩ := (hK.1.2 2 _ rfl).2
        have hcomp : comp = G.2.2.2.1.1 7 := Option.some.inj (e3.symm.trans hcls.1)
        subst hcomp
        obtain ⟨kC, hkC, -⟩ := hcls.2
        refine W.aast hx hb hP (fun q h => by cases h) (fun h => by cases h) e1 e2 rfl hkC ⟨hn0, by show _ < (arrV _ _ _).slots.size; rw [arrV_size, k2]; exact k3⟩ g1 (fun q h => by rw [g3] at h; cases h) (by rw [g2]; exact hkC) (by rw [g2]; exact va_assign hcls) rfl rfl hd fun H1 e4 z oq => ?_
        obtain ⟨s1, s2⟩ := mj_sz_put (c' := .inr (.inl (n, mj_upd f k (some b)))) hc rfl
        have := K _ _ _ hE H1 (locs ++ [⟨mj_ad G a, i.toNatClampNeg⟩]) ls (hR.put ha hc (by
          show H1[_]? = some (vp_cell _ _)
          rw [e4]
          show some ((vp_cell _ _).setSlot _ _) = some (vp_cell _ _)
          rw [vp_cell_q, vp_cell_q, arrV_store, mj_upd_eq, k2]
          congr 2
          funext q
          by_cases hq : q = k
          · simp [updV, hq, va_rf]
          · simp [updV, hq]) z oq) (by rw [s2]; exact h1) (by rw [s1]; exact h2) (mj_locs h3 ha) hL
        rw [s1, s2] at this
        exact this
      · cases hE
    · cases hE
  · cases hE
theorem mj_ofInt_nat (n : Nat) : Int32.ofInt (Int.ofNat n) = Int32.ofNat n := by
  rfl
theorem go_alen (C : mj_Cx X) (hd : decode X.2.1.2.1 pc = .ok (.arraylength, 1)) (hE : mj_alen mj_I loc st h kn none = some R0) (K : ∀ loc' st' h1, kn loc' st' h1 = some R0 → mj_Go X (pc + 1) loc' st' h1) : mj_Go X pc loc st h := by
  rcases X with ⟨G, e, p, l, en, R, s, m, args, below, meth, c, h0, Q⟩
  obtain ⟨hx, hb, hml, hr, hown, hlk, hnm, hts, hK, hR0, hsz, hol⟩ := C
  unfold mj_alen at hE
  split at hE
  · rename_i a rest
    rw [mj_nth_eq] at hE
    split at hE
    · rename_i t n f hc
      intro H locs ls hR h1 h2 h3 hL
      by_cases ha : 4 ≤ a
      · by_cases ht : t = 0
        · refine va_alen hx hb hK.1 hR.2.2.2.1 (a - 4) 0 (cA := G.2.2.2.2.1) (x := (n, .inl f)) (by rw [mj_ws_get ha hc]; show some (_, Sum.inl (if t = 0 then _ else _, _)) = _; rw [if_pos ht]) rfl (mj_ofInt_nat n).symm hd ?_
          exact K _ _ _ hE H locs ls hR h1 h2 h3 hL
        · refine va_alen hx hb hK.1 hR.2.2.2.1 (a - 4) 1 (cA := G.2.2.2.2.2.1) (x := (n, .inl f)) (by rw [mj_ws_get ha hc]; show some (_, Sum.inl (if t = 0 then _ else _, _)) = _; rw [if_neg ht]) rfl (mj_ofInt_nat n).symm hd ?_
          exact K _ _ _ hE H locs ls hR h1 h2 h3 hL
      · obtain ⟨n', f', ho⟩ := hol a (by omega)
        rw [← hR.old (by omega), hc] at ho
        cases ho
        obtain ⟨cell, c1, c2, c3, c4, c5, c6, c7⟩ := mj_oldT hK hsz hR (by omega) hc
        refine W.alen hx hb c1 c2 (n := Int32.ofInt (Int.ofNat n)) (by rw [c5, mj_ofInt_nat]) rfl rfl hd ?_
        exact K _ _ _ hE H locs ls hR h1 h2 h3 hL
    · rename_i n f hc
      split at hE
      · rename_i h4
        have ha := Nat.le_of_ble_eq_true h4
        intro H locs ls hR h1 h2 h3 hL
        refine va_alen hx hb hK.1 hR.2.2.2.1 (a - 4) 2 (mj_ws_get ha hc) rfl (mj_ofInt_nat n).symm hd ?_
        exact K _ _ _ hE H locs ls hR h1 h2 h3 hL
      · cases hE
    · cases hE
  · cases hE
end
