/-! ===== runs over heaps that are related: a dead cell stands for one that is given, rows of references are none beyond their ends ===== -/
section
variable {V V' : Type} (g : V → V') (C0 : mj_c V')
def hcl (c : mj_c V) (c' : mj_c V') : Prop := match c with
  | .inl (t, n, f) => c' = .inl (t, n, fun j => g (f j))
  | .inr (.inl (n, f)) => ∃ f', c' = .inr (.inl (n, f')) ∧ (∀ k, k < n → f' k = f k) ∧ ∀ k, n ≤ k → f' k = none
  | .inr (.inr (ci, fs)) => c' = .inr (.inr (ci, mg_s g fs))
def HR (h : mj_h V) (h' : mj_h V') : Prop := h'.length = h.length ∧ (mj_nth h 0 = some (.inr (.inr (99, []))) ∧ mj_nth h' 0 = some C0) ∧ ∀ a c, a ≠ 0 → mj_nth h a = some c → ∃ c', mj_nth h' a = some c' ∧ hcl g c c'
end
theorem mj_ix_lt {z : Int} {n k : Nat} (h : mj_ix z n = some k) : k < n := by
  unfold mj_ix at h
  split at h
  · split at h
    · rename_i e
      cases h
      exact sy_ble_t e
    · cases h
  · cases h
section
variable {V V' : Type} {g : V → V'} {C0 : mj_c V'} {h : mj_h V} {h' : mj_h V'}
theorem HR.put (hh : HR g C0 h h') {a : Nat} {c : mj_c V} {c' : mj_c V'} (ha : a ≠ 0) (hc : hcl g c c') : HR g C0 (mj_put h a c) (mj_put h' a c') := by
  refine ⟨by rw [mj_put_eq, mj_put_eq, List.length_set, List.length_set]; exact hh.1, ⟨?_, ?_⟩, fun b d hb hd => ?_⟩
  · rw [mj_put_eq, mj_nth_eq, List.getElem?_set_ne ha, ← mj_nth_eq]; exact hh.2.1.1
  · rw [mj_put_eq, mj_nth_eq, List.getElem?_set_ne ha, ← mj_nth_eq]; exact hh.2.1.2
  · rw [mj_put_eq, mj_nth_eq] at hd
    rw [mj_put_eq, mj_nth_eq]
    by_cases e : a = b
    · subst e
      have hl : a < h.length := by
        have := (List.getElem?_eq_some_iff.mp hd).1
        rw [List.length_set] at this
        exact this
      rw [List.getElem?_set_self hl] at hd
      rw [List.getElem?_set_self (by rw [hh.1]; exact hl)]
      cases hd
      exact ⟨c', rfl, hc⟩
    · rw [List.getElem?_set_ne e] at hd ⊢
      rw [← mj_nth_eq] at hd ⊢
      exact hh.2.2 b d hb hd
theorem HR.app (hh : HR g C0 h h') {c : mj_c V} {c' : mj_c V'} (hc : hcl g c c') : HR g C0 (mj_app h c) (mj_app h' c') := by
  have h0 : 0 < h.length := by
    have := hh.2.1.1
    rw [mj_nth_eq] at this
    exact (List.getElem?_eq_some_iff.mp this).1
  refine ⟨by rw [mj_app_eq, mj_app_eq, List.length_append, List.length_append, hh.1]; rfl, ⟨?_, ?_⟩, fun b d hb hd => ?_⟩
  · rw [mj_app_eq, mj_nth_eq, List.getElem?_append_left h0, ← mj_nth_eq]; exact hh.2.1.1
  · rw [mj_app_eq, mj_nth_eq, List.getElem?_append_left (by rw [hh.1]; exact h0), ← mj_nth_eq]; exact hh.2.1.2
  · rw [mj_app_eq, mj_nth_eq] at hd
    rw [mj_app_eq, mj_nth_eq]
    by_cases e : b < h.length
    · rw [List.getElem?_append_left e] at hd
      rw [List.getElem?_append_left (by rw [hh.1]; exact e)]
      rw [← mj_nth_eq] at hd ⊢
      exact hh.2.2 b d hb hd
    · rw [List.getElem?_append_right (by omega)] at hd
      rw [List.getElem?_append_right (by rw [hh.1]; omega), hh.1]
      have hb : b - h.length = 0 := by
        have := (List.getElem?_eq_some_iff.mp hd).1
        simp at this
        omega
      rw [hb] at hd ⊢
      have hd : some c = some d := hd
      cases hd
      exact ⟨c', rfl, hc⟩
theorem HR.i (hh : HR g C0 h h') {a : Nat} {q : Nat × Nat × (Nat → V)} (hc : mj_nth h a = some (.inl q)) : a ≠ 0 ∧ mj_nth h' a = some (.inl (q.1, q.2.1, fun j => g (q.2.2 j))) := by
  have ha : a ≠ 0 := fun e => by
    subst e
    rw [hh.2.1.1] at hc
    cases hc
  obtain ⟨c', e1, e2⟩ := hh.2.2 a _ ha hc
  have e2 : c' = .inl (q.1, q.2.1, fun j => g (q.2.2 j)) := e2
  rw [e1, e2]
  exact ⟨ha, rfl⟩
theorem HR.r (hh : HR g C0 h h') {a n : Nat} {f : Nat → Option Nat} (hc : mj_nth h a = some (.inr (.inl (n, f)))) : a ≠ 0 ∧ ∃ f', mj_nth h' a = some (.inr (.inl (n, f'))) ∧ (∀ k, k < n → f' k = f k) ∧ ∀ k, n ≤ k → f' k = none := by
  have ha : a ≠ 0 := fun e => by
    subst e
    rw [hh.2.1.1] at hc
    cases hc
  obtain ⟨c', e1, f', e2, e3, e4⟩ := hh.2.2 a _ ha hc
  rw [e1, e2]
  exact ⟨ha, f', rfl, e3, e4⟩
theorem HR.o (hh : HR g C0 h h') {a ci : Nat} {fs : List (mj_v V)} (ha : a ≠ 0) (hc : mj_nth h a = some (.inr (.inr (ci, fs)))) : mj_nth h' a = some (.inr (.inr (ci, mg_s g fs))) := by
  obtain ⟨c', e1, e2⟩ := hh.2.2 a _ ha hc
  have e2 : c' = .inr (.inr (ci, mg_s g fs)) := e2
  rw [e1, e2]
theorem HR.len (hh : HR g C0 h h') : mj_len h' = mj_len h := by rw [mj_len_eq, mj_len_eq]; exact hh.1
end
section
variable {V V' α α' : Type} {g : V → V'} {C0 : mj_c V'} {O : mj_O V} {O' : mj_O V'} {Rel : α → α' → Prop} {x : Nat} {xs : List Nat} {loc : mj_l V} {st : mj_s V} {h : mj_h V} {h' : mj_h V'} {kn : mj_l V → mj_s V → mj_h V → α} {kn' : mj_l V' → mj_s V' → mj_h V' → α'} {kj : Nat → mj_s V → α} {kj' : Nat → mj_s V' → α'} {kc : Nat → Nat → List (mj_v V) → mj_s V → α} {kc' : Nat → Nat → List (mj_v V') → mj_s V' → α'} {kr : Option (mj_v V) → α} {kr' : Option (mj_v V') → α'} {sp : α} {sp' : α'}
theorem hr_ald (hh : HR g C0 h h') (hval : ∀ a z, O.2.2.2 a = some z → O'.2.2.2 (g a) = some z) (Kn : ∀ l s h h', HR g C0 h h' → Rel (kn l s h) (kn' (mg_l g l) (mg_s g s) h')) (Ks : ∀ a', Rel sp a') (tag : Nat) : Rel (mj_ald O loc st h kn sp tag) (mj_ald O' (mg_l g loc) (mg_s g st) h' kn' sp' tag) := by
  rcases st with _ | ⟨i | r, rest0⟩
  · exact Ks _
  · rcases rest0 with _ | ⟨i2 | (_ | a), rest⟩
    · exact Ks _
    · exact Ks _
    · exact Ks _
    · simp only [mg_sc, mg_vl, mg_vr]
      unfold mj_ald
      (try dsimp only)
      rcases hc : mj_nth h a with _ | (⟨t, n, f⟩ | (q | q))
      · exact Ks _
      · obtain ⟨ha, e1⟩ := hh.i hc
        rw [e1]
        (try dsimp only)
        cases Nat.beq t tag with
        | false => cases O.2.2.2 i <;> exact Ks _
        | true =>
          cases hz : O.2.2.2 i with
          | none => exact Ks _
          | some z =>
            rw [hval _ _ hz]
            (try dsimp only)
            cases mj_ix z n with
            | none => exact Ks _
            | some k => exact Kn _ _ _ _ hh
      · exact Ks _
      · exact Ks _
  · exact Ks _
theorem hr_ast (hh : HR g C0 h h') (hval : ∀ a z, O.2.2.2 a = some z → O'.2.2.2 (g a) = some z) (Kn : ∀ l s h h', HR g C0 h h' → Rel (kn l s h) (kn' (mg_l g l) (mg_s g s) h')) (Ks : ∀ a', Rel sp a') : Rel (mj_ast O loc st h kn sp) (mj_ast O' (mg_l g loc) (mg_s g st) h' kn' sp') := by
  rcases st with _ | ⟨v | r, rest0⟩
  · exact Ks _
  · rcases rest0 with _ | ⟨i | r2, rest1⟩
    · exact Ks _
    · rcases rest1 with _ | ⟨i2 | (_ | a), rest⟩
      · exact Ks _
      · exact Ks _
      · exact Ks _
      · simp only [mg_sc, mg_vl, mg_vr]
        unfold mj_ast
        (try dsimp only)
        rcases hc : mj_nth h a with _ | (⟨t, n, f⟩ | (q | q))
        · exact Ks _
        · obtain ⟨ha, e1⟩ := hh.i hc
          rw [e1]
          (try dsimp only)
          cases Nat.ble 4 a with
          | false => rcases t with _ | t <;> exact Ks _
          | true =>
            rcases t with _ | t
            · (try dsimp only)
              cases hz : O.2.2.2 i with
              | none => exact Ks _
              | some z =>
                rw [hval _ _ hz]
                show Rel (match mj_ix z n with
                  | some k => kn loc rest (mj_put h a (.inl (0, n, mj_upd f k v)))
                  | none => sp) (match mj_ix z n with
                  | some k => kn' (mg_l g loc) (mg_s g rest) (mj_put h' a (.inl (0, n, mj_upd (fun j => g (f j)) k (g v))))
                  | none => sp')
                cases mj_ix z n with
                | none => exact Ks _
                | some k =>
                  refine Kn _ _ _ _ (hh.put ha ?_)
                  show (Sum.inl (0, n, mj_upd (fun j => g (f j)) k (g v)) : mj_c V') = Sum.inl (0, n, fun j => g (mj_upd f k v j))
                  rw [mg_upd]
            · exact Ks _
        · exact Ks _
        · exact Ks _
    · exact Ks _
  · exact Ks _
theorem hr_bst (hh : HR g C0 h h') (hval : ∀ a z, O.2.2.2 a = some z → O'.2.2.2 (g a) = some z) (Kn : ∀ l s h h', HR g C0 h h' → Rel (kn l s h) (kn' (mg_l g l) (mg_s g s) h')) (Ks : ∀ a', Rel sp a') : Rel (mj_bst O loc st h kn sp) (mj_bst O' (mg_l g loc) (mg_s g st) h' kn' sp') := by
  rcases st with _ | ⟨v | r, rest0⟩
  · exact Ks _
  · rcases rest0 with _ | ⟨i | r2, rest1⟩
    · exact Ks _
    · rcases rest1 with _ | ⟨i2 | (_ | a), rest⟩
      · exact Ks _
      · exact Ks _
      · exact Ks _
      · simp only [mg_sc, mg_vl, mg_vr]
        unfold mj_bst
        (try dsimp only)
        rcases hc : mj_nth h a with _ | (⟨t, n, f⟩ | (q | q))
        · exact Ks _
        · obtain ⟨ha, e1⟩ := hh.i hc
          rw [e1]
          (try dsimp only)
          cases Nat.ble 4 a with
          | false => rcases t with _ | _ | t <;> exact Ks _
          | true =>
            rcases t with _ | _ | t
            · exact Ks _
            · cases hb : O.2.2.2 v with
              | none => exact Ks _
              | some w =>
                rw [hval _ _ hb]
                cases mj_bit (some w) with
                | false => exact Ks _
                | true =>
                  (try dsimp only)
                  cases hz : O.2.2.2 i with
                  | none => exact Ks _
                  | some z =>
                    rw [hval _ _ hz]
                    show Rel (match mj_ix z n with
                      | some k => kn loc rest (mj_put h a (.inl (1, n, mj_upd f k v)))
                      | none => sp) (match mj_ix z n with
                      | some k => kn' (mg_l g loc) (mg_s g rest) (mj_put h' a (.inl (1, n, mj_upd (fun j => g (f j)) k (g v))))
                      | none => sp')
                    cases mj_ix z n with
                    | none => exact Ks _
                    | some k =>
                      refine Kn _ _ _ _ (hh.put ha ?_)
                      show (Sum.inl (1, n, mj_upd (fun j => g (f j)) k (g v)) : mj_c V') = Sum.inl (1, n, fun j => g (mj_upd f k v j))
                      rw [mg_upd]
            · exact Ks _
        · exact Ks _
        · exact Ks _
    · exact Ks _
  · exact Ks _
theorem hr_aald (hh : HR g C0 h h') (hval : ∀ a z, O.2.2.2 a = some z → O'.2.2.2 (g a) = some z) (Kn : ∀ l s h h', HR g C0 h h' → Rel (kn l s h) (kn' (mg_l g l) (mg_s g s) h')) (Ks : ∀ a', Rel sp a') : Rel (mj_aald O loc st h kn sp) (mj_aald O' (mg_l g loc) (mg_s g st) h' kn' sp') := by
  rcases st with _ | ⟨i | r, rest0⟩
  · exact Ks _
  · rcases rest0 with _ | ⟨i2 | (_ | a), rest⟩
    · exact Ks _
    · exact Ks _
    · exact Ks _
    · simp only [mg_sc, mg_vl, mg_vr]
      unfold mj_aald
      (try dsimp only)
      rcases hc : mj_nth h a with _ | (q | (⟨n, f⟩ | q))
      · exact Ks _
      · exact Ks _
      · obtain ⟨ha, f', e1, e3, e4⟩ := hh.r hc
        rw [e1]
        (try dsimp only)
        cases hz : O.2.2.2 i with
        | none => cases Nat.ble 4 a <;> exact Ks _
        | some z =>
          rw [hval _ _ hz]
          cases Nat.ble 4 a with
          | false => exact Ks _
          | true =>
            (try dsimp only)
            cases hk : mj_ix z n with
            | none => exact Ks _
            | some k =>
              (try dsimp only)
              rw [e3 k (mj_ix_lt hk)]
              cases f k with
              | none => exact Ks _
              | some b => exact Kn _ _ _ _ hh
      · exact Ks _
  · exact Ks _
theorem hr_aast (hh : HR g C0 h h') (hval : ∀ a z, O.2.2.2 a = some z → O'.2.2.2 (g a) = some z) (Kn : ∀ l s h h', HR g C0 h h' → Rel (kn l s h) (kn' (mg_l g l) (mg_s g s) h')) (Ks : ∀ a', Rel sp a') : Rel (mj_aast O loc st h kn sp) (mj_aast O' (mg_l g loc) (mg_s g st) h' kn' sp') := by
  rcases st with _ | ⟨b0 | (_ | b), rest0⟩
  · exact Ks _
  · exact Ks _
  · exact Ks _
  · rcases rest0 with _ | ⟨i | r, rest1⟩
    · exact Ks _
    · rcases rest1 with _ | ⟨i2 | (_ | a), rest⟩
      · exact Ks _
      · exact Ks _
      · exact Ks _
      · simp only [mg_sc, mg_vl, mg_vr]
        unfold mj_aast
        (try dsimp only)
        split
        · rename_i n f fs ha h4 hb h5
          obtain ⟨ha0, f', e1, e3, e4⟩ := hh.r ha
          have e5 := hh.o (by have := sy_ble_t h5; omega) hb
          rw [e1, h4, e5, h5]
          (try dsimp only)
          cases hz : O.2.2.2 i with
          | none => exact Ks _
          | some z =>
            rw [hval _ _ hz]
            show Rel (match mj_ix z n with
              | some k => kn loc rest (mj_put h a (.inr (.inl (n, mj_upd f k (some b)))))
              | none => sp) (match mj_ix z n with
              | some k => kn' (mg_l g loc) (mg_s g rest) (mj_put h' a (.inr (.inl (n, mj_upd f' k (some b)))))
              | none => sp')
            cases hk : mj_ix z n with
            | none => exact Ks _
            | some k =>
              have hkn := mj_ix_lt hk
              refine Kn _ _ _ _ (hh.put ha0 ⟨_, rfl, fun j hj => ?_, fun j hj => ?_⟩)
              · by_cases e : j = k
                · subst e; rw [mj_upd_self, mj_upd_self]
                · rw [mj_upd_ne e, mj_upd_ne e]; exact e3 j hj
              · rw [mj_upd_ne (by omega)]; exact e4 j hj
        · exact Ks _
    · exact Ks _
theorem hr_alen (hh : HR g C0 h h') (hinj : ∀ n, g (O.1 n) = O'.1 n) (Kn : ∀ l s h h', HR g C0 h h' → Rel (kn l s h) (kn' (mg_l g l) (mg_s g s) h')) (Ks : ∀ a', Rel sp a') : Rel (mj_alen O loc st h kn sp) (mj_alen O' (mg_l g loc) (mg_s g st) h' kn' sp') := by
  rcases st with _ | ⟨i | (_ | a), rest⟩
  · exact Ks _
  · exact Ks _
  · exact Ks _
  · simp only [mg_sc, mg_vl, mg_vr]
    unfold mj_alen
    (try dsimp only)
    rcases hc : mj_nth h a with _ | (⟨t, n, f⟩ | (⟨n, f⟩ | q))
    · exact Ks _
    · obtain ⟨ha, e1⟩ := hh.i hc
      rw [e1]
      (try dsimp only)
      rw [← hinj]
      exact Kn _ _ _ _ hh
    · obtain ⟨ha, f', e1, e3, e4⟩ := hh.r hc
      rw [e1]
      (try dsimp only)
      cases Nat.ble 4 a with
      | false => exact Ks _
      | true =>
        (try dsimp only)
        rw [← hinj]
        exact Kn _ _ _ _ hh
    · exact Ks _
theorem hr_getf (hh : HR g C0 h h') (Kn : ∀ l s h h', HR g C0 h h' → Rel (kn l s h) (kn' (mg_l g l) (mg_s g s) h')) (Ks : ∀ a', Rel sp a') : Rel (mj_getf x xs loc st h kn sp) (mj_getf x xs (mg_l g loc) (mg_s g st) h' kn' sp') := by
  rcases st with _ | ⟨i | (_ | a), rest⟩
  · exact Ks _
  · exact Ks _
  · exact Ks _
  · rcases xs with _ | ⟨ci, xs⟩
    · exact Ks _
    · simp only [mg_sc, mg_vl, mg_vr]
      unfold mj_getf
      (try dsimp only)
      rcases hc : mj_nth h a with _ | (q | (q | ⟨c, fs⟩))
      · exact Ks _
      · exact Ks _
      · exact Ks _
      · (try dsimp only)
        cases e4 : Nat.ble 4 a with
        | false => cases Nat.beq c ci <;> cases mj_nth fs x <;> exact Ks _
        | true =>
          have e1 := hh.o (by have := sy_ble_t e4; omega) hc
          rw [e1]
          (try dsimp only)
          rw [show mj_nth (mg_s g fs) x = (mj_nth fs x).map (mg_v g) from mg_nth _ _ _]
          cases Nat.beq c ci with
          | false => cases mj_nth fs x <;> exact Ks _
          | true =>
            cases mj_nth fs x with
            | none => exact Ks _
            | some v => exact Kn _ _ _ _ hh
theorem hr_putf (hh : HR g C0 h h') (hval : ∀ a z, O.2.2.2 a = some z → O'.2.2.2 (g a) = some z) (Kn : ∀ l s h h', HR g C0 h h' → Rel (kn l s h) (kn' (mg_l g l) (mg_s g s) h')) (Ks : ∀ a', Rel sp a') : Rel (mj_putf O x xs loc st h kn sp) (mj_putf O' x xs (mg_l g loc) (mg_s g st) h' kn' sp') := by
  rcases st with _ | ⟨v, rest0⟩
  · exact Ks _
  · rcases rest0 with _ | ⟨i | (_ | a), rest⟩
    · exact Ks _
    · exact Ks _
    · exact Ks _
    · simp only [mg_sc, mg_vr]
      unfold mj_putf
      (try dsimp only)
      split
      · rename_i v0 a0 rest1 ci pw kind xs0 heq
        cases heq
        show Rel _ (match mj_nth h' a with
          | some (.inr (.inr (c, fs))) => match Nat.beq c ci, Nat.ble 4 a, mj_nth fs x, mj_fit O' kind (mg_v g v) with
            | true, true, some _, true => kn' (mg_l g loc) (mg_s g rest) (mj_put h' a (.inr (.inr (c, mj_put fs x (mg_v g v)))))
            | _, _, _, _ => sp'
          | _ => sp')
        rcases hc : mj_nth h a with _ | (q | (q | ⟨c, fs⟩))
        · exact Ks _
        · exact Ks _
        · exact Ks _
        · (try dsimp only)
          split
          · rename_i w e1 e2 e3 e4
            have ha0 : a ≠ 0 := by have := sy_ble_t e2; omega
            have d1 := hh.o ha0 hc
            rw [d1]
            (try dsimp only)
            rw [show mj_nth (mg_s g fs) x = (mj_nth fs x).map (mg_v g) from mg_nth _ _ _, e1, e2, e3, mg_fit hval _ _ e4]
            dsimp only [Option.map]
            refine Kn _ _ _ _ (hh.put ha0 ?_)
            show (Sum.inr (Sum.inr (c, mj_put (mg_s g fs) x (mg_v g v))) : mj_c V') = Sum.inr (Sum.inr (c, (mj_put fs x v).map (mg_v g)))
            rw [mg_put]
            rfl
          · exact Ks _
      · exact Ks _
theorem hr_new (hh : HR g C0 h h') (hinj : ∀ n, g (O.1 n) = O'.1 n) (Kn : ∀ l s h h', HR g C0 h h' → Rel (kn l s h) (kn' (mg_l g l) (mg_s g s) h')) (Ks : ∀ a', Rel sp a') : Rel (mj_new O x xs loc st h kn sp) (mj_new O' x xs (mg_l g loc) (mg_s g st) h' kn' sp') := by
  unfold mj_new
  split
  · rename_i p1 p2 p3 ks
    rw [hh.len, ← mg_dfl hinj]
    exact Kn loc (.inr (some (mj_len h)) :: st) _ _ (hh.app rfl)
  · exact Ks _
theorem hr_newa (hh : HR g C0 h h') (hinj : ∀ n, g (O.1 n) = O'.1 n) (hval : ∀ a z, O.2.2.2 a = some z → O'.2.2.2 (g a) = some z) (Kn : ∀ l s h h', HR g C0 h h' → Rel (kn l s h) (kn' (mg_l g l) (mg_s g s) h')) (Ks : ∀ a', Rel sp a') (tag : Nat) : Rel (mj_newa O loc st h kn sp tag) (mj_newa O' (mg_l g loc) (mg_s g st) h' kn' sp' tag) := by
  rcases st with _ | ⟨a | r, rest⟩
  · exact Ks _
  · simp only [mg_sc, mg_vl, mg_vr]
    unfold mj_newa
    (try dsimp only)
    cases hz : O.2.2.2 a with
    | none => exact Ks _
    | some z =>
      rw [hval _ _ hz]
      cases z with
      | negSucc k => exact Ks _
      | ofNat n =>
        (try dsimp only)
        cases Nat.ble n 100000 with
        | false => exact Ks _
        | true =>
          (try dsimp only)
          rw [hh.len, ← hinj]
          exact Kn loc (.inr (some (mj_len h)) :: rest) _ _ (hh.app rfl)
  · exact Ks _
theorem hr_anew (hh : HR g C0 h h') (hval : ∀ a z, O.2.2.2 a = some z → O'.2.2.2 (g a) = some z) (Kn : ∀ l s h h', HR g C0 h h' → Rel (kn l s h) (kn' (mg_l g l) (mg_s g s) h')) (Ks : ∀ a', Rel sp a') : Rel (mj_anew O loc st h kn sp) (mj_anew O' (mg_l g loc) (mg_s g st) h' kn' sp') := by
  rcases st with _ | ⟨a | r, rest⟩
  · exact Ks _
  · simp only [mg_sc, mg_vl, mg_vr]
    unfold mj_anew
    (try dsimp only)
    cases hz : O.2.2.2 a with
    | none => exact Ks _
    | some z =>
      rw [hval _ _ hz]
      cases z with
      | negSucc k => exact Ks _
      | ofNat n =>
        (try dsimp only)
        cases Nat.ble n 100000 with
        | false => exact Ks _
        | true =>
          (try dsimp only)
          rw [hh.len]
          exact Kn loc (.inr (some (mj_len h)) :: rest) _ _ (hh.app ⟨_, rfl, fun _ _ => rfl, fun _ _ => rfl⟩)
  · exact Ks _
theorem hr_acopy (hh : HR g C0 h h') (hval : ∀ a z, O.2.2.2 a = some z → O'.2.2.2 (g a) = some z) (Kn : ∀ l s h h', HR g C0 h h' → Rel (kn l s h) (kn' (mg_l g l) (mg_s g s) h')) (Ks : ∀ a', Rel sp a') : Rel (mj_acopy O loc st h kn sp) (mj_acopy O' (mg_l g loc) (mg_s g st) h' kn' sp') := by
  unfold mj_acopy
  split
  · rename_i n dp b sp0 a rest
    simp only [mg_sc, mg_vl, mg_vr]
    split
    · rename_i n0 f n1 f' ha hb h4
      have e1 := (hh.i ha).2
      obtain ⟨hb0, e3⟩ := hh.i hb
      rw [e1, e3, h4]
      (try dsimp only)
      split
      · rename_i n' dp' sp1 e1 e2 e3
        rw [hval _ _ e1, hval _ _ e2, hval _ _ e3]
        (try dsimp only)
        rw [show mj_len (mg_s g rest) = mj_len rest from mg_len _ _]
        split
        · rename_i l1 l2 l3
          show Rel _ (match Nat.ble (sp1 + n') n0, Nat.ble (dp' + n') n1, Nat.ble (mj_len rest) 8 with
            | true, true, true => kn' (mg_l g loc) (mg_s g rest) (mj_put h' b (.inl (0, n1, mj_cpy (fun j => g (f j)) (fun j => g (f' j)) sp1 dp' n')))
            | _, _, _ => sp')
          rw [l1, l2, l3]
          (try dsimp only)
          refine Kn _ _ _ _ (hh.put hb0 ?_)
          show (Sum.inl (0, n1, mj_cpy (fun j => g (f j)) (fun j => g (f' j)) sp1 dp' n') : mj_c V') = Sum.inl (0, n1, fun j => g (mj_cpy f f' sp1 dp' n' j))
          rw [mg_cpy]
        · exact Ks _
      · exact Ks _
    · exact Ks _
  · exact Ks _
theorem hr_isof (hh : HR g C0 h h') {ci : Nat} {v : mj_v V} (hv : mj_isof h ci v = true) : mj_isof h' ci (mg_v g v) = true := by
  rcases v with i | (_ | a)
  · cases hv
  · cases hv
  · unfold mj_isof at hv
    unfold mj_isof mg_v
    (try dsimp only at hv)
    (try dsimp only)
    split at hv
    · rename_i c fs hc
      rw [Bool.and_eq_true] at hv
      have e1 := hh.o (by have := sy_ble_t hv.2; omega) hc
      rw [e1]
      (try dsimp only)
      rw [hv.1, hv.2]
      rfl
    · cases hv
theorem hr_call (hh : HR g C0 h h') (Kc : ∀ k ml as rest, Rel (kc k ml as rest) (kc' k ml (mg_s g as) (mg_s g rest))) (Ks : ∀ a', Rel sp a') : Rel (mj_call x xs st h kc sp) (mj_call x xs (mg_s g st) h' kc' sp') := by
  unfold mj_call
  split
  · rename_i n ml recv xs0
    rw [show mj_args n (mg_s g st) [] = (mj_args n st []).map fun q => (mg_s g q.1, mg_s g q.2) from mg_args n st []]
    rcases mj_args n st [] with _ | ⟨as, rest⟩
    · exact Ks _
    · dsimp only [Option.map]
      rw [show mj_len (mg_s g rest) = mj_len rest from mg_len _ _]
      cases Nat.ble (mj_len rest) 8 with
      | false => rcases recv with _ | ci <;> rcases as with _ | ⟨a, as⟩ <;> exact Ks _
      | true =>
        rcases recv with _ | ci
        · exact Kc _ _ _ _
        · rcases as with _ | ⟨a, as⟩
          · exact Ks _
          · simp only [mg_sc]
            cases hv : mj_isof h ci a with
            | false => exact Ks _
            | true =>
              rw [hr_isof hh hv]
              exact Kc _ _ _ _
  · exact Ks _
theorem hr_step (hh : HR g C0 h h') (hinj : ∀ n, g (O.1 n) = O'.1 n) (hbin : ∀ op a b z, O.2.1 op a b = some z → O'.2.1 op (g a) (g b) = some (g z)) (hcmp : ∀ c a b q, O.2.2.1 c a b = some q → O'.2.2.1 c (g a) (g b) = some q) (hval : ∀ a z, O.2.2.2 a = some z → O'.2.2.2 (g a) = some z) (Kn : ∀ l s h h', HR g C0 h h' → Rel (kn l s h) (kn' (mg_l g l) (mg_s g s) h')) (Kj : ∀ j s, Rel (kj j s) (kj' j (mg_s g s))) (Kc : ∀ k ml as rest, Rel (kc k ml as rest) (kc' k ml (mg_s g as) (mg_s g rest))) (Kr : ∀ v, Rel (kr v) (kr' (mg_o g v))) (Ks : ∀ a', Rel sp a') (ins : Instr) : Rel (mj_step O x xs loc st h kn kj kc kr sp ins) (mj_step O' x xs (mg_l g loc) (mg_s g st) h' kn' kj' kc' kr' sp' ins) := by
  have hc : ∀ n, Rel (kn loc (.inl (O.1 n) :: st) h) (kn' (mg_l g loc) (.inl (O'.1 n) :: mg_s g st) h') := fun n => by rw [← hinj]; exact Kn _ _ _ _ hh
  have K0 : ∀ l s (_ : mj_h V), Rel (kn l s h) (kn' (mg_l g l) (mg_s g s) h') := fun l s _ => Kn l s h h' hh
  cases ins with
  | iload i => exact rel_iload (h := []) (kn := fun l s _ => kn l s h) (kn' := fun l s _ => kn' l s h') K0 Ks i
  | iload_n i => exact rel_iload (h := []) (kn := fun l s _ => kn l s h) (kn' := fun l s _ => kn' l s h') K0 Ks i.val
  | aload i => exact rel_aload (h := []) (kn := fun l s _ => kn l s h) (kn' := fun l s _ => kn' l s h') K0 Ks i
  | aload_n i => exact rel_aload (h := []) (kn := fun l s _ => kn l s h) (kn' := fun l s _ => kn' l s h') K0 Ks i.val
  | istore i => exact rel_istore (h := []) (kn := fun l s _ => kn l s h) (kn' := fun l s _ => kn' l s h') K0 Ks i
  | istore_n i => exact rel_istore (h := []) (kn := fun l s _ => kn l s h) (kn' := fun l s _ => kn' l s h') K0 Ks i.val
  | astore i => exact rel_astore (h := []) (kn := fun l s _ => kn l s h) (kn' := fun l s _ => kn' l s h') K0 Ks i
  | astore_n i => exact rel_astore (h := []) (kn := fun l s _ => kn l s h) (kn' := fun l s _ => kn' l s h') K0 Ks i.val
  | iconst n => exact hc n
  | bipush n => exact hc n
  | sipush n => exact hc n
  | ldc i => exact hc _
  | ldc_w i => exact hc _
  | iadd => exact rel_bin (h := []) (kn := fun l s _ => kn l s h) (kn' := fun l s _ => kn' l s h') hbin K0 Ks 0
  | isub => exact rel_bin (h := []) (kn := fun l s _ => kn l s h) (kn' := fun l s _ => kn' l s h') hbin K0 Ks 1
  | imul => exact rel_bin (h := []) (kn := fun l s _ => kn l s h) (kn' := fun l s _ => kn' l s h') hbin K0 Ks 2
  | idiv => exact rel_bin (h := []) (kn := fun l s _ => kn l s h) (kn' := fun l s _ => kn' l s h') hbin K0 Ks 3
  | irem => exact rel_bin (h := []) (kn := fun l s _ => kn l s h) (kn' := fun l s _ => kn' l s h') hbin K0 Ks 4
  | ishl => exact rel_bin (h := []) (kn := fun l s _ => kn l s h) (kn' := fun l s _ => kn' l s h') hbin K0 Ks 5
  | ishr => exact rel_bin (h := []) (kn := fun l s _ => kn l s h) (kn' := fun l s _ => kn' l s h') hbin K0 Ks 6
  | iand => exact rel_bin (h := []) (kn := fun l s _ => kn l s h) (kn' := fun l s _ => kn' l s h') hbin K0 Ks 7
  | ior => exact rel_bin (h := []) (kn := fun l s _ => kn l s h) (kn' := fun l s _ => kn' l s h') hbin K0 Ks 8
  | ineg => exact rel_neg (h := []) (kn := fun l s _ => kn l s h) (kn' := fun l s _ => kn' l s h') hbin K0 Ks
  | iinc i n => exact rel_iinc (h := []) (kn := fun l s _ => kn l s h) (kn' := fun l s _ => kn' l s h') hbin hinj K0 Ks i n
  | if_icmp c o => exact rel_icmp (h := []) (kn := fun l s _ => kn l s h) (kn' := fun l s _ => kn' l s h') hcmp K0 Kj Ks c
  | ifCond c o => exact rel_ifc (h := []) (kn := fun l s _ => kn l s h) (kn' := fun l s _ => kn' l s h') hcmp hinj K0 Kj Ks c
  | goto o => exact Kj _ _
  | tableswitch d lo hi o => exact rel_tab hval Kj Ks lo hi
  | dup => exact rel_dup (h := []) (kn := fun l s _ => kn l s h) (kn' := fun l s _ => kn' l s h') K0 Ks
  | dup2 => exact rel_dup2 (h := []) (kn := fun l s _ => kn l s h) (kn' := fun l s _ => kn' l s h') K0 Ks
  | pop => exact rel_pop (h := []) (kn := fun l s _ => kn l s h) (kn' := fun l s _ => kn' l s h') K0 Ks
  | iaload => exact hr_ald hh hval Kn Ks 0
  | baload => exact hr_ald hh hval Kn Ks 1
  | iastore => exact hr_ast hh hval Kn Ks
  | bastore => exact hr_bst hh hval Kn Ks
  | aaload => exact hr_aald hh hval Kn Ks
  | aastore => exact hr_aast hh hval Kn Ks
  | arraylength => exact hr_alen hh hinj Kn Ks
  | getfield i => exact hr_getf hh Kn Ks
  | putfield i => exact hr_putf hh hval Kn Ks
  | getstatic i => exact Kn _ _ _ _ hh
  | new i => exact hr_new hh hinj Kn Ks
  | anewarray i => exact hr_anew hh hval Kn Ks
  | invokevirtual i => exact hr_call hh Kc Ks
  | ireturn => exact rel_iret hval Kr Ks
  | areturn => exact rel_aret Kr Ks
  | return_ => exact rel_vret Kr Ks
  | newarray t => cases t <;> first | exact hr_newa hh hinj hval Kn Ks 0 | exact hr_newa hh hinj hval Kn Ks 1 | exact Ks _
  | invokespecial i =>
    show Rel (mj_spec x xs loc st h kn kc sp) (mj_spec x xs (mg_l g loc) (mg_s g st) h' kn' kc' sp')
    unfold mj_spec
    cases Nat.beq x 100000 with
    | false => exact hr_call hh Kc Ks
    | true =>
      rcases st with _ | ⟨i | (_ | a), rest⟩
      · exact Ks _
      · exact Ks _
      · exact Ks _
      · simp only [mg_sc, mg_vr]
        rw [show mj_len (mg_s g rest) = mj_len rest from mg_len _ _]
        cases Nat.ble (mj_len rest) 8 with
        | false => exact Ks _
        | true => exact Kn _ _ _ _ hh
  | invokestatic i =>
    show Rel (mj_stat O x xs loc st h kn kc sp) (mj_stat O' x xs (mg_l g loc) (mg_s g st) h' kn' kc' sp')
    unfold mj_stat
    cases Nat.beq x 100001 with
    | false => exact hr_call hh Kc Ks
    | true => exact hr_acopy hh hval Kn Ks
  | _ => exact Ks _
end
theorem sr_sound2 {β : Type} {env : Nat → Int32} {C0 : mj_c Int32} (hM : sy_M env []) : ∀ (n d : Nat) (cd suf : List mj_r) (loc : mj_l Nat) (st : mj_s Nat) (h : mj_h Nat) (h' : mj_h Int32) (k : Option (mj_v Nat) → mj_h Nat → Option β) (R : β), HR (sy_g env) C0 h h' → sr_run n d cd suf loc st h k = some R →
    ∃ v h1 h1', k v h1 = some R ∧ HR (sy_g env) C0 h1 h1' ∧ mj_Rn d cd suf (mg_l (sy_g env) loc) (mg_s (sy_g env) st) h' (mg_o (sy_g env) v, h1') := by
  intro n
  induction n with
  | zero =>
    intro d cd suf loc st h h' k R hh hr
    have hr : (none : Option β) = some R := hr
    cases hr
  | succ n ih =>
    intro d cd suf loc st h h' k R hh hr
    cases suf with
    | nil =>
      have hr : (none : Option β) = some R := hr
      cases hr
    | cons r tl =>
      rw [sr_run_succ] at hr
      have key := hr_step (g := sy_g env) (C0 := C0) (O := sy_O []) (O' := mj_I) (Rel := fun (o : Option β) (P : (Option (mj_v Int32) × mj_h Int32) → Prop) => o = some R → ∃ v h1 h1', k v h1 = some R ∧ HR (sy_g env) C0 h1 h1' ∧ P (mg_o (sy_g env) v, h1')) (x := r.2.2.1) (xs := r.2.2.2) (loc := loc) (st := st) (h := h) (h' := h')
        (kn := fun loc st h => sr_run n d cd tl loc st h k) (kj := fun j st => sr_run n d cd (mj_drop j cd) loc st h k) (kc := sr_kc (sr_run n) d cd tl loc k h) (kr := fun v => k v h) (sp := none)
        (kn' := fun loc st h R0 => mj_Rn d cd tl loc st h R0) (kj' := fun j st R0 => mj_Rn d cd (mj_drop j cd) (mg_l (sy_g env) loc) st h' R0) (kc' := fun k ml as rest R0 => mj_Kc d cd tl (mg_l (sy_g env) loc) h' R0 k ml as rest) (kr' := fun v R0 => (v, h') = R0) (sp' := fun _ => False)
        hh (sy_inj_spec env) (fun op a b z e => sy_bin_spec hM e) (fun c a b q e => congrArg some (sy_cmp_spec hM e)) (fun a z e => congrArg some (sy_val_spec hM e))
        (fun l s h2 h2' hh2 e => ih _ _ _ _ _ _ _ _ _ hh2 e)
        (fun j s e => ih _ _ _ _ _ _ _ _ _ hh e)
        (fun m ml as rest e => by
          unfold sr_kc at e
          split at e
          · rename_i d'
            split at e
            · rename_i cd' hcd
              obtain ⟨v', h1, h1', a2, ah, a3⟩ := ih _ _ _ _ _ _ _ _ _ hh e
              obtain ⟨v2, h2, h2', b2, bh, b3⟩ := ih _ _ _ _ _ _ _ _ _ ah a2
              rw [mg_ent] at a3
              refine ⟨v2, h2, h2', b2, bh, d', cd', mg_o (sy_g env) v', h1', rfl, by rw [← mj_nth_eq]; exact hcd, a3, ?_⟩
              cases v' <;> exact b3
            · cases e
          · cases e)
        (fun v e => ⟨v, h, h', e, hh, rfl⟩) (fun a' e => by cases e) r.2.1
      obtain ⟨v, h1, h1', a1, a2, a3⟩ := key hr
      exact ⟨v, h1, h1', a1, a2, mj_Rn.step' a3⟩
