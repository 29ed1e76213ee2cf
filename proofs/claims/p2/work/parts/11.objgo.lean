/-! ===== fields, new cells, copies ===== -/
section
variable {X : mj_X} {ρ : Type} {R0 : ρ} {pc : Nat} {loc : mj_l Int32} {st : mj_s Int32} {h : mj_h Int32} {kn : mj_l Int32 → mj_s Int32 → mj_h Int32 → Option ρ}
theorem mj_hts {args : Array Value} {s : State} (hts : ∀ w ∈ lw_tbl, goodWord w = true → w.before args s = true) : ∀ w ∈ mj_gw, w.before args s = true := fun w hw => hts w (List.mem_filter.mp hw).1 (List.mem_filter.mp hw).2
theorem mj_vw {ci : Nat} {C : String} {T : u_T} {N : Nat} (hc : vwCl[ci]? = some (C, T, N)) : ∃ ty : Nat → FieldType, (∀ k, k < N → parseFieldDescriptor (T k).2.2.1 = some (ty k)) ∧ (∀ a, a < N → ∀ b, b < N → a ≠ b → (T a).2.1 ≠ (T b).2.1) ∧ (∀ w ∈ u_ws C T N, w ∈ mj_gw) := mj_cls _ (List.mem_of_getElem? hc)
theorem go_getf {i x ci : Nat} {xs : List Nat} {C0 : String} {T : u_T} {N : Nat} (C : mj_Cx X) (hcl : vwCl[ci]? = some (C0, T, N)) (hk : x < N) (hw : .fieldLink X.2.1.1.cls i (T x).1 (T x).2.1 (T x).2.2.1 ∈ lw_tbl) (hd : decode X.2.1.2.1 pc = .ok (.getfield i, 3))
    (hE : mj_getf x (ci :: xs) loc st h kn none = some R0) (K : ∀ loc' st' h1, kn loc' st' h1 = some R0 → mj_Go X (pc + 3) loc' st' h1) : mj_Go X pc loc st h := by
  rcases X with ⟨G, e, p, l, en, R, s, m, args, below, meth, c, h0, Q⟩
  obtain ⟨hx, hb, hml, hr, hown, hlk, hnm, hts, hK, hR0, hsz, hol⟩ := C
  obtain ⟨ty, t1, t2, t3⟩ := mj_vw hcl
  unfold mj_getf at hE
  split at hE
  · rename_i a rest ci' xs' heq
    cases heq
    rw [mj_nth_eq] at hE
    split at hE
    · rename_i c1 fs hc
      rw [mj_nth_eq] at hE
      split at hE
      · rename_i v e1 e2 hv
        obtain rfl : c1 = ci := Nat.eq_of_beq_eq_true e1
        have ha := Nat.le_of_ble_eq_true e2
        intro H locs ls hR h1 h2 h3 hL
        refine va_get (D := G.2.2.2.1) (ci := c1) (v := mj_rv G v) (C := C0) (T := T) (N := N) hx hb (mj_hts hts) t3 hown hK.1 hR.2.2.2.1 (a - 4) (mj_ws_get ha hc) hcl x hk (hts _ hw rfl) (fun _ h9 => h9) (by rw [List.getElem?_map, hv]; rfl) hd ?_
        exact K _ _ _ hE H locs ls hR h1 h2 h3 hL
      · cases hE
    · cases hE
  · cases hE
theorem mj_fit_spec {G : mj_G} {kind : Nat} {v : mj_v Int32} {ty : FieldType} (h : mj_fit mj_I kind v = true) (hk : mj_kd (some ty) = kind) : narrow ty (mj_rv G v) = mj_rv G v ∧ fits ty (mj_rv G v) = true := by
  unfold mj_fit at h
  split at h
  · unfold mj_kd at hk
    split at hk <;> first | cases hk | skip
    rename_i heq
    cases heq
    exact ⟨rfl, rfl⟩
  · rename_i a
    unfold mj_kd at hk
    split at hk <;> first | cases hk | skip
    rename_i heq
    cases heq
    rcases mj_bit_spec h with rfl | rfl <;> exact ⟨rfl, rfl⟩
  · rename_i b
    unfold mj_kd at hk
    split at hk <;> first | cases hk | skip
    all_goals
      rename_i heq
      cases heq
      cases b <;> exact ⟨rfl, rfl⟩
  · cases h
theorem go_putf {i x ci pw kind : Nat} {xs : List Nat} {C0 : String} {T : u_T} {N : Nat} (C : mj_Cx X) (hcl : vwCl[ci]? = some (C0, T, N)) (hk : x < N) (hw : .fieldLink X.2.1.1.cls i (T x).1 (T x).2.1 (T x).2.2.1 ∈ lw_tbl)
    (hfin : (T x).2.2.2 = false ∨ ((T x).2.2.2 = true ∧ X.2.1.1.name = "<init>" ∧ (T x).1 = X.2.1.1.cls)) (hkd : mj_kd (parseFieldDescriptor (T x).2.2.1) = kind) (hd : decode X.2.1.2.1 pc = .ok (.putfield i, 3))
    (hE : mj_putf mj_I x (ci :: pw :: kind :: xs) loc st h kn none = some R0) (K : ∀ loc' st' h1, kn loc' st' h1 = some R0 → mj_Go X (pc + 3) loc' st' h1) : mj_Go X pc loc st h := by
  rcases X with ⟨G, e, p, l, en, R, s, m, args, below, meth, c, h0, Q⟩
  obtain ⟨hx, hb, hml, hr, hown, hlk, hnm, hts, hK, hR0, hsz, hol⟩ := C
  obtain ⟨ty, t1, t2, t3⟩ := mj_vw hcl
  unfold mj_putf at hE
  split at hE
  · rename_i v a rest ci' pw' kind' xs' heq
    cases heq
    rw [mj_nth_eq] at hE
    split at hE
    · rename_i c1 fs hc
      rw [mj_nth_eq] at hE
      split at hE
      · rename_i v0 e1 e2 hv e3
        obtain rfl : c1 = ci := Nat.eq_of_beq_eq_true e1
        have ha := Nat.le_of_ble_eq_true e2
        rw [t1 x hk] at hkd
        obtain ⟨n1, n2⟩ := mj_fit_spec (G := G) e3 hkd
        intro H locs ls hR h1 h2 h3 hL
        have hP := hR.2.2.2.1
        have he := mj_ws_get (G := G) ha hc
        have hap := va_apart (own := e.1.cls) (mj_hts hts) t3 ty t1 t2 hK.1 hcl
        obtain ⟨r, g1, cell, q1, q2, q3, q4⟩ := hP (a - 4) _ he
        have hr1 : r = (C0, T, N) := Option.some.inj (g1.symm.trans hcl)
        subst hr1
        obtain ⟨hS, hfc, kC, hkC, hkind⟩ := hK.1.1 c1 _ hcl
        obtain ⟨cf, kf, fi, f, hi, hsl⟩ := hS x hk
        have hlay := mj_hts hts _ (t3 _ (u_in_lay hk))
        have hst := (u_facts hfc hkC (u_lays (mj_hts hts) t3 hk) hi).1
        have hlen : x < fs.length := (List.getElem?_eq_some_iff.mp hv).1
        obtain ⟨s1, s2⟩ := mj_sz_put (c' := .inr (.inr (c1, mj_put fs x v))) hc (by show (mj_put fs x v).length = fs.length; rw [mj_put_eq]; simp)
        have fin : ∀ H' : Heap, H'[mj_ad G a]? = some (cell.setSlot f.slot (mj_rv G v)) → H'.size = H.size → (∀ q, q ≠ mj_ad G a → H'[q]? = H[q]?) → W p l en R s m args below meth c H' (locs ++ [⟨mj_ad G a, f.slot⟩]) (h.length - h0.length) (mj_sz h - mj_sz h0) Q (F0 m (pc + 3) ls (rest.map (mj_rv G))) := by
          intro H' e1 e2 e3
          rw [hsl] at e1
          have := K _ _ _ hE H' (locs ++ [⟨mj_ad G a, f.slot⟩]) ls (hR.put ha hc (by
            refine ⟨_, hcl, ?_⟩
            show t_OB _ _ _ _ _ (vp_V ((mj_put fs x v).map (mj_rv G)))
            refine t_OB.to (V := updV (vp_V (fs.map (mj_rv G))) x (mj_rv G v)) ⟨_, e1, q2, q3, t_set q4 hap hk _⟩ (fun j _ => ?_)
            rw [vp_updV_set (by simpa using hlen), mj_put_eq, List.map_set]) e2 e3) (by rw [s2]; exact h1) (by rw [s1]; exact h2) (mj_locs h3 ha) hL
          rw [s1, s2] at this
          exact this
        unfold u_lay at hlay
        rcases hfin with hf | ⟨hf, hin, hdc⟩
        · rw [if_neg (by rw [hf]; decide)] at hlay
          have h6 := u_store hfc hkC hkind hlay hi (t1 x hk) n1 n2
          exact W.putK hx hb (f := f) ⟨hown, hts _ hw rfl, ⟨_, _, _, hi⟩, hst⟩ (by rw [q2]; exact h6) q1 q3 (by rw [hsl]; exact k2_hasslot (q4 x hk)) rfl rfl hd fin
        · rw [if_pos hf] at hlay
          have hcf : m.cls = cf := by
            obtain ⟨_, _, c', _, _, _, -, -, hf', -, -, -, hown2, -⟩ := Cond.laysFinal_spec hlay
            have e1 : c' = cf := by have := hi.symm.trans hf'; simp at this; exact this.1.symm
            rw [hdc] at hown2
            rw [← e1]; exact Option.some.inj (hown.symm.trans hown2)
          have h6 := u_fits hfc hkC hkind (Or.inr hlay) hi (t1 x hk) n1 n2
          exact W.putFinK hx hb hown (hts _ hw rfl) hi hst hcf (hnm hin) (by rw [q2]; exact h6) q1 q3 (by rw [hsl]; exact k2_hasslot (q4 x hk)) rfl rfl hd fin
      · cases hE
    · cases hE
  · cases hE
theorem go_gets {i x : Nat} (C : mj_Cx X) (h1 : 1 ≤ x) (h2 : x < 4) (hw : .fieldLink X.2.1.1.cls i "GrowingStacks" (mj_sn x) "[I" ∈ lw_tbl ∨ .fieldLinkNest X.2.1.1.cls i "GrowingStacks" (mj_sn x) "[I" "GrowingStacks" ∈ lw_tbl) (hd : decode X.2.1.2.1 pc = .ok (.getstatic i, 3))
    (K : mj_Go X (pc + 3) loc (.inr (some x) :: st) h) : mj_Go X pc loc st h := by
  rcases X with ⟨G, e, p, l, en, R, s, m, args, below, meth, c, h0, Q⟩
  obtain ⟨hx, hb, hml, hr, hown, hlk, hnm, hts, hK, hR0, hsz, hol⟩ := C
  intro H locs ls hR q1 q2 q3 hL
  have hZ := (hK.2.2.2.2 x h1 h2).kept (H1 := s.heap) fun q hq hA => hR0.2.2.2.2 q (by rw [← hsz]; exact hq)
  have hS := hR0.S hR q1 q3
  have := K H locs ls hR q1 q2 q3 hL
  rw [List.map_cons, show mj_rv G (.inr (some x)) = .ref (G.2.2.1 x) by show Value.ref (mj_ad G x) = _; unfold mj_ad; rw [if_pos h2]] at this
  rcases hw with hw | hw
  · exact va_gets hx hb hZ hS hown (hts _ hw rfl) (fun _ h9 => h9) hd this
  · exact va_getsN hx hb hZ hS hown ((hK.2.1 _ hw rfl).use rfl) (fun _ h9 => h9) hd this
theorem mj_dfl_len {V : Type} (O : mj_O V) (ks : List Nat) : (mj_dfl O ks).length = ks.length := by
  induction ks with
  | nil => rfl
  | cons k ks ih => show (mj_dfl O ks).length + 1 = _; rw [ih]; rfl
theorem mj_dfl_cons {V : Type} (O : mj_O V) (k : Nat) (ks : List Nat) : mj_dfl O (k :: ks) = (match k with
    | 2 => (Sum.inr none : mj_v V)
    | _ => Sum.inl (O.1 0)) :: mj_dfl O ks := rfl
theorem mj_dfl_get {V : Type} (O : mj_O V) (ks : List Nat) : ∀ j, j < ks.length → (mj_dfl O ks)[j]? = some (if ks.getD j 0 = 2 then .inr none else .inl (O.1 0)) := by
  induction ks with
  | nil => intro j hj; simp at hj
  | cons k ks ih =>
    intro j hj
    rw [mj_dfl_cons]
    cases j with
    | zero =>
      rw [List.getElem?_cons_zero, List.getD_cons_zero]
      by_cases h2 : k = 2
      · subst h2; rfl
      · rw [if_neg h2]
        split
        · exact absurd rfl h2
        · rfl
    | succ j =>
      rw [List.getElem?_cons_succ, List.getD_cons_succ]
      exact ih j (by simpa using hj)
theorem mj_dk_spec {k : Nat} {ty : FieldType} (h : mj_dk k (some ty) = true) (G : mj_G) : defaultValue ty = mj_rv G (if k = 2 then .inr none else .inl (Int32.ofInt 0)) := by
  unfold mj_dk at h
  split at h
  · simp only [decide_eq_true_eq] at h
    unfold mj_kd at h
    split at h <;> first | (cases h; done) | skip
    all_goals
      rename_i heq
      cases heq
      rfl
  · rename_i hk
    simp only [Bool.or_eq_true, decide_eq_true_eq] at h
    rw [if_neg (fun q => hk q)]
    unfold mj_kd at h
    split at h <;> first | (rcases h with h | h <;> cases h; done) | skip
    all_goals
      rename_i heq
      cases heq
      rfl
theorem go_new {i x p1 p2 p3 : Nat} {ks : List Nat} {C0 : String} {T : u_T} {N : Nat} (C : mj_Cx X) (hcl : vwCl[x]? = some (C0, T, N)) (w1 : .classLink X.2.1.1.cls i C0 ∈ lw_tbl) (w2 : .instantiable C0 N ∈ lw_tbl) (w3 : .initialized C0 ∈ lw_tbl) (hks : ks.length = N) (hdk : ∀ j, j < N → mj_dk (ks.getD j 0) (parseFieldDescriptor (T j).2.2.1) = true) (hd : decode X.2.1.2.1 pc = .ok (.new i, 3))
    (hE : mj_new mj_I x (p1 :: p2 :: p3 :: ks) loc st h kn none = some R0) (Gr : ∀ loc' st' h1, kn loc' st' h1 = some R0 → h1.length - X.2.2.2.2.2.2.2.2.2.2.2.2.1.length ≤ X.2.2.2.2.2.1.cells ∧ mj_sz h1 - mj_sz X.2.2.2.2.2.2.2.2.2.2.2.2.1 ≤ X.2.2.2.2.2.1.slots) (K : ∀ loc' st' h1, kn loc' st' h1 = some R0 → mj_Go X (pc + 3) loc' st' h1) : mj_Go X pc loc st h := by
  rcases X with ⟨G, e, p, l, en, R, s, m, args, below, meth, c, h0, Q⟩
  obtain ⟨hx, hb, hml, hr, hown, hlk, hnm, hts, hK, hR0, hsz, hol⟩ := C
  obtain ⟨ty, t1, t2, t3⟩ := mj_vw hcl
  have hE : kn loc (.inr (some (mj_len h)) :: st) (mj_app h (.inr (.inr (x, mj_dfl mj_I ks)))) = some R0 := hE
  have hKn := hK.1.1 x _ hcl
  obtain ⟨s1, s2⟩ := mj_sz_app (h := h) (c' := .inr (.inr (x, mj_dfl mj_I ks)))
  obtain ⟨r1, r2⟩ := Gr _ _ _ hE
  have hcs : mj_csz (.inr (.inr (x, mj_dfl mj_I ks)) : mj_c Int32) = N := by show (mj_dfl mj_I ks).length = N; rw [mj_dfl_len, hks]
  rw [s2] at r1
  rw [s1, hcs] at r2
  intro H locs ls hR h1 h2 h3 hL
  dsimp only at r1 r2
  refine W.newcK hx hb hown (hts _ w1 rfl) (hts _ w2 rfl) (hts _ w3 rfl) rfl hd (by omega) (by omega) hKn.2.1 rfl fun H1 kC hkC e1 z1 o1 => ?_
  have := K _ _ _ hE H1 locs ls (hR.push (by
    refine ⟨_, hcl, (u_born ty (mj_hts hts) t3 hKn hkC e1 t1).to fun j hj => ?_⟩
    show _ = vp_V ((mj_dfl mj_I ks).map (mj_rv G)) j
    have hq := mj_dfl_get mj_I ks j (by rw [hks]; exact hj)
    unfold vp_V
    rw [List.getD_eq_getElem?_getD, List.getElem?_map, hq]
    have hz := hdk j hj
    rw [t1 j hj] at hz
    exact mj_dk_spec hz G) z1 o1) (by rw [s2]; omega) (by rw [s1]; omega) h3 hL
  rw [s1, s2, hcs, List.map_cons, show mj_rv G (.inr (some (mj_len h))) = .ref H.size by
    show Value.ref (mj_ad G (mj_len h)) = _
    rw [mj_len_eq, mj_ad_ge hR.1, hR.2.2.1]] at this
  rw [show h.length - h0.length + 1 = h.length + 1 - h0.length by omega, show mj_sz h - mj_sz h0 + N = mj_sz h + N - mj_sz h0 by omega]
  exact this
theorem go_newa {t : ArrayType} {tag : Nat} (ht : (t = .int ∧ tag = 0) ∨ (t = .boolean ∧ tag = 1)) (C : mj_Cx X) (w1 : .arrayClass (newarray.typeOf t) ∈ lw_tbl) (hd : decode X.2.1.2.1 pc = .ok (.newarray t, 2))
    (hE : mj_newa mj_I loc st h kn none tag = some R0) (Gr : ∀ loc' st' h1, kn loc' st' h1 = some R0 → h1.length - X.2.2.2.2.2.2.2.2.2.2.2.2.1.length ≤ X.2.2.2.2.2.1.cells ∧ mj_sz h1 - mj_sz X.2.2.2.2.2.2.2.2.2.2.2.2.1 ≤ X.2.2.2.2.2.1.slots) (K : ∀ loc' st' h1, kn loc' st' h1 = some R0 → mj_Go X (pc + 2) loc' st' h1) : mj_Go X pc loc st h := by
  rcases X with ⟨G, e, p, l, en, R, s, m, args, below, meth, c, h0, Q⟩
  obtain ⟨hx, hb, hml, hr, hown, hlk, hnm, hts, hK, hR0, hsz, hol⟩ := C
  unfold mj_newa at hE
  split at hE
  · rename_i a rest
    split at hE
    · rename_i n hn
      have hn : a.toInt = Int.ofNat n := Option.some.inj hn
      obtain ⟨n1, n2⟩ := mj_ofNat hn
      split at hE
      · rename_i hle
        have hle := Nat.le_of_ble_eq_true hle
        obtain ⟨s1, s2⟩ := mj_sz_app (h := h) (c' := .inl (tag, n, fun _ => mj_I.1 0))
        obtain ⟨r1, r2⟩ := Gr _ _ _ hE
        have hcs : mj_csz (.inl (tag, n, fun _ => mj_I.1 0) : mj_c Int32) = n := rfl
        rw [s2] at r1
        rw [s1, hcs] at r2
        intro H locs ls hR h1 h2 h3 hL
        dsimp only at r1 r2
        refine va_newaK hx hb (hts _ w1 rfl) rfl hd rfl n1 n2 (by rcases ht with ⟨rfl, -⟩ | ⟨rfl, -⟩ <;> simp [newarray.typeOf, componentBytes] <;> omega) (by omega) (by omega) rfl fun H1 cA e1 z1 o1 hAr hNm => ?_
        have := K _ _ _ hE H1 locs ls (hR.push (by
          show H1[H.size]? = some (vp_cell _ _)
          rw [e1, vp_cell_i]
          rcases ht with ⟨rfl, rfl⟩ | ⟨rfl, rfl⟩
          · have hcA : G.2.2.2.2.1 = cA := Option.some.inj (((hK.1.2 0 _ rfl).2).symm.trans hNm)
            rw [← hcA]
            rfl
          · have hcA : G.2.2.2.2.2.1 = cA := Option.some.inj (((hK.1.2 1 _ rfl).2).symm.trans hNm)
            rw [← hcA]
            rfl) z1 o1) (by rw [s2]; omega) (by rw [s1]; omega) h3 hL
        rw [s1, s2, hcs, List.map_cons, show mj_rv G (.inr (some (mj_len h))) = .ref H.size by
          show Value.ref (mj_ad G (mj_len h)) = _
          rw [mj_len_eq, mj_ad_ge hR.1, hR.2.2.1]] at this
        rw [show h.length - h0.length + 1 = h.length + 1 - h0.length by omega, show mj_sz h - mj_sz h0 + n = mj_sz h + n - mj_sz h0 by omega]
        exact this
      · cases hE
    · cases hE
  · cases hE
theorem go_anew {i : Nat} (C : mj_Cx X) (w1 : .classLink X.2.1.1.cls i "GrowingStacks$Task" ∈ lw_tbl) (hd : decode X.2.1.2.1 pc = .ok (.anewarray i, 3))
    (hE : mj_anew mj_I loc st h kn none = some R0) (Gr : ∀ loc' st' h1, kn loc' st' h1 = some R0 → h1.length - X.2.2.2.2.2.2.2.2.2.2.2.2.1.length ≤ X.2.2.2.2.2.1.cells ∧ mj_sz h1 - mj_sz X.2.2.2.2.2.2.2.2.2.2.2.2.1 ≤ X.2.2.2.2.2.1.slots) (K : ∀ loc' st' h1, kn loc' st' h1 = some R0 → mj_Go X (pc + 3) loc' st' h1) : mj_Go X pc loc st h := by
  rcases X with ⟨G, e, p, l, en, R, s, m, args, below, meth, c, h0, Q⟩
  obtain ⟨hx, hb, hml, hr, hown, hlk, hnm, hts, hK, hR0, hsz, hol⟩ := C
  unfold mj_anew at hE
  split at hE
  · rename_i a rest
    split at hE
    · rename_i n hn
      have hn : a.toInt = Int.ofNat n := Option.some.inj hn
      obtain ⟨n1, n2⟩ := mj_ofNat hn
      split at hE
      · rename_i hle
        have hle := Nat.le_of_ble_eq_true hle
        obtain ⟨s1, s2⟩ := mj_sz_app (h := h) (c' := .inr (.inl (n, fun _ => none)))
        obtain ⟨r1, r2⟩ := Gr _ _ _ hE
        have hcs : mj_csz (.inr (.inl (n, fun _ => none)) : mj_c Int32) = n := rfl
        rw [s2] at r1
        rw [s1, hcs] at r2
        intro H locs ls hR h1 h2 h3 hL
        dsimp only at r1 r2
        refine W.anew hx hb hown (hts _ w1 rfl) hK.2.2.1.use rfl hd rfl n1 (by omega) (by omega) (by rw [n2]; omega) fun cA kA comp a1 a2 a3 a4 => ?_
        rw [n2]
        have := K _ _ _ hE (H.push { cls := cA, slots := Array.replicate n .null, vm := .none }) locs ls (hR.push (by
          show (H.push _)[H.size]? = some (vp_cell _ _)
          rw [vp_cell_q]
          obtain ⟨kA', comp', b1, b2, b3, b4⟩ := (hK.1.2 2 _ rfl).2
          have hcA : G.2.2.2.2.2.2.1 = cA := Option.some.inj (b4.symm.trans a1)
          rw [← hcA, Array.getElem?_push_size]
          unfold arrV
          congr 2
          apply Array.ext
          · simp
          · intro j q1 q2
            simp [va_rf]) (by simp) (fun q hq => by rw [Array.getElem?_push_lt hq, Array.getElem?_eq_getElem hq])) (by rw [s2]; omega) (by rw [s1]; omega) h3 hL
        rw [s1, s2, hcs, List.map_cons, show mj_rv G (.inr (some (mj_len h))) = .ref H.size by
          show Value.ref (mj_ad G (mj_len h)) = _
          rw [mj_len_eq, mj_ad_ge hR.1, hR.2.2.1]] at this
        rw [show h.length - h0.length + 1 = h.length + 1 - h0.length by omega, show mj_sz h - mj_sz h0 + n = mj_sz h + n - mj_sz h0 by omega]
        exact this
      · cases hE
    · cases hE
  · cases hE
end
