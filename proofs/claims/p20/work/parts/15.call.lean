/-! ===== what the induction needs of the code: first rows, constructors, Math.max and min ===== -/
theorem mj_zero_all : (mj_mt.all fun e => match e.2.2.2.2.2.2.2 with
  | r :: _ => decide (r.1 = 0)
  | [] => false) = true := by decide +kernel
theorem mj_zero (e : mj_e) (he : e ∈ mj_mt) : match e.2.2.2.2.2.2.2 with
  | r :: _ => r.1 = 0
  | [] => False := by
  have h := List.all_eq_true.mp mj_zero_all e he
  split at h
  · simpa using h
  · cases h
theorem mj_init_all : (mj_mt.all fun e => decide (e.2.2.2.2.1 ≠ 1) || match e.2.2.2.2.2.2.2 with
  | (_, .aload_n 0, _, _) :: _ => true
  | _ => false) = true := by decide +kernel
theorem mj_init_this {N d k : Nat} {e : mj_e} {a1 : mj_v Int32} {as : List (mj_v Int32)} {h : mj_h Int32} {R0 : Option (mj_v Int32) × mj_h Int32} (hk : e.2.2.2.2.1 = 1) (he : mj_mt[k]? = some e) (hE : mj_exec mj_I mj_cds N d e.2.2.2.2.2.2.2 e.2.2.2.2.2.2.2 (mj_ent e.2.2.1 (a1 :: as)) [] h = some R0) : ∃ a0, a1 = .inr (some a0) := by
  have h1 := List.all_eq_true.mp mj_init_all e (List.mem_of_getElem? he)
  rw [hk, show decide (1 ≠ 1) = false from rfl, Bool.false_or] at h1
  cases N with
  | zero =>
    have hE : (none : Option (Option (mj_v Int32) × mj_h Int32)) = some R0 := hE
    cases hE
  | succ N =>
    split at h1
    · rename_i pc x xs tl heq
      rw [heq, mj_exec_succ] at hE
      have hE : mj_aload (mj_ent e.2.2.1 (a1 :: as)) [] h _ none 0 = some R0 := hE
      unfold mj_aload at hE
      rw [mj_nth_eq] at hE
      split at hE
      · rename_i a hq
        have := mj_ent_get _ _ _ _ hq
        simp at this
        exact ⟨a, this⟩
      · cases hE
    · cases h1
theorem mj_max_run {N d : Nat} {as : List (mj_v Int32)} {h h2 : mj_h Int32} {v : Option (mj_v Int32)} (hl : as.length = 2) (hE : mj_exec mj_I mj_cds N d kJ9_max_7cf53 kJ9_max_7cf53 (mj_ent 2 as) [] h = some (v, h2)) : ∃ a b, as = [.inl a, .inl b] ∧ v = some (.inl (if a < b then b else a)) ∧ h2 = h := by
  match as, hl with
  | [p, q], _ =>
    have no : ∀ n, n < 3 → mj_exec mj_I mj_cds n d kJ9_max_7cf53 kJ9_max_7cf53 (mj_ent 2 [p, q]) [] h = none := by
      intro n hn
      rcases n with _ | _ | _ | n
      · rfl
      · rcases p with a | p' <;> rfl
      · rcases p with a | p' <;> rcases q with b | q' <;> rfl
      · omega
    rcases N with _ | _ | _ | n
    · rw [no 0 (by decide)] at hE; cases hE
    · rw [no 1 (by decide)] at hE; cases hE
    · rw [no 2 (by decide)] at hE; cases hE
    rcases p with a | p'
    · rcases q with b | q'
      · refine ⟨a, b, rfl, ?_⟩
        have e3 : mj_exec mj_I mj_cds (n + 3) d kJ9_max_7cf53 kJ9_max_7cf53 (mj_ent 2 [.inl a, .inl b]) [] h = (match some (mj_cm .lt a b) with
          | some true => mj_exec mj_I mj_cds n d kJ9_max_7cf53 (mj_drop 5 kJ9_max_7cf53) [some (.inl a), some (.inl b)] [] h
          | some false => mj_exec mj_I mj_cds n d kJ9_max_7cf53 (mj_drop 3 kJ9_max_7cf53) [some (.inl a), some (.inl b)] [] h
          | none => none) := rfl
        rw [e3] at hE
        by_cases hab : a < b
        · have hcm : mj_cm .lt a b = true := by simp [mj_cm, hab]
          rw [hcm] at hE
          rw [if_pos hab]
          rcases n with _ | _ | n
          · cases hE
          · cases hE
          · have hE : some (some (Sum.inl b), h) = some (v, h2) := hE
            cases hE
            exact ⟨rfl, rfl⟩
        · have hcm : mj_cm .lt a b = false := by simp [mj_cm, hab]; try exact Int32.not_lt.mp hab
          rw [hcm] at hE
          rw [if_neg hab]
          rcases n with _ | _ | _ | n
          · cases hE
          · cases hE
          · cases hE
          · have hE : some (some (Sum.inl a), h) = some (v, h2) := hE
            cases hE
            exact ⟨rfl, rfl⟩
      · have hE : (none : Option (Option (mj_v Int32) × mj_h Int32)) = some (v, h2) := hE
        cases hE
    · have hE : (none : Option (Option (mj_v Int32) × mj_h Int32)) = some (v, h2) := hE
      cases hE
theorem mj_min_run {N d : Nat} {as : List (mj_v Int32)} {h h2 : mj_h Int32} {v : Option (mj_v Int32)} (hl : as.length = 2) (hE : mj_exec mj_I mj_cds N d kJ9_min_7cf53 kJ9_min_7cf53 (mj_ent 2 as) [] h = some (v, h2)) : ∃ a b, as = [.inl a, .inl b] ∧ v = some (.inl (if b < a then b else a)) ∧ h2 = h := by
  match as, hl with
  | [p, q], _ =>
    have no : ∀ n, n < 3 → mj_exec mj_I mj_cds n d kJ9_min_7cf53 kJ9_min_7cf53 (mj_ent 2 [p, q]) [] h = none := by
      intro n hn
      rcases n with _ | _ | _ | n
      · rfl
      · rcases p with a | p' <;> rfl
      · rcases p with a | p' <;> rcases q with b | q' <;> rfl
      · omega
    rcases N with _ | _ | _ | n
    · rw [no 0 (by decide)] at hE; cases hE
    · rw [no 1 (by decide)] at hE; cases hE
    · rw [no 2 (by decide)] at hE; cases hE
    rcases p with a | p'
    · rcases q with b | q'
      · refine ⟨a, b, rfl, ?_⟩
        have e3 : mj_exec mj_I mj_cds (n + 3) d kJ9_min_7cf53 kJ9_min_7cf53 (mj_ent 2 [.inl a, .inl b]) [] h = (match some (mj_cm .gt a b) with
          | some true => mj_exec mj_I mj_cds n d kJ9_min_7cf53 (mj_drop 5 kJ9_min_7cf53) [some (.inl a), some (.inl b)] [] h
          | some false => mj_exec mj_I mj_cds n d kJ9_min_7cf53 (mj_drop 3 kJ9_min_7cf53) [some (.inl a), some (.inl b)] [] h
          | none => none) := rfl
        rw [e3] at hE
        by_cases hab : b < a
        · have hcm : mj_cm .gt a b = true := by simp [mj_cm, hab]
          rw [hcm] at hE
          rw [if_pos hab]
          rcases n with _ | _ | n
          · cases hE
          · cases hE
          · have hE : some (some (Sum.inl b), h) = some (v, h2) := hE
            cases hE
            exact ⟨rfl, rfl⟩
        · have hcm : mj_cm .gt a b = false := by simp [mj_cm, hab]; try exact Int32.not_lt.mp hab
          rw [hcm] at hE
          rw [if_neg hab]
          rcases n with _ | _ | _ | n
          · cases hE
          · cases hE
          · cases hE
          · have hE : some (some (Sum.inl a), h) = some (v, h2) := hE
            cases hE
            exact ⟨rfl, rfl⟩
      · have hE : (none : Option (Option (mj_v Int32) × mj_h Int32)) = some (v, h2) := hE
        cases hE
    · have hE : (none : Option (Option (mj_v Int32) × mj_h Int32)) = some (v, h2) := hE
      cases hE
theorem mj_mt_250 : mj_mt[250]? = some eJ9_max_7cf53 := by rw [mj_mt_app, List.getElem?_append_right (by rw [mj_mtA_len]; decide), mj_mtA_len]; rfl
theorem mj_mt_251 : mj_mt[251]? = some eJ9_min_7cf53 := by rw [mj_mt_app, List.getElem?_append_right (by rw [mj_mtA_len]; decide), mj_mtA_len]; rfl
theorem mj_nonest : (lw_tbl.all fun w => match w with
  | .methodLinkNest _ _ y _ => decide (y.cls ≠ "java/lang/Math")
  | _ => true) = true := by decide +kernel
theorem mj_no_max {o h : String} {i : Nat} : ¬ (.methodLinkNest o i eJ9_max_7cf53.1 h : Jvm.Cond) ∈ lw_tbl := by
  intro q
  have h2 : decide (eJ9_max_7cf53.1.cls ≠ "java/lang/Math") = true := List.all_eq_true.mp mj_nonest _ q
  exact absurd h2 (by decide +kernel)
theorem mj_no_min {o h : String} {i : Nat} : ¬ (.methodLinkNest o i eJ9_min_7cf53.1 h : Jvm.Cond) ∈ lw_tbl := by
  intro q
  have h2 : decide (eJ9_min_7cf53.1.cls ≠ "java/lang/Math") = true := List.all_eq_true.mp mj_nonest _ q
  exact absurd h2 (by decide +kernel)
/-! ===== the induction ===== -/
/-- what is shown of all runs of a fuel -/
def mj_IH (N : Nat) : Prop := ∀ (d : Nat) (X : mj_X) (i : Nat) (suf : List mj_r) (loc : mj_l Int32) (st : mj_s Int32) (h : mj_h Int32) (r1 : Option (mj_v Int32)) (h1 : mj_h Int32), mj_Cx X → X.2.1 ∈ mj_mt → suf = X.2.1.2.2.2.2.2.2.2.drop i → mj_exec mj_I mj_cds N d X.2.1.2.2.2.2.2.2.2 suf loc st h = some (r1, h1) →
  d + 1 ≤ X.2.2.2.2.2.1.frames → 64 * (d + 1) ≤ X.2.2.2.2.2.1.locals → h1.length - X.2.2.2.2.2.2.2.2.2.2.2.2.1.length ≤ X.2.2.2.2.2.1.cells → mj_sz h1 - mj_sz X.2.2.2.2.2.2.2.2.2.2.2.2.1 ≤ X.2.2.2.2.2.1.slots → mj_End X r1 h1 → ∃ r tl, suf = r :: tl ∧ mj_Go X r.1 loc st h
theorem mj_cds_mt : mj_cds = mj_mt.map fun e => e.2.2.2.2.2.2.2 := by decide +kernel
theorem mj_cds_get {k : Nat} {cd : List mj_r} (h : mj_cds[k]? = some cd) : ∃ e, mj_mt[k]? = some e ∧ e.2.2.2.2.2.2.2 = cd := by
  rw [mj_cds_mt, List.getElem?_map] at h
  obtain ⟨e, h1, h2⟩ := Option.map_eq_some_iff.mp h
  exact ⟨e, h1, h2⟩
/-- the contract of a callee out of its run -/
theorem mj_callee {N : Nat} (ih : mj_IH N) {G : mj_G} {l : Launch} {k d : Nat} {e : mj_e} {as : List (mj_v Int32)} {h : mj_h Int32} {r : Option (mj_v Int32)} {h1 : mj_h Int32} (hk : mj_mt[k]? = some e) (hM : mj_Mok e) (hsz : G.2.1.size = G.1) (hol : ∀ a, a < 4 → ∃ (n : Nat) (f : Nat → Int32), G.2.2.2.2.2.2.2[a]? = some (.inl (0, n, f))) (hlen : as.length ≤ e.2.2.1)
    (hE : mj_exec mj_I mj_cds N d e.2.2.2.2.2.2.2 e.2.2.2.2.2.2.2 (mj_ent e.2.2.1 as) [] h = some (r, h1)) : mj_Met G l e d as h r h1 := by
  refine mj_met hM hsz hol hlen fun p en s m args below meth c Q C E => ?_
  obtain ⟨r0, tl, h2, h3⟩ := ih d (G, e, p, l, en, mj_rm d (h1.length - h.length) (mj_sz h1 - mj_sz h), s, m, args, below, meth, c, h, Q) 0 e.2.2.2.2.2.2.2 (mj_ent e.2.2.1 as) [] h r h1 C (List.mem_of_getElem? hk) rfl hE (Nat.le_refl _) (Nat.le_refl _) (Nat.le_refl _) (Nat.le_refl _) E
  have h0 : r0.1 = 0 := by
    have hz := mj_zero e (List.mem_of_getElem? hk)
    rw [h2] at hz
    exact hz
  rw [h0] at h3
  exact h3
theorem mj_call_go {N d : Nat} (ih : mj_IH N) {X : mj_X} {kind i x pc : Nat} {xs : List Nat} {loc : mj_l Int32} {st : mj_s Int32} {h : mj_h Int32} {tl : List mj_r} {R0 : Option (mj_v Int32) × mj_h Int32} (C : mj_Cx X) (hf : d + 1 ≤ X.2.2.2.2.2.1.frames) (hl : 64 * (d + 1) ≤ X.2.2.2.2.2.1.locals)
    (hok : mj_okc X.2.1 kind i x xs = true) (hd : (kind = 0 ∧ decode X.2.1.2.1 pc = .ok (.invokevirtual i, 3)) ∨ (kind = 1 ∧ decode X.2.1.2.1 pc = .ok (.invokespecial i, 3)) ∨ (kind = 2 ∧ decode X.2.1.2.1 pc = .ok (.invokestatic i, 3)))
    (hE : mj_call x xs st h (mj_kc (mj_exec mj_I mj_cds N) mj_cds d X.2.1.2.2.2.2.2.2.2 tl loc h) none = some R0)
    (Gr : ∀ loc' st' h', mj_exec mj_I mj_cds N d X.2.1.2.2.2.2.2.2.2 tl loc' st' h' = some R0 → h'.length - X.2.2.2.2.2.2.2.2.2.2.2.2.1.length ≤ X.2.2.2.2.2.1.cells ∧ mj_sz h' - mj_sz X.2.2.2.2.2.2.2.2.2.2.2.2.1 ≤ X.2.2.2.2.2.1.slots)
    (K : ∀ loc' st' h', mj_exec mj_I mj_cds N d X.2.1.2.2.2.2.2.2.2 tl loc' st' h' = some R0 → mj_Go X (pc + 3) loc' st' h') : mj_Go X pc loc st h := by
  unfold mj_call at hE
  split at hE
  · rename_i n ml recv xs0
    split at hE
    · rename_i as rest ha
      obtain ⟨bs, b1, b2, b3⟩ := mj_args_spec n st [] as rest ha
      rw [List.append_nil] at b3
      have hbs : bs = as.reverse := by rw [b3, List.reverse_reverse]
      have halen : as.length = n := by rw [b3, List.length_reverse, b1]
      subst b2
      have fin : ∀ (hrest : rest.length ≤ 8) (hrec : recv = 0 ∨ ∃ ci a0 as', recv = ci + 1 ∧ as = .inr (some a0) :: as' ∧ mj_isof h ci (.inr (some a0)) = true), mj_kc (mj_exec mj_I mj_cds N) mj_cds d X.2.1.2.2.2.2.2.2.2 tl loc h x ml as rest = some R0 → mj_Go X pc loc (bs ++ rest) h := by
        intro hrest hrec hE
        obtain ⟨d', cd', v, h2, rfl, hcd, e1, e2⟩ := mj_kc_spec hE
        obtain ⟨e', he', rfl⟩ := mj_cds_get hcd
        rw [← mj_nth_eq] at hcd
        rcases X with ⟨G, e, p, l, en, R, s, m, args, below, meth, c, h0, Q⟩
        obtain ⟨hx, hb, hml, hr, hown, hlk, hnm, hts, hK, hR0, hsz, hol⟩ := C
        unfold mj_okc at hok
        cases xs0 with
        | nil => cases hok
        | cons pw xs0 =>
          cases xs0 with
          | nil => cases hok
          | cons nest xs0 =>
            dsimp only at hok hf hl Gr hd K e1 e2
            rw [he'] at hok
            simp only [Bool.and_eq_true, decide_eq_true_eq] at hok
            obtain ⟨⟨⟨⟨⟨k1, k2⟩, k3⟩, k4⟩, k5⟩, k6⟩ := hok
            have hgrow := mj_grow _ _ _ _ _ _ _ _ _ e1
            have hgr := Gr _ _ _ e2
            by_cases hmm : x = 250 ∨ x = 251
            · rcases hmm with rfl | rfl
              · obtain rfl : eJ9_max_7cf53 = e' := Option.some.inj ((show mj_mt[250]? = some eJ9_max_7cf53 from mj_mt_250).symm.trans he')
                obtain rfl : 2 = kind := k2
                obtain rfl : ml = 2 := k4
                have hd : decode e.2.1 pc = .ok (.invokestatic i, 3) := by
                  rcases hd with ⟨q, -⟩ | ⟨q, -⟩ | ⟨-, q⟩
                  · cases q
                  · cases q
                  · exact q
                have hw : (.methodLink e.1.cls i Lib.Math.max.name : Jvm.Cond) ∈ lw_tbl := by
                  by_cases hn : nest = 0
                  · rw [if_pos hn, decide_eq_true_eq] at k6
                    exact mj_at_mem k6
                  · rw [if_neg hn, decide_eq_true_eq] at k6
                    exact absurd (mj_at_mem k6) mj_no_max
                obtain ⟨a, b, rfl, rfl, rfl⟩ := mj_max_run (by rw [halen, k3]; rfl) e1
                subst hbs
                exact go_max (X := (G, e, p, l, en, R, s, m, args, below, meth, c, h0, Q)) ⟨hx, hb, hml, hr, hown, hlk, hnm, hts, hK, hR0, hsz, hol⟩ (show 1 ≤ R.frames by omega) (show 64 ≤ R.locals by omega) hgr hw hd rfl hrest (K _ _ _ e2)
              · obtain rfl : eJ9_min_7cf53 = e' := Option.some.inj ((show mj_mt[251]? = some eJ9_min_7cf53 from mj_mt_251).symm.trans he')
                obtain rfl : 2 = kind := k2
                obtain rfl : ml = 2 := k4
                have hd : decode e.2.1 pc = .ok (.invokestatic i, 3) := by
                  rcases hd with ⟨q, -⟩ | ⟨q, -⟩ | ⟨-, q⟩
                  · cases q
                  · cases q
                  · exact q
                have hw : (.methodLink e.1.cls i Lib.Math.min.name : Jvm.Cond) ∈ lw_tbl := by
                  by_cases hn : nest = 0
                  · rw [if_pos hn, decide_eq_true_eq] at k6
                    exact mj_at_mem k6
                  · rw [if_neg hn, decide_eq_true_eq] at k6
                    exact absurd (mj_at_mem k6) mj_no_min
                obtain ⟨a, b, rfl, rfl, rfl⟩ := mj_min_run (by rw [halen, k3]; rfl) e1
                subst hbs
                exact go_min (X := (G, e, p, l, en, R, s, m, args, below, meth, c, h0, Q)) ⟨hx, hb, hml, hr, hown, hlk, hnm, hts, hK, hR0, hsz, hol⟩ (show 1 ≤ R.frames by omega) (show 64 ≤ R.locals by omega) hgr hw hd rfl hrest (K _ _ _ e2)
            · have hM : mj_Mok e' := mj_allm he' k1 (fun q => hmm (Or.inl q)) (fun q => hmm (Or.inr q))
              obtain ⟨o1, o2, o3, o4, o5, o6, o7, o8, o9, o10, o11⟩ := mj_okm_spec hM
              rw [k4] at e1
              have hM2 : mj_Met G l e' d' as h v h2 := mj_callee ih he' hM hsz hol (by rw [halen, k3, k2.symm]; exact o8) e1
              unfold mj_Met at hM2
              have hsig : ∀ sig, parseMethodDescriptor e'.1.desc = some sig → e'.2.2.2.2.2.1 = sig.parameters.length := by
                intro sig hs
                rw [hs] at o6
                exact (Option.some.inj o6).symm
              intro H locs ls hR q1 q2 q3 hL
              have hroom : (mj_rm d' (h2.length - h.length) (mj_sz h2 - mj_sz h)).frames + 1 ≤ R.frames ∧ 8 + (e'.2.2.1 + 11) + (mj_rm d' (h2.length - h.length) (mj_sz h2 - mj_sz h)).locals ≤ R.locals := by
                constructor
                · show d' + 1 + 1 ≤ R.frames; omega
                · show 8 + (e'.2.2.1 + 11) + 64 * (d' + 1) ≤ R.locals; omega
              have hfit : h.length - h0.length + (h2.length - h.length) ≤ R.cells ∧ mj_sz h - mj_sz h0 + (mj_sz h2 - mj_sz h) ≤ R.slots := by omega
              have hcw : (.code e'.1 e'.2.1 e'.2.2.1 e'.2.2.2.1 : Jvm.Cond) ∈ mj_wm e' := List.mem_cons_self
              have hpc : ∀ U : State, U.heap = H → s.WarmedH U.vm → mj_Pc G as h (as.map (mj_rv G)).toArray U := fun U hU hW => ⟨rfl, by rw [hU]; exact hR, hK.moved hW⟩
              have hstk : (bs ++ rest).map (mj_rv G) = (as.map (mj_rv G)).reverse ++ rest.map (mj_rv G) := by rw [List.map_append, hbs, List.map_reverse]
              have hWl : 2 * (F0 m pc ls ((bs ++ rest).map (mj_rv G))).monitorRoom + ((rest.map (mj_rv G)).map fun v => v.category).sum ≤ 8 := by
                show 2 * 0 + _ ≤ 8
                rw [mj_cat_sum]; omega
              have cont : va_Run p l en R s m args below meth c H locs (h.length - h0.length) (mj_sz h - mj_sz h0) (h2.length - h.length) (mj_sz h2 - mj_sz h) (F0 m pc ls ((bs ++ rest).map (mj_rv G))) (rest.map (mj_rv G)) (mj_Qc G v h2 (as.map (mj_rv G)).toArray) (mj_A G) → W p l en R s m args below meth c H locs (h.length - h0.length) (mj_sz h - mj_sz h0) Q (F0 m pc ls ((bs ++ rest).map (mj_rv G))) := by
                intro hrun
                refine mj_run_go hrun q3 fun H1 locs1 hR1 hl1 => ?_
                have hk := K _ _ _ e2 H1 locs1 ls hR1 (by omega) (by omega) hl1 hL
                rw [show h.length - h0.length + (h2.length - h.length) = h2.length - h0.length by omega, show mj_sz h - mj_sz h0 + (mj_sz h2 - mj_sz h) = mj_sz h2 - mj_sz h0 by omega]
                rw [List.map_append] at hk
                cases v with
                | none => exact hk
                | some w => exact hk
              have S : CallFix p m c e.2.1 e.2.2.1 s args mj_gw e.1.cls := ⟨hx, hb, hml, hown, mj_hts hts⟩
              rcases hd with ⟨rfl, hd⟩ | ⟨rfl, hd⟩ | ⟨rfl, hd⟩
              · -- an object's method
                rw [if_pos rfl] at k5
                rcases hrec with rfl | ⟨ci, a0, as', rfl, rfl, hio⟩
                · cases k5
                dsimp only at k5
                have hci : ∃ T N, vwCl[ci]? = some (e'.1.cls, T, N) := by
                  split at k5
                  · rename_i C0 T N hcl
                    rw [decide_eq_true_eq] at k5
                    rw [k5]
                    exact ⟨T, N, hcl⟩
                  · cases k5
                obtain ⟨T, Nf, hcl⟩ := hci
                obtain ⟨w1, w2⟩ := o9 k2
                have hlink : nest = 0 ∧ (.methodLink e.1.cls i e'.1 : Jvm.Cond) ∈ lw_tbl ∨ (.methodLinkNest e.1.cls i e'.1 "GrowingStacks" : Jvm.Cond) ∈ lw_tbl := by
                  by_cases hn : nest = 0
                  · rw [if_pos hn, decide_eq_true_eq] at k6
                    exact Or.inl ⟨hn, mj_at_mem k6⟩
                  · rw [if_neg hn, decide_eq_true_eq] at k6
                    exact Or.inr (mj_at_mem k6)
                unfold mj_isof at hio
                dsimp only at hio
                rw [mj_nth_eq] at hio
                split at hio
                · rename_i c1 fs hca
                  rw [Bool.and_eq_true] at hio
                  obtain rfl : c1 = ci := Nat.eq_of_beq_eq_true hio.1
                  have ha4 := Nat.le_of_ble_eq_true hio.2
                  have hrecv := va_recv hK.1 hR.2.2.2.1 hcl (mj_ws_get ha4 hca)
                  have hp : PreV s H e'.1.cls (mj_ad G a0) (mj_Pc G (.inr (some a0) :: as') h) (as'.map (mj_rv G)) := ⟨mj_blind, hrecv, hpc⟩
                  have hn : (as'.map (mj_rv G)).length = e'.2.2.2.2.2.1 := by
                    rw [List.length_map]
                    rw [List.length_cons] at halen
                    rw [k3, if_neg (by decide)] at halen
                    omega
                  have hst2 : (F0 m pc ls ((bs ++ rest).map (mj_rv G))).stack = (as'.map (mj_rv G)).reverse ++ .ref (mj_ad G a0) :: rest.map (mj_rv G) := by
                    show (bs ++ rest).map (mj_rv G) = _
                    rw [hstk, List.map_cons, List.reverse_cons, List.append_assoc]
                    rfl
                  rcases hlink with ⟨-, w3⟩ | w3
                  · exact cont (va_runV S hM2 ⟨⟨rfl, rfl, hroom.1, hroom.2, mj_pay hM hts, hcw, hts _ o1 rfl, hts _ o2 rfl, ⟨o4, o5⟩, hsig, hts _ w3 rfl⟩, hts _ w1 rfl, hts _ w2 rfl⟩ hp rfl hn hL.2.1 hst2 hWl hd hfit)
                  · exact cont (va_runVN S hM2 ⟨⟨⟨rfl, rfl, hroom.1, hroom.2, mj_pay hM hts, hcw⟩, hts _ o1 rfl, hts _ o2 rfl, ⟨o4, o5⟩, hsig, (hK.2.1 _ w3 rfl).use rfl⟩, hts _ w1 rfl, hts _ w2 rfl⟩ hp rfl hn hL.2.1 hst2 hWl hd hfit)
                · cases hio
              · -- a constructor
                rw [if_neg (by decide), decide_eq_true_eq] at k5
                obtain ⟨w1, w2, w4⟩ := o10 k2
                rw [k3, if_neg (by decide)] at halen
                cases as with
                | nil => simp at halen
                | cons a1 as' =>
                  have ha1 : ∃ a0, a1 = .inr (some a0) := mj_init_this k2 he' e1
                  obtain ⟨a0, rfl⟩ := ha1
                  rw [w4] at hcw
                  have hp : PreS s H (mj_Pc G (.inr (some a0) :: as') h) (.ref (mj_ad G a0) :: as'.map (mj_rv G)) := ⟨mj_blind, hpc⟩
                  have hn : (as'.map (mj_rv G)).length = e'.2.2.2.2.2.1 := by
                    rw [List.length_map]
                    rw [List.length_cons] at halen
                    omega
                  have hst2 : (F0 m pc ls ((bs ++ rest).map (mj_rv G))).stack = (as'.map (mj_rv G)).reverse ++ .ref (mj_ad G a0) :: rest.map (mj_rv G) := by
                    show (bs ++ rest).map (mj_rv G) = _
                    rw [hstk, List.map_cons, List.reverse_cons, List.append_assoc]
                    rfl
                  have o1' := o1
                  rw [w4] at o1'
                  by_cases hnst : nest = 0
                  · rw [if_pos hnst, decide_eq_true_eq] at k6
                    exact cont (va_runI S hM2 ⟨⟨rfl, rfl, hroom.1, hroom.2, mj_pay hM hts, hcw, hts _ o1' rfl, hts _ o2 rfl, ⟨o4, o5⟩, hsig, hts _ (mj_at_mem k6) rfl⟩, w2, hts _ w1 rfl⟩ hp rfl hn hL.2.1 hst2 hWl hd hfit)
                  · rw [if_neg hnst, decide_eq_true_eq] at k6
                    exact cont (va_runIN S hM2 ⟨⟨⟨rfl, rfl, hroom.1, hroom.2, mj_pay hM hts, hcw⟩, hts _ o1' rfl, hts _ o2 rfl, ⟨o4, o5⟩, hsig, (hK.2.1 _ (mj_at_mem k6) rfl).use rfl⟩, w2, hts _ w1 rfl⟩ hp rfl hn hL.2.1 hst2 hWl hd hfit)
              · -- a static method
                have w1 := o11 k2
                rw [k3, if_pos rfl, Nat.add_zero] at halen
                have hp : PreS s H (mj_Pc G as h) (as.map (mj_rv G)) := ⟨mj_blind, hpc⟩
                have hn : (as.map (mj_rv G)).length = e'.2.2.2.2.2.1 := by rw [List.length_map]; exact halen
                by_cases hnst : nest = 0
                · rw [if_pos hnst, decide_eq_true_eq] at k6
                  exact cont (va_runS S hM2 ⟨⟨rfl, rfl, hroom.1, hroom.2, mj_pay hM hts, hcw, hts _ o1 rfl, hts _ o2 rfl, ⟨o4, o5⟩, hsig, hts _ (mj_at_mem k6) rfl⟩, hts _ w1 rfl⟩ hp rfl hn hL.2.1 hstk hWl hd hfit)
                · rw [if_neg hnst, decide_eq_true_eq] at k6
                  exact cont (va_runSN S hM2 ⟨⟨⟨rfl, rfl, hroom.1, hroom.2, mj_pay hM hts, hcw⟩, hts _ o1 rfl, hts _ o2 rfl, ⟨o4, o5⟩, hsig, (hK.2.1 _ (mj_at_mem k6) rfl).use rfl⟩, hts _ w1 rfl, trivial⟩ hp rfl hn hL.2.1 hstk hWl hd hfit)
      split at hE
      · rename_i hle
        rw [mj_len_eq] at hle
        exact fin (Nat.le_of_ble_eq_true hle) (Or.inl rfl) hE
      · rename_i ci a1 as' hle
        rw [mj_len_eq] at hle
        split at hE
        · rename_i hio
          have : ∃ a0, a1 = .inr (some a0) := by
            unfold mj_isof at hio
            split at hio
            · exact ⟨_, rfl⟩
            · cases hio
          obtain ⟨a0, rfl⟩ := this
          exact fin (Nat.le_of_ble_eq_true hle) (Or.inr ⟨ci, a0, as', rfl, rfl, hio⟩) hE
        · cases hE
      · cases hE
    · cases hE
  · cases hE
