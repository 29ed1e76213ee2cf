/-! ===== the first state ===== -/
theorem rn_new {d : Nat} {cd tl : List mj_r} {pc x i a b c : Nat} {ks : List Nat} {loc : mj_l Int32} {st : mj_s Int32} {h : mj_h Int32} {R0 : Option (mj_v Int32) × mj_h Int32} (K : mj_Rn d cd tl loc (.inr (some (mj_len h)) :: st) (mj_app h (.inr (.inr (x, mj_dfl mj_I ks)))) R0) : mj_Rn d cd ((pc, .new i, x, a :: b :: c :: ks) :: tl) loc st h R0 := mj_Rn.step K
theorem rn_callP {d : Nat} {cd tl : List mj_r} {pc x : Nat} {xs : List Nat} {loc : mj_l Int32} {st rest : mj_s Int32} {h : mj_h Int32} {R0 : Option (mj_v Int32) × mj_h Int32} {i n ml : Nat} {as : List (mj_v Int32)} {cd' : List mj_r} {v : Option (mj_v Int32)} {h1 : mj_h Int32} (hx : Nat.beq x 100000 = false) (ha : mj_args n st [] = some (as, rest)) (hr : rest.length ≤ 8) (hcd : mj_cds[x]? = some cd') (hR : mj_Rn d cd' cd' (mj_ent ml as) [] h (v, h1)) (K : mj_Rn (d + 1) cd tl loc (v.toList ++ rest) h1 R0) : mj_Rn (d + 1) cd ((pc, .invokespecial i, x, n :: ml :: 0 :: xs) :: tl) loc st h R0 := by
  refine mj_Rn.step ?_
  show mj_spec x (n :: ml :: 0 :: xs) loc st h (fun loc st h => mj_Rn (d + 1) cd tl loc st h R0) (mj_Kc (d + 1) cd tl loc h R0) False
  unfold mj_spec
  rw [hx]
  dsimp only
  unfold mj_call
  dsimp only
  rw [ha]
  dsimp only
  rw [mj_len_eq, Nat.ble_eq_true_of_le hr]
  exact ⟨d, cd', v, h1, rfl, hcd, hR, K⟩
theorem sr_j10 : mj_cds[118]? = some kX10_init := by rw [← mj_nth_eq]; rfl
theorem sr_j11 : mj_cds[154]? = some kX11_init := by rw [← mj_nth_eq]; rfl
def iz (c : Nat) : Int32 := Int32.ofInt (sy_int c)
def sr_env (xs : Nat → Int32) : Nat → Int32 := fun j => if j < 7 then 0 else xs (j - 7)
theorem sr_env_M (xs : Nat → Int32) : sy_M (sr_env xs) [] := ⟨by
  unfold sr_env
  rw [if_pos (by omega), if_pos (by omega)]
  decide, fun i lo hi h => by rw [mj_nth_eq] at h; simp at h⟩
theorem sr_g_nat (env : Nat → Int32) (l : List Nat) (h : ∀ v ∈ l, v ≤ 1000) : (fun j => sy_g env (sy_fn l j)) = mj_fn (l.map Int32.ofNat) := by
  funext j
  unfold sy_fn mj_fn
  rw [mj_nth_eq]
  cases hj : l[j]? with
  | none =>
    rw [List.getD_eq_getElem?_getD, List.getElem?_map, hj]
    exact sr_g0 env
  | some v =>
    have hv := h v (List.mem_of_getElem? hj)
    rw [List.getD_eq_getElem?_getD, List.getElem?_map, hj]
    show sy_g env (v + 2147483648) = Int32.ofNat v
    unfold sy_g
    rw [if_pos (by omega), sy_int_eq, ← Int32.ofInt_eq_ofNat, show ((v + 2147483648 : Nat) : Int) - 2147483648 = (v : Int) by omega]
theorem sr_old_hr (xs : Nat → Int32) (L : Nat) : HR (sy_g (sr_env xs)) (.inl (0, L, xs)) sr_old (mj_old L xs) := by
  have h1 := sr_g_nat (sr_env xs) [8, 0, 0, 10, 1, 10] (by decide)
  have h2 := sr_g_nat (sr_env xs) [64, 1, 1, 80, 3, 90] (by decide)
  have h3 := sr_g_nat (sr_env xs) [16, 1, 1, 40, 1, 60] (by decide)
  refine ⟨rfl, ⟨rfl, rfl⟩, fun a c ha hc => ?_⟩
  match a, ha, hc with
  | 1, _, hc =>
    have hc : some (Sum.inl (0, 6, sy_fn [8, 0, 0, 10, 1, 10]) : mj_c Nat) = some c := hc
    cases hc
    refine ⟨_, rfl, ?_⟩
    show (Sum.inl (0, 6, mj_fn [8, 0, 0, 10, 1, 10]) : mj_c Int32) = Sum.inl (0, 6, fun j => sy_g (sr_env xs) (sy_fn [8, 0, 0, 10, 1, 10] j))
    rw [h1]; rfl
  | 2, _, hc =>
    have hc : some (Sum.inl (0, 6, sy_fn [64, 1, 1, 80, 3, 90]) : mj_c Nat) = some c := hc
    cases hc
    refine ⟨_, rfl, ?_⟩
    show (Sum.inl (0, 6, mj_fn [64, 1, 1, 80, 3, 90]) : mj_c Int32) = Sum.inl (0, 6, fun j => sy_g (sr_env xs) (sy_fn [64, 1, 1, 80, 3, 90] j))
    rw [h2]; rfl
  | 3, _, hc =>
    have hc : some (Sum.inl (0, 6, sy_fn [16, 1, 1, 40, 1, 60]) : mj_c Nat) = some c := hc
    cases hc
    refine ⟨_, rfl, ?_⟩
    show (Sum.inl (0, 6, mj_fn [16, 1, 1, 40, 1, 60]) : mj_c Int32) = Sum.inl (0, 6, fun j => sy_g (sr_env xs) (sy_fn [16, 1, 1, 40, 1, 60] j))
    rw [h3]; rfl
  | a + 4, _, hc =>
    rw [mj_nth_eq] at hc
    unfold sr_old at hc
    simp at hc
/-- both constructors have run -/
theorem sr_ran {β : Type} {xs : Nat → Int32} {L : Nat} {k : mj_h Nat → Option β} {R : β} (h : sr_two k = some R) : ∃ H1 h2 H2, k h2 = some R ∧ HR (sy_g (sr_env xs)) (.inl (0, L, xs)) h2 H2 ∧ mj_len H1 = 110 ∧
    mj_Rn 29 kX10_init kX10_init (mj_ent 4 [.inr (some 4)]) [] (mj_app (mj_old L xs) (.inr (.inr (10, mj_dfl mj_I [2, 2, 2, 2, 2, 2, 0])))) (none, H1) ∧
    mj_Rn 29 kX11_init kX11_init (mj_ent 2 [.inr (some 110)]) [] (mj_app H1 (.inr (.inr (11, mj_dfl mj_I [2, 2, 2, 2, 0, 0, 2, 2, 2, 0, 0, 0, 0, 0, 2])))) (none, H2) := by
  have hh := sr_old_hr xs L
  have e10 : hcl (sy_g (sr_env xs)) sr_o10 (.inr (.inr (10, mj_dfl mj_I [2, 2, 2, 2, 2, 2, 0]))) := by
    show (Sum.inr (Sum.inr (10, mj_dfl mj_I [2, 2, 2, 2, 2, 2, 0])) : mj_c Int32) = Sum.inr (Sum.inr (10, mg_s (sy_g (sr_env xs)) (mj_dfl (sy_O []) [2, 2, 2, 2, 2, 2, 0])))
    rw [mg_dfl (g := sy_g (sr_env xs)) (O := sy_O []) (O' := mj_I) (sy_inj_spec (sr_env xs))]
  have e11 : hcl (sy_g (sr_env xs)) sr_o11 (.inr (.inr (11, mj_dfl mj_I [2, 2, 2, 2, 0, 0, 2, 2, 2, 0, 0, 0, 0, 0, 2]))) := by
    show (Sum.inr (Sum.inr (11, mj_dfl mj_I [2, 2, 2, 2, 0, 0, 2, 2, 2, 0, 0, 0, 0, 0, 2])) : mj_c Int32) = Sum.inr (Sum.inr (11, mg_s (sy_g (sr_env xs)) (mj_dfl (sy_O []) [2, 2, 2, 2, 0, 0, 2, 2, 2, 0, 0, 0, 0, 0, 2])))
    rw [mg_dfl (g := sy_g (sr_env xs)) (O := sy_O []) (O' := mj_I) (sy_inj_spec (sr_env xs))]
  unfold sr_two at h
  obtain ⟨v, h1, H1, a1, ah, a2⟩ := sr_sound2 (sr_env_M xs) _ _ _ _ _ _ _ _ _ _ (hh.app e10) h
  unfold sr_k1 at a1
  split at a1
  · rename_i hl
    obtain ⟨v2, h2, H2, b1, bh, b2⟩ := sr_sound2 (sr_env_M xs) _ _ _ _ _ _ _ _ _ _ (ah.app e11) a1
    unfold sr_k2 at b1
    split at b1
    · refine ⟨H1, h2, H2, b1, bh, ?_, ?_, ?_⟩
      · rw [ah.len]
        exact Nat.eq_of_beq_eq_true hl
      · rw [mg_ent] at a2
        exact a2
      · rw [mg_ent] at b2
        exact b2
    · cases b1
  · cases a1
/-- what the store holds first -/
def S0 (s : wt_S) : Prop := (∀ e ∈ sr_c, ∀ k, k < e.2.2.1 → s e.1 (e.2.1 + k) = iz e.2.2.2) ∧ ∀ a ∈ [19, 48, 89], ∀ k, k < 256 → s a k = nI k
theorem iz_nI {k : Nat} : iz (k + 2147483648) = nI k := by
  unfold iz nI
  rw [sy_int_eq, ← Int32.ofInt_eq_ofNat, show ((k + 2147483648 : Nat) : Int) - 2147483648 = (k : Int) by omega]
theorem sr_g_iz {env : Nat → Int32} {c : Nat} (h : c ≤ 4294967295) : sy_g env c = iz c := by
  unfold sy_g iz
  rw [if_pos h]
theorem sr_c_le : ∀ e ∈ sr_c, e.2.2.2 ≤ 4294967295 := by decide +kernel
theorem sr_c_ne : ∀ e ∈ sr_c, e.1 ≠ 0 := by decide +kernel
theorem sr_ok_spec {h : mj_h Nat} (hk : sr_ob h = some 1) : h.map sr_cell = [2, 99] :: (wt_H 0).tail.map sr_pc ∧ sr_c.map (fun e => (List.range e.2.2.1).map (fun k => sr_val h e.1 (e.2.1 + k))) = sr_c.map (fun e => List.replicate e.2.2.1 e.2.2.2) ∧ [19, 48, 89].map (fun a => (List.range 256).map (fun k => sr_val h a k)) = [19, 48, 89].map (fun _ => (List.range 256).map (fun k => k + 2147483648)) := by
  unfold sr_ob at hk
  split at hk
  · rename_i e
    unfold sr_ok at e
    rw [Bool.and_eq_true, Bool.and_eq_true, decide_eq_true_eq, decide_eq_true_eq, decide_eq_true_eq] at e
    exact e
  · cases hk
theorem sr_H_good : ∀ p ∈ (wt_H 0).tail, sr_good p := by
  have hg : ∀ b, sr_good (.inr (.inl (6, fun k => if k < 6 then some (b + 17 + 2 * k) else none))) := fun b => ⟨rfl, fun k hk => if_neg (by omega)⟩
  intro p hp
  simp only [wt_H, List.tail_cons, List.mem_cons, List.not_mem_nil, or_false] at hp
  rcases p with q | (q | q)
  · trivial
  · simp only [reduceCtorEq, false_or, or_false, Sum.inr.injEq, Sum.inl.injEq] at hp
    rcases hp with rfl | rfl | rfl
    · exact hg 11
    · exact hg 40
    · exact hg 81
  · trivial
theorem sr_start (L : Nat) (xs : Nat → Int32) : ∃ s : wt_S, S0 s ∧ ∀ R0, mj_Rn 30 kL_law (mj_drop 10 kL_law) [some (.inr (some 0)), some (.inr (some 4)), some (.inr (some 110)), some (.inl (Int32.ofInt 0))] [] (wt_e (wt_H L) s) R0 → mj_Rn 30 kL_law kL_law [some (.inr (some 0)), none, none, none] [] (mj_old L xs) R0 := by
  obtain ⟨H1, h2, H2, a1, ah, a2, a3, a4⟩ := sr_ran (xs := xs) (L := L) sr_all
  obtain ⟨k1, k2, k3⟩ := sr_ok_spec a1
  have hw : wt_e (wt_H L) (wx H2) = H2 := by
    cases h2 with
    | nil => exact absurd k1 (by simp)
    | cons c h2 =>
      cases H2 with
      | nil => exact absurd ah.1 (by simp)
      | cons C H2 =>
        have e0 : some C = some (.inl (0, L, xs)) := ah.2.1.2
        cases e0
        rw [List.map_cons] at k1
        have hx := (List.cons.inj k1).2
        show Sum.inl (0, L, wx (Sum.inl (0, L, xs) :: H2) 0) :: wt_es (wx (Sum.inl (0, L, xs) :: H2)) (wt_H 0).tail 1 = _
        rw [sr_es2 (g := sy_g (sr_env xs)) h2 H2 (wt_H 0).tail 1 (by simpa using ah.1) (fun a c e => ah.2.2 (a + 1) c (by omega) e) hx sr_H_good (fun a c' e => by
          funext k
          rw [Nat.add_comm 1 a]
          show (match mj_nth (Sum.inl (0, L, xs) :: H2) (a + 1) with
            | some c => cvv c k
            | none => 0) = cvv c' k
          rw [show mj_nth (Sum.inl (0, L, xs) :: H2) (a + 1) = some c' from e])]
        rfl
  refine ⟨wx H2, ⟨fun e he k hk => ?_, fun a ha k hk => ?_⟩, fun R0 hR => ?_⟩
  · have b2 := List.map_inj_left.mp k2 e he
    have b3 := congrArg (fun l => l[k]?) b2
    have b4 : some (sr_val h2 e.1 (e.2.1 + k)) = some e.2.2.2 := by
      simpa [List.getElem?_map, List.getElem?_range hk, List.getElem?_replicate, hk] using b3
    rw [sr_val_x ah (sr_c_ne e he), Option.some.inj b4, sr_g_iz (sr_c_le e he)]
  · have b2 := List.map_inj_left.mp k3 a ha
    have b3 := congrArg (fun l => l[k]?) b2
    have b4 : some (sr_val h2 a k) = some (k + 2147483648) := by
      simpa [List.getElem?_map, List.getElem?_range hk] using b3
    have hn : a ≠ 0 := by
      simp at ha
      omega
    rw [sr_val_x ah hn, Option.some.inj b4, sr_g_iz (by omega), iz_nI]
  · rw [hw] at hR
    refine rn_new (rn_dup (rn_callP (as := [.inr (some 4)]) (rest := [.inr (some 4)]) rfl rfl (by simp) sr_j10 a3 (rn_astore_n (rn_new ?_))))
    rw [a2]
    exact rn_dup (rn_callP (as := [.inr (some 110)]) (rest := [.inr (some 110)]) rfl rfl (by simp) sr_j11 a4 (rn_astore_n (rn_iconst (rn_istore_n hR))))
