/-! ===== the first state ===== -/
theorem rn_new {d : Nat} {cd tl : List mj_r} {pc x i a b c : Nat} {ks : List Nat} {loc : mj_l Int32} {st : mj_s Int32} {h : mj_h Int32} {R0 : Option (mj_v Int32) × mj_h Int32} (K : mj_Rn d cd tl loc (.inr (some (mj_len h)) :: st) (mj_app h (.inr (.inr (x, mj_dfl mj_I ks)))) R0) : mj_Rn d cd ((pc, .new i, x, a :: b :: c :: ks) :: tl) loc st h R0 := mj_Rn.step K
theorem rn_callP {d : Nat} {cd tl : List mj_r} {pc x : Nat} {xs : List Nat} {loc : mj_l Int32} {st rest : mj_s Int32} {h : mj_h Int32} {R0 : Option (mj_v Int32) × mj_h Int32} {i n ml : Nat} {as : List (mj_v Int32)} {cd' : List mj_r} {v : Option (mj_v Int32)} {h1 : mj_h Int32} (hx : Nat.beq x 100000 = false) (ha : mj_args n st [] = some (as, rest)) (hr : rest.length ≤ 8) (hcd : mj_cds[x]? = some cd') (hR : mj_Rn d cd' cd' (mj_ent ml as) [] h (v, h1)) (K : mj_Rn (d + 1) cd tl loc (v.toList ++ rest) h1 R0) : mj_Rn (d + 1) cd ((pc, .invokespecial i, x, n :: ml :: 0 :: xs) :: tl) loc st h R0 := by
  refine mj_Rn.step ?_
  show mj_spec x (n :: ml :: 0 :: xs) loc st h (fun loc st h => mj_Rn (d + 1) cd tl loc st h R0) (mj_Kc (d + 1) cd tl loc h R0) False
  unfold mj_spec
  rw [hx]
  dsimp only
  unfold mj_call
  dsimp only
  rw [ha]
  dsimp only
  rw [mj_len_eq, Nat.ble_eq_true_of_le hr]
  exact ⟨d, cd', v, h1, rfl, hcd, hR, K⟩
theorem sr_j10 : mj_cds[118]? = some kX10_init := by rw [← mj_nth_eq]; rfl
theorem sr_j11 : mj_cds[154]? = some kX11_init := by rw [← mj_nth_eq]; rfl
def iz (c : Nat) : Int32 := Int32.ofInt (sy_int c)
def sr_env (xs : Nat → Int32) : Nat → Int32 := fun j => if j < 7 then 0 else xs (j - 7)
theorem sr_env_M (xs : Nat → Int32) : sy_M (sr_env xs) [] := ⟨by
  unfold sr_env
  rw [if_pos (by omega), if_pos (by omega)]
  decide, fun i lo hi h => by rw [mj_nth_eq] at h; simp at h⟩
theorem sr_g_nat (env : Nat → Int32) (l : List Nat) (h : ∀ v ∈ l, v ≤ 1000) : (fun j => sy_g env (sy_fn l j)) = mj_fn (l.map Int32.ofNat) := by
  funext j
  unfold sy_fn mj_fn
  rw [mj_nth_eq]
  cases hj : l[j]? with
  | none =>
    rw [List.getD_eq_getElem?_getD, List.getElem?_map, hj]
    exact sr_g0 env
  | some v =>
    have hv := h v (List.mem_of_getElem? hj)
    rw [List.getD_eq_getElem?_getD, List.getElem?_map, hj]
    show sy_g env (v + 2147483648) = Int32.ofNat v
    unfold sy_g
    rw [if_pos (by omega), sy_int_eq, ← Int32.ofInt_eq_ofNat, show ((v + 2147483648 : Nat) : Int) - 2147483648 = (v : Int) by omega]
theorem sr_old_eq (xs : Nat → Int32) (L : Nat) : mg_h (sy_g (sr_env xs)) (sr_old L) = mj_old L xs := by
  have h0 : (fun j => sy_g (sr_env xs) (j + 4294967303)) = xs := by
    funext j
    unfold sy_g sr_env
    rw [if_neg (by omega), if_neg (by omega), show j + 4294967303 - 4294967296 - 7 = j by omega]
  have h1 := sr_g_nat (sr_env xs) [8, 0, 0, 10, 1, 10] (by decide)
  have h2 := sr_g_nat (sr_env xs) [64, 1, 1, 80, 3, 90] (by decide)
  have h3 := sr_g_nat (sr_env xs) [16, 1, 1, 40, 1, 60] (by decide)
  show [Sum.inl (0, L, fun j => sy_g (sr_env xs) (j + 4294967303)), Sum.inl (0, 6, fun j => sy_g (sr_env xs) (sy_fn [8, 0, 0, 10, 1, 10] j)), Sum.inl (0, 6, fun j => sy_g (sr_env xs) (sy_fn [64, 1, 1, 80, 3, 90] j)), Sum.inl (0, 6, fun j => sy_g (sr_env xs) (sy_fn [16, 1, 1, 40, 1, 60] j))] = _
  rw [h0, h1, h2, h3]
  rfl
/-- both constructors have run -/
theorem sr_ran {β : Type} {xs : Nat → Int32} {L : Nat} {k : mj_h Nat → Option β} {R : β} (h : sr_two L k = some R) : ∃ H1 h2, k h2 = some R ∧ mj_len H1 = 110 ∧
    mj_Rn 29 kX10_init kX10_init (mj_ent 4 [.inr (some 4)]) [] (mj_app (mj_old L xs) (.inr (.inr (10, mj_dfl mj_I [2, 2, 2, 2, 2, 2, 0])))) (none, H1) ∧
    mj_Rn 29 kX11_init kX11_init (mj_ent 2 [.inr (some 110)]) [] (mj_app H1 (.inr (.inr (11, mj_dfl mj_I [2, 2, 2, 2, 0, 0, 2, 2, 2, 0, 0, 0, 0, 0, 2])))) (none, mg_h (sy_g (sr_env xs)) h2) := by
  unfold sr_two at h
  obtain ⟨v, h1, a1, a2⟩ := sr_sound (sr_env_M xs) _ _ _ _ _ _ _ _ _ h
  unfold sr_k1 at a1
  split at a1
  · rename_i hl
    obtain ⟨v2, h2, b1, b2⟩ := sr_sound (sr_env_M xs) _ _ _ _ _ _ _ _ _ a1
    unfold sr_k2 at b1
    split at b1
    · refine ⟨mg_h (sy_g (sr_env xs)) h1, h2, b1, ?_, ?_, ?_⟩
      · unfold mg_h
        rw [mg_len]
        exact Nat.eq_of_beq_eq_true hl
      · rw [mg_ent] at a2
        have e : mg_h (sy_g (sr_env xs)) (mj_app (sr_old L) sr_o10) = mj_app (mj_old L xs) (.inr (.inr (10, mj_dfl mj_I [2, 2, 2, 2, 2, 2, 0]))) := by
          rw [← sr_old_eq]
          unfold mg_h
          rw [mg_app]
          congr 1
          show (Sum.inr (Sum.inr (10, mg_s (sy_g (sr_env xs)) (mj_dfl (sy_O []) [2, 2, 2, 2, 2, 2, 0]))) : mj_c Int32) = _
          rw [mg_dfl (O' := mj_I) (sy_inj_spec (sr_env xs))]
        rw [e] at a2
        exact a2
      · rw [mg_ent] at b2
        have e : mg_h (sy_g (sr_env xs)) (mj_app h1 sr_o11) = mj_app (mg_h (sy_g (sr_env xs)) h1) (.inr (.inr (11, mj_dfl mj_I [2, 2, 2, 2, 0, 0, 2, 2, 2, 0, 0, 0, 0, 0, 2]))) := by
          unfold mg_h
          rw [mg_app]
          congr 1
          show (Sum.inr (Sum.inr (11, mg_s (sy_g (sr_env xs)) (mj_dfl (sy_O []) [2, 2, 2, 2, 0, 0, 2, 2, 2, 0, 0, 0, 0, 0, 2]))) : mj_c Int32) = _
          rw [mg_dfl (O' := mj_I) (sy_inj_spec (sr_env xs))]
        rw [e] at b2
        exact b2
    · cases b1
  · cases a1
/-- what the store holds first -/
def S0 (s : wt_S) : Prop := (∀ e ∈ sr_c, ∀ k, k < e.2.2.1 → s e.1 (e.2.1 + k) = iz e.2.2.2) ∧ ∀ a ∈ [19, 48, 89], ∀ k, k < 256 → s a k = nI k
theorem iz_nI {k : Nat} : iz (k + 2147483648) = nI k := by
  unfold iz nI
  rw [sy_int_eq, ← Int32.ofInt_eq_ofNat, show ((k + 2147483648 : Nat) : Int) - 2147483648 = (k : Int) by omega]
theorem sr_g_iz {env : Nat → Int32} {c : Nat} (h : c ≤ 4294967295) : sy_g env c = iz c := by
  unfold sy_g iz
  rw [if_pos h]
theorem sr_c_le : ∀ e ∈ sr_c, e.2.2.2 ≤ 4294967295 := by decide
theorem sr_start (L : Nat) (xs : Nat → Int32) : ∃ s : wt_S, S0 s ∧ ∀ R0, mj_Rn 30 kL_law (mj_drop 10 kL_law) [some (.inr (some 0)), some (.inr (some 4)), some (.inr (some 110)), some (.inl (Int32.ofInt 0))] [] (wt_e (wt_H L) s) R0 → mj_Rn 30 kL_law kL_law [some (.inr (some 0)), none, none, none] [] (mj_old L xs) R0 := by
  have al : ∀ x, sr_two L (sr_ob x) = sr_ex L x := fun x => congrFun (congrFun sr_all L) x
  obtain ⟨H1, h2, a1, a2, a3, a4⟩ := sr_ran (xs := xs) (al 0)
  have hx : ∀ x, (mg_h (sy_g (sr_env xs)) h2).map (sr_cell x) = (wt_H L).map (sr_pc x) := fun x => by
    obtain ⟨H1', h2', b1, b2, b3, b4⟩ := sr_ran (xs := xs) (al x)
    have e1 : H1' = H1 := congrArg Prod.snd (b3.det a3)
    subst e1
    have e2 : mg_h (sy_g (sr_env xs)) h2' = mg_h (sy_g (sr_env xs)) h2 := congrArg Prod.snd (b4.det a4)
    rw [← e2]
    have b1 : h2'.map (sr_cell x) = (wt_H L).map (sr_pc x) := congrArg Prod.fst (Option.some.inj b1)
    rw [← b1]
    unfold mg_h
    rw [List.map_map]
    apply List.map_congr_left
    intro c _
    exact sr_cell_g c
  refine ⟨wx (mg_h (sy_g (sr_env xs)) h2), ⟨fun e he k hk => ?_, fun a ha k hk => ?_⟩, fun R0 hR => ?_⟩
  · have b1 : sr_c.map (fun e => (List.range e.2.2.1).map (fun k => sr_val h2 e.1 (e.2.1 + k))) = sr_c.map (fun e => List.replicate e.2.2.1 e.2.2.2) := congrArg (fun q => q.2.1) (Option.some.inj a1)
    have b2 := List.map_inj_left.mp b1 e he
    have b3 := congrArg (fun l => l[k]?) b2
    have b4 : some (sr_val h2 e.1 (e.2.1 + k)) = some e.2.2.2 := by
      simpa [List.getElem?_map, List.getElem?_range hk, List.getElem?_replicate, hk] using b3
    rw [sr_val_x, Option.some.inj b4, sr_g_iz (sr_c_le e he)]
  · have b1 : [19, 48, 89].map (fun a => (List.range 256).map (fun k => sr_val h2 a k)) = [19, 48, 89].map (fun _ => (List.range 256).map (fun k => k + 2147483648)) := congrArg (fun q => q.2.2) (Option.some.inj a1)
    have b2 := List.map_inj_left.mp b1 a ha
    have b3 := congrArg (fun l => l[k]?) b2
    have b4 : some (sr_val h2 a k) = some (k + 2147483648) := by
      simpa [List.getElem?_map, List.getElem?_range hk] using b3
    rw [sr_val_x, Option.some.inj b4, sr_g_iz (by omega), iz_nI]
  · rw [← sr_wt hx] at hR
    refine rn_new (rn_dup (rn_callP (as := [.inr (some 4)]) (rest := [.inr (some 4)]) rfl rfl (by simp) sr_j10 a3 (rn_astore_n (rn_new ?_))))
    rw [a2]
    exact rn_dup (rn_callP (as := [.inr (some 110)]) (rest := [.inr (some 110)]) rfl rfl (by simp) sr_j11 a4 (rn_astore_n (rn_iconst (rn_istore_n hR))))
