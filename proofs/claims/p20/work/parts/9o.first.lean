section
/-! ===== the first state ===== -/
theorem rn_new {d : Nat} {cd tl : List mj_r} {pc x i a b c : Nat} {ks : List Nat} {loc : mj_l Int32} {st : mj_s Int32} {h : mj_h Int32} {R0 : Option (mj_v Int32) × mj_h Int32} (K : mj_Rn d cd tl loc (.inr (some (mj_len h)) :: st) (mj_app h (.inr (.inr (x, mj_dfl mj_I ks)))) R0) : mj_Rn d cd ((pc, .new i, x, a :: b :: c :: ks) :: tl) loc st h R0 := mj_Rn.step K
theorem rn_callP {d : Nat} {cd tl : List mj_r} {pc x : Nat} {xs : List Nat} {loc : mj_l Int32} {st rest : mj_s Int32} {h : mj_h Int32} {R0 : Option (mj_v Int32) × mj_h Int32} {i n ml : Nat} {as : List (mj_v Int32)} {cd' : List mj_r} {v : Option (mj_v Int32)} {h1 : mj_h Int32} (hx : Nat.beq x 100000 = false) (ha : mj_args n st [] = some (as, rest)) (hr : rest.length ≤ 8) (hcd : mj_cds[x]? = some cd') (hR : mj_Rn d cd' cd' (mj_ent ml as) [] h (v, h1)) (K : mj_Rn (d + 1) cd tl loc (v.toList ++ rest) h1 R0) : mj_Rn (d + 1) cd ((pc, .invokespecial i, x, n :: ml :: 0 :: xs) :: tl) loc st h R0 := by
  refine mj_Rn.step ?_
  show mj_spec x (n :: ml :: 0 :: xs) loc st h (fun loc st h => mj_Rn (d + 1) cd tl loc st h R0) (mj_Kc (d + 1) cd tl loc h R0) False
  unfold mj_spec
  rw [hx]
  dsimp only
  unfold mj_call
  dsimp only
  rw [ha]
  dsimp only
  rw [mj_len_eq, Nat.ble_eq_true_of_le hr]
  exact ⟨d, cd', v, h1, rfl, hcd, hR, K⟩
theorem sr_j10 : mj_cds[118]? = some kX10_init := by rw [← mj_nth_eq]; rfl
theorem sr_j11 : mj_cds[154]? = some kX11_init := by rw [← mj_nth_eq]; rfl
def iz (c : Nat) : Int32 := Int32.ofInt (sy_int c)
def sr_env (xs : Nat → Int32) : Nat → Int32 := fun j => if j < 7 then 0 else xs (j - 7)
theorem sr_env_M (xs : Nat → Int32) : sy_M (sr_env xs) [] := ⟨by
  unfold sr_env
  rw [if_pos (by omega), if_pos (by omega)]
  decide, fun i lo hi h => by rw [mj_nth_eq] at h; simp at h⟩
theorem sr_g_nat (env : Nat → Int32) (l : List Nat) (h : ∀ v ∈ l, v ≤ 1000) : (fun j => sy_g env (sy_fn l j)) = mj_fn (l.map Int32.ofNat) := by
  funext j
  unfold sy_fn mj_fn
  rw [mj_nth_eq]
  cases hj : l[j]? with
  | none =>
    rw [List.getD_eq_getElem?_getD, List.getElem?_map, hj]
    exact sr_g0 env
  | some v =>
    have hv := h v (List.mem_of_getElem? hj)
    rw [List.getD_eq_getElem?_getD, List.getElem?_map, hj]
    show sy_g env (v + 2147483648) = Int32.ofNat v
    unfold sy_g
    rw [if_pos (by omega), sy_int_eq, ← Int32.ofInt_eq_ofNat, show ((v + 2147483648 : Nat) : Int) - 2147483648 = (v : Int) by omega]
theorem sr_old_hr (xs : Nat → Int32) (L : Nat) : HR (sy_g (sr_env xs)) (.inl (0, L, xs)) sr_old (mj_old L xs) := by
  have h1 := sr_g_nat (sr_env xs) [8, 0, 0, 10, 1, 10] (by decide)
  have h2 := sr_g_nat (sr_env xs) [64, 1, 1, 80, 3, 90] (by decide)
  have h3 := sr_g_nat (sr_env xs) [16, 1, 1, 40, 1, 60] (by decide)
  refine ⟨rfl, ⟨rfl, rfl⟩, fun a c ha hc => ?_⟩
  match a, ha, hc with
  | 1, _, hc =>
    have hc : some (Sum.inl (0, 6, sy_fn [8, 0, 0, 10, 1, 10]) : mj_c Nat) = some c := hc
    cases hc
    refine ⟨_, rfl, ?_⟩
    show (Sum.inl (0, 6, mj_fn [8, 0, 0, 10, 1, 10]) : mj_c Int32) = Sum.inl (0, 6, fun j => sy_g (sr_env xs) (sy_fn [8, 0, 0, 10, 1, 10] j))
    rw [h1]; rfl
  | 2, _, hc =>
    have hc : some (Sum.inl (0, 6, sy_fn [64, 1, 1, 80, 3, 90]) : mj_c Nat) = some c := hc
    cases hc
    refine ⟨_, rfl, ?_⟩
    show (Sum.inl (0, 6, mj_fn [64, 1, 1, 80, 3, 90]) : mj_c Int32) = Sum.inl (0, 6, fun j => sy_g (sr_env xs) (sy_fn [64, 1, 1, 80, 3, 90] j))
    rw [h2]; rfl
  | 3, _, hc =>
    have hc : some (Sum.inl (0, 6, sy_fn [16, 1, 1, 40, 1, 60]) : mj_c Nat) = some c := hc
    cases hc
    refine ⟨_, rfl, ?_⟩
    show (Sum.inl (0, 6, mj_fn [16, 1, 1, 40, 1, 60]) : mj_c Int32) = Sum.inl (0, 6, fun j => sy_g (sr_env xs) (sy_fn [16, 1, 1, 40, 1, 60] j))
    rw [h3]; rfl
  | a + 4, _, hc =>
    rw [mj_nth_eq] at hc
    unfold sr_old at hc
    simp at hc
/-- both constructors have run -/
theorem sr_ran {β : Type} {xs : Nat → Int32} {L : Nat} {k : mj_h Nat → Option β} {R : β} (h : sr_two k = some R) : ∃ H1 h2 H2, k h2 = some R ∧ HR (sy_g (sr_env xs)) (.inl (0, L, xs)) h2 H2 ∧ mj_len H1 = 110 ∧
    mj_Rn 29 kX10_init kX10_init (mj_ent 4 [.inr (some 4)]) [] (mj_app (mj_old L xs) (.inr (.inr (10, mj_dfl mj_I [2, 2, 2, 2, 2, 2, 0])))) (none, H1) ∧
    mj_Rn 29 kX11_init kX11_init (mj_ent 2 [.inr (some 110)]) [] (mj_app H1 (.inr (.inr (11, mj_dfl mj_I [2, 2, 2, 2, 0, 0, 2, 2, 2, 0, 0, 0, 0, 0, 2])))) (none, H2) := by
  have hh := sr_old_hr xs L
  have e10 : hcl (sy_g (sr_env xs)) sr_o10 (.inr (.inr (10, mj_dfl mj_I [2, 2, 2, 2, 2, 2, 0]))) := by
    show (Sum.inr (Sum.inr (10, mj_dfl mj_I [2, 2, 2, 2, 2, 2, 0])) : mj_c Int32) = Sum.inr (Sum.inr (10, mg_s (sy_g (sr_env xs)) (mj_dfl (sy_O []) [2, 2, 2, 2, 2, 2, 0])))
    rw [mg_dfl (g := sy_g (sr_env xs)) (O := sy_O []) (O' := mj_I) (sy_inj_spec (sr_env xs))]
  have e11 : hcl (sy_g (sr_env xs)) sr_o11 (.inr (.inr (11, mj_dfl mj_I [2, 2, 2, 2, 0, 0, 2, 2, 2, 0, 0, 0, 0, 0, 2]))) := by
    show (Sum.inr (Sum.inr (11, mj_dfl mj_I [2, 2, 2, 2, 0, 0, 2, 2, 2, 0, 0, 0, 0, 0, 2])) : mj_c Int32) = Sum.inr (Sum.inr (11, mg_s (sy_g (sr_env xs)) (mj_dfl (sy_O []) [2, 2, 2, 2, 0, 0, 2, 2, 2, 0, 0, 0, 0, 0, 2])))
    rw [mg_dfl (g := sy_g (sr_env xs)) (O := sy_O []) (O' := mj_I) (sy_inj_spec (sr_env xs))]
  unfold sr_two at h
  obtain ⟨v, h1, H1, a1, ah, a2⟩ := sr_sound2 (sr_env_M xs) _ _ _ _ _ _ _ _ _ _ (hh.app e10) h
  unfold sr_k1 at a1
  split at a1
  · rename_i hl
    obtain ⟨v2, h2, H2, b1, bh, b2⟩ := sr_sound2 (sr_env_M xs) _ _ _ _ _ _ _ _ _ _ (ah.app e11) a1
    unfold sr_k2 at b1
    split at b1
    · refine ⟨H1, h2, H2, b1, bh, ?_, ?_, ?_⟩
      · rw [ah.len]
        exact Nat.eq_of_beq_eq_true hl
      · rw [mg_ent] at a2
        exact a2
      · rw [mg_ent] at b2
        exact b2
    · cases b1
  · cases a1
/-- what the store holds first -/
def S0 (s : wt_S) : Prop := (∀ e ∈ sr_c, ∀ k, k < e.2.2.1 → s e.1 (e.2.1 + k) = iz e.2.2.2) ∧ ∀ a ∈ [19, 48, 89], ∀ k, k < 256 → s a k = nI k
theorem iz_nI {k : Nat} : iz (k + 2147483648) = nI k := by
  unfold iz nI
  rw [sy_int_eq, ← Int32.ofInt_eq_ofNat, show ((k + 2147483648 : Nat) : Int) - 2147483648 = (k : Int) by omega]
theorem sr_g_iz {env : Nat → Int32} {c : Nat} (h : c ≤ 4294967295) : sy_g env c = iz c := by
  unfold sy_g iz
  rw [if_pos h]
theorem sr_c_le : ∀ e ∈ sr_c, e.2.2.2 ≤ 4294967295 := by decide +kernel
theorem sr_c_ne : ∀ e ∈ sr_c, e.1 ≠ 0 := by decide +kernel
theorem sr_ok_spec {h : mj_h Nat} (hk : sr_ob h = some 1) : h.map sr_cell = [2, 99] :: (wt_H 0).tail.map sr_pc ∧ sr_c.map (fun e => (List.range e.2.2.1).map (fun k => sr_val h e.1 (e.2.1 + k))) = sr_c.map (fun e => List.replicate e.2.2.1 e.2.2.2) ∧ [19, 48, 89].map (fun a => (List.range 256).map (fun k => sr_val h a k)) = [19, 48, 89].map (fun _ => (List.range 256).map (fun k => k + 2147483648)) := by
  unfold sr_ob at hk
  split at hk
  · rename_i e
    unfold sr_ok at e
    rw [Bool.and_eq_true, Bool.and_eq_true, decide_eq_true_eq, decide_eq_true_eq, decide_eq_true_eq] at e
    exact e
  · cases hk
theorem sr_H_good : ∀ p ∈ (wt_H 0).tail, sr_good p := by
  have hg : ∀ b, sr_good (.inr (.inl (6, fun k => if k < 6 then some (b + 17 + 2 * k) else none))) := fun b => ⟨rfl, fun k hk => if_neg (by omega)⟩
  intro p hp
  simp only [wt_H, List.tail_cons, List.mem_cons, List.not_mem_nil, or_false] at hp
  rcases p with q | (q | q)
  · trivial
  · simp only [reduceCtorEq, false_or, or_false, Sum.inr.injEq, Sum.inl.injEq] at hp
    rcases hp with rfl | rfl | rfl
    · exact hg 11
    · exact hg 40
    · exact hg 81
  · trivial
theorem sr_start (L : Nat) (xs : Nat → Int32) : ∃ s : wt_S, S0 s ∧ ∀ R0, mj_Rn 30 kL_law (mj_drop 10 kL_law) [some (.inr (some 0)), some (.inr (some 4)), some (.inr (some 110)), some (.inl (Int32.ofInt 0))] [] (wt_e (wt_H L) s) R0 → mj_Rn 30 kL_law kL_law [some (.inr (some 0)), none, none, none] [] (mj_old L xs) R0 := by
  obtain ⟨H1, h2, H2, a1, ah, a2, a3, a4⟩ := sr_ran (xs := xs) (L := L) sr_all
  obtain ⟨k1, k2, k3⟩ := sr_ok_spec a1
  have hw : wt_e (wt_H L) (wx H2) = H2 := by
    cases h2 with
    | nil => exact absurd k1 (by simp)
    | cons c h2 =>
      cases H2 with
      | nil => exact absurd ah.1 (by simp)
      | cons C H2 =>
        have e0 : some C = some (.inl (0, L, xs)) := ah.2.1.2
        cases e0
        rw [List.map_cons] at k1
        have hx := (List.cons.inj k1).2
        show Sum.inl (0, L, wx (Sum.inl (0, L, xs) :: H2) 0) :: wt_es (wx (Sum.inl (0, L, xs) :: H2)) (wt_H 0).tail 1 = _
        rw [sr_es2 (g := sy_g (sr_env xs)) h2 H2 (wt_H 0).tail 1 (by simpa using ah.1) (fun a c e => ah.2.2 (a + 1) c (by omega) e) hx sr_H_good (fun a c' e => by
          funext k
          rw [Nat.add_comm 1 a]
          show (match mj_nth (Sum.inl (0, L, xs) :: H2) (a + 1) with
            | some c => cvv c k
            | none => 0) = cvv c' k
          rw [show mj_nth (Sum.inl (0, L, xs) :: H2) (a + 1) = some c' from e])]
        rfl
  refine ⟨wx H2, ⟨fun e he k hk => ?_, fun a ha k hk => ?_⟩, fun R0 hR => ?_⟩
  · have b2 := List.map_inj_left.mp k2 e he
    have b3 := congrArg (fun l => l[k]?) b2
    have b4 : some (sr_val h2 e.1 (e.2.1 + k)) = some e.2.2.2 := by
      simpa [List.getElem?_map, List.getElem?_range hk, List.getElem?_replicate, hk] using b3
    rw [sr_val_x ah (sr_c_ne e he), Option.some.inj b4, sr_g_iz (sr_c_le e he)]
  · have b2 := List.map_inj_left.mp k3 a ha
    have b3 := congrArg (fun l => l[k]?) b2
    have b4 : some (sr_val h2 a k) = some (k + 2147483648) := by
      simpa [List.getElem?_map, List.getElem?_range hk] using b3
    have hn : a ≠ 0 := by
      simp at ha
      omega
    rw [sr_val_x ah hn, Option.some.inj b4, sr_g_iz (by omega), iz_nI]
  · rw [hw] at hR
    refine rn_new (rn_dup (rn_callP (as := [.inr (some 4)]) (rest := [.inr (some 4)]) rfl rfl (by simp) sr_j10 a3 (rn_astore_n (rn_new ?_))))
    rw [a2]
    exact rn_dup (rn_callP (as := [.inr (some 110)]) (rest := [.inr (some 110)]) rfl rfl (by simp) sr_j11 a4 (rn_astore_n (rn_iconst (rn_istore_n hR))))
end
section
/-! ===== the class against the picture: its pieces ===== -/
theorem mj_cpy_in {V : Type} {f g : Nat → V} {s d n k : Nat} (h1 : d ≤ k) (h2 : k < d + n) : mj_cpy f g s d n k = f (s + (k - d)) := by
  unfold mj_cpy
  rw [Nat.ble_eq_true_of_le h1, Nat.ble_eq_true_of_le (show k + 1 ≤ d + n by omega)]
  rfl
theorem mj_cpy_out {V : Type} {f g : Nat → V} {s d n k : Nat} (h : k < d ∨ d + n ≤ k) : mj_cpy f g s d n k = g k := by
  unfold mj_cpy
  rcases h with h | h
  · rw [show Nat.ble d k = false by
      cases e : Nat.ble d k with
      | false => rfl
      | true => exact absurd (sy_ble_t e) (by omega)]
    rfl
  · rw [show Nat.ble (k + 1) (d + n) = false by
      cases e : Nat.ble (k + 1) (d + n) with
      | false => rfl
      | true => exact absurd (sy_ble_t e) (by omega), Bool.and_false]
theorem ci0 : (0 : Int32).toInt = 0 := by decide
theorem ci256 : (256 : Int32).toInt = 256 := by decide
theorem c_lo {k : Nat} (h : k < 2147483648) : ¬ (nI k).toInt < (0 : Int32).toInt := by
  rw [nI_int h, ci0]; omega
theorem c_hi {k : Nat} (h : k < 256) : ¬ (256 : Int32).toInt ≤ (nI k).toInt := by
  rw [nI_int (by omega), ci256]; omega
theorem c_m1 : (-1 : Int32).toInt < (0 : Int32).toInt := by decide
section
variable {s : wt_S} {b i : Nat}
theorem c_placeOf (h : i < 256) : gX5_placeOf b s (nI i) = some (s (b + 3) i, s) := by
  unfold gX5_placeOf; rw [if_neg (c_lo (by omega)), if_neg (c_hi h), ix_nI h (by omega)]
theorem c_placeOf_m : gX5_placeOf b s (-1) = some (-1, s) := by
  unfold gX5_placeOf; rw [if_pos c_m1]
theorem c_wordsOf (h : i < 256) : gX5_wordsOf b s (nI i) = some (s (b + 4) i, s) := by
  unfold gX5_wordsOf; rw [if_neg (c_lo (by omega)), if_neg (c_hi h), ix_nI h (by omega)]
theorem c_wordsOf_m : gX5_wordsOf b s (-1) = some (0, s) := by
  unfold gX5_wordsOf; rw [if_pos c_m1]
theorem c_usedOf (h : i < 256) : gX5_usedOf b s (nI i) = some (s (b + 5) i, s) := by
  unfold gX5_usedOf; rw [if_neg (c_lo (by omega)), if_neg (c_hi h), ix_nI h (by omega)]
theorem c_belowOf (h : i < 256) : gX5_belowOf b s (nI i) = some (s (b + 6) i, s) := by
  unfold gX5_belowOf; rw [if_neg (c_lo (by omega)), if_neg (c_hi h), ix_nI h (by omega)]
theorem c_belowOf_m : gX5_belowOf b s (-1) = some (-1, s) := by
  unfold gX5_belowOf; rw [if_pos c_m1]
theorem c_ownerOf (h : i < 256) : gX5_ownerOf b s (nI i) = some (s (b + 7) i, s) := by
  unfold gX5_ownerOf; rw [if_neg (c_lo (by omega)), if_neg (c_hi h), ix_nI h (by omega)]
theorem c_shiftOf (h : i < 256) : gX5_shiftOf b s (nI i) = some (s (b + 9) i, s) := by
  unfold gX5_shiftOf; rw [if_neg (c_lo (by omega)), if_neg (c_hi h), ix_nI h (by omega)]
theorem c_endOf (h : i < 256) : gX5_endOf b s (nI i) = some (s (b + 3) i + s (b + 4) i, s) := by
  unfold gX5_endOf; rw [if_neg (c_lo (by omega)), if_neg (c_hi h), ix_nI h (by omega), ix_nI h (by omega)]
theorem c_endOf_m : gX5_endOf b s (-1) = some (0, s) := by
  unfold gX5_endOf; rw [if_pos c_m1]
theorem c_topOf (h : i < 256) : gX5_topOf b s (nI i) = some (s (b + 3) i + s (b + 5) i, s) := by
  unfold gX5_topOf; rw [if_neg (c_lo (by omega)), if_neg (c_hi h), ix_nI h (by omega), ix_nI h (by omega)]
theorem c_use {v : Int32} (h : i < 256) : gX5_use b s (nI i) v = some ((), wt_u s (b + 5) i (s (b + 5) i + v)) := by
  unfold gX5_use; rw [if_neg (c_lo (by omega)), if_neg (c_hi h), ix_nI h (by omega), ix_nI h (by omega), wr_eq]
theorem c_putOver {v : Int32} (h : i < 256) : gX5_putOver b s (nI i) v = some ((), wt_u s (b + 6) i v) := by
  unfold gX5_putOver; rw [if_neg (c_lo (by omega)), if_neg (c_hi h), ix_nI h (by omega), wr_eq]
theorem c_aimAt {v : Int32} (h : i < 256) : gX5_aimAt b s (nI i) v = some ((), wt_u s (b + 9) i (v - s (b + 3) i)) := by
  unfold gX5_aimAt; rw [if_neg (c_lo (by omega)), if_neg (c_hi h), ix_nI h (by omega), ix_nI h (by omega), wr_eq]
end
/-- the ids: of the pieces by their places, then the free ones -/
def zids (zs : List (vP × Nat)) (fr : List Nat) : List Nat := zs.map Prod.snd ++ fr
/-- the pieces of a world -/
def PC (b lim : Nat) (s : wt_S) (zs : List (vP × Nat)) (fr : List Nat) : Prop :=
  s (b + 2) 7 = nI zs.length ∧ s (b + 2) 8 = nI (vall (zs.map Prod.fst)) ∧ s (b + 2) 9 = nI lim ∧ (zids zs fr).length = 256 ∧ (zids zs fr).Nodup ∧ (∀ i ∈ zids zs fr, i < 256) ∧
  (∀ x i, (zids zs fr)[x]? = some i → s (b + 8) x = nI i) ∧ ∀ z ∈ zs, s (b + 3) z.2 = nI z.1.1 ∧ s (b + 4) z.2 = nI z.1.2.1 ∧ s (b + 7) z.2 = nI z.1.2.2.1
/-- only the cells of the pieces change -/
def PF (b : Nat) (s s' : wt_S) : Prop := ∀ c, ¬ (b + 2 ≤ c ∧ c ≤ b + 9) → s' c = s c
theorem PF.refl {b : Nat} {s : wt_S} : PF b s s := fun _ _ => rfl
theorem PF.trans {b : Nat} {s s1 s2 : wt_S} (h : PF b s s1) (h' : PF b s1 s2) : PF b s s2 := fun c hc => (h' c hc).trans (h c hc)
theorem PF.u {b c k : Nat} {s : wt_S} {v : Int32} (h : b + 2 ≤ c ∧ c ≤ b + 9) : PF b s (wt_u s c k v) := fun d hd => wt_u_ne (by omega)
theorem PF.uf {b c : Nat} {s : wt_S} {f : Nat → Int32} (h : b + 2 ≤ c ∧ c ≤ b + 9) : PF b s (wt_uf s c f) := fun d hd => wt_uf_ne (by omega)
section
variable {b lim : Nat} {s s' : wt_S} {zs : List (vP × Nat)} {fr : List Nat}
theorem PC.len (h : PC b lim s zs fr) : zs.length + fr.length = 256 := by
  have := h.2.2.2.1
  unfold zids at this
  rw [List.length_append, List.length_map] at this
  exact this
theorem zids_at {x : Nat} {z : vP × Nat} (hx : zs[x]? = some z) : (zids zs fr)[x]? = some z.2 := by
  unfold zids
  have hl := (List.getElem?_eq_some_iff.mp hx).1
  rw [List.getElem?_append_left (by rw [List.length_map]; exact hl), List.getElem?_map, hx]
  rfl
theorem PC.at (h : PC b lim s zs fr) {x : Nat} {z : vP × Nat} (hx : zs[x]? = some z) : s (b + 8) x = nI z.2 ∧ z.2 < 256 ∧ x < zs.length ∧ x < 256 ∧ s (b + 3) z.2 = nI z.1.1 ∧ s (b + 4) z.2 = nI z.1.2.1 ∧ s (b + 7) z.2 = nI z.1.2.2.1 := by
  have hl := (List.getElem?_eq_some_iff.mp hx).1
  have hn := h.len
  have hi := zids_at (fr := fr) hx
  have hm := List.mem_of_getElem? hx
  exact ⟨h.2.2.2.2.2.2.1 x _ hi, h.2.2.2.2.2.1 _ (List.mem_of_getElem? hi), hl, by omega, h.2.2.2.2.2.2.2 z hm⟩
theorem PC.mem (h : PC b lim s zs fr) {z : vP × Nat} (hz : z ∈ zs) : z.2 < 256 ∧ s (b + 3) z.2 = nI z.1.1 ∧ s (b + 4) z.2 = nI z.1.2.1 ∧ s (b + 7) z.2 = nI z.1.2.2.1 := by
  obtain ⟨x, hx⟩ := List.getElem?_of_mem hz
  have := h.at hx
  exact ⟨this.2.1, this.2.2.2.2⟩
theorem PC.inj (h : PC b lim s zs fr) {z y : vP × Nat} (hz : z ∈ zs) (hy : y ∈ zs) (he : z.2 = y.2) : z = y := by
  obtain ⟨x1, h1⟩ := List.getElem?_of_mem hz
  obtain ⟨x2, h2⟩ := List.getElem?_of_mem hy
  have e1 := zids_at (fr := fr) h1
  have e2 := zids_at (fr := fr) h2
  have hn := h.2.2.2.2.1
  obtain ⟨l1, q1⟩ := List.getElem?_eq_some_iff.mp e1
  obtain ⟨l2, q2⟩ := List.getElem?_eq_some_iff.mp e2
  have : x1 = x2 := (List.getElem_inj hn).mp (by rw [q1, q2, he])
  subst this
  exact Option.some.inj (h1.symm.trans h2)
theorem PC.eq (h : PC b lim s zs fr) (he : ∀ c, c = b + 2 ∨ c = b + 3 ∨ c = b + 4 ∨ c = b + 7 ∨ c = b + 8 → s' c = s c) : PC b lim s' zs fr := by
  unfold PC
  rw [he _ (Or.inl rfl), he (b + 8) (by omega), he (b + 3) (by omega), he (b + 4) (by omega), he (b + 7) (by omega)]
  exact h
theorem c_idAt (h : PC b lim s zs fr) {x : Nat} {z : vP × Nat} (hx : zs[x]? = some z) : gX5_idAt b s (nI x) = some (nI z.2, s) := by
  obtain ⟨h1, h2, h3, h4, -⟩ := h.at hx
  have hn := h.len
  unfold gX5_idAt
  rw [if_neg (c_lo (by omega)), if_neg (by rw [h.1, nI_int (by omega), nI_int (by omega)]; omega), if_neg (c_hi h4), ix_nI h4 (by omega), h1]
theorem c_idAt_m : gX5_idAt b s (-1) = some (-1, s) := by
  unfold gX5_idAt; rw [if_pos c_m1]
theorem c_idAt_n (h : PC b lim s zs fr) {x : Nat} (hx : zs.length ≤ x) (hb : x < 2147483648) : gX5_idAt b s (nI x) = some (-1, s) := by
  have := h.len
  unfold gX5_idAt
  rw [if_neg (c_lo hb), if_pos (by rw [h.1, nI_int (by omega), nI_int hb]; omega)]
/-- the end of what lies before a rank -/
def zend (zs : List (vP × Nat)) (x : Nat) : Nat := match x with
  | 0 => 0
  | x + 1 => match zs[x]? with
    | some z => z.1.1 + z.1.2.1
    | none => 0
theorem zend_s {x : Nat} {z : vP × Nat} (h : zs[x]? = some z) : zend zs (x + 1) = z.1.1 + z.1.2.1 := by
  show (match zs[x]? with
    | some z => z.1.1 + z.1.2.1
    | none => 0) = _
  rw [h]
theorem c_gapFrom (h : PC b lim s zs fr) {x : Nat} (hx : x ≤ zs.length) : gX5_gapFrom b s (nI x) = some (nI (zend zs x), s) := by
  have hn := h.len
  unfold gX5_gapFrom
  cases x with
  | zero => rw [show nI 0 - 1 = (-1 : Int32) by decide, c_idAt_m, cl_some, c_endOf_m]; rfl
  | succ x =>
    have hl : x < zs.length := by omega
    have hz : zs[x]? = some zs[x] := List.getElem?_eq_getElem hl
    obtain ⟨h1, h2, h3, h4, h5, h6, h7⟩ := h.at hz
    rw [show nI (x + 1) - 1 = nI x by rw [i_sub1, nI_pred2], c_idAt h hz, cl_some, c_endOf h2, cl_some, h5, h6, nI_add, zend_s hz]
theorem c_gapTo (h : PC b lim s zs fr) {x : Nat} {z : vP × Nat} (hx : zs[x]? = some z) : gX5_gapTo b s (nI x) = some (nI z.1.1, s) := by
  obtain ⟨h1, h2, h3, h4, h5, h6, h7⟩ := h.at hx
  have hn := h.len
  unfold gX5_gapTo
  rw [if_neg (by rw [h.1, nI_int (by omega), nI_int (by omega)]; omega), c_idAt h hx, cl_some, c_placeOf h2, cl_some, h5]
theorem c_gapTo_n (h : PC b lim s zs fr) : gX5_gapTo b s (nI zs.length) = some (nI lim, s) := by
  have hn := h.len
  unfold gX5_gapTo
  rw [if_pos (by rw [h.1]; exact Int.le_refl _), h.2.2.1]
end
end
section
/-! ===== the class: a piece is taken ===== -/
theorem c_ac {α : Type} {s : wt_S} {a c p q n n0 n1 : Nat} {F : wt_S → Option α} (h1 : p + n ≤ n0) (h2 : q + n ≤ n1) (h3 : n0 ≤ 100000) (h4 : n1 ≤ 100000) : wt_ac s a (nI p) c (nI q) (nI n) n0 n1 F = F (wt_uf s c (mj_cpy (s a) (s c) p q n)) := by
  unfold wt_ac
  rw [nI_int (by omega), nI_int (by omega), nI_int (by omega), if_pos (by omega), Int.toNat_natCast, Int.toNat_natCast, Int.toNat_natCast]
theorem ins_map {α β : Type} {f : α → β} {x : α} : ∀ {l : List α} {i : Nat}, (l.insertIdx i x).map f = (l.map f).insertIdx i (f x) := by
  intro l
  induction l with
  | nil => intro i; cases i <;> simp
  | cons a l ih =>
    intro i
    cases i with
    | zero => simp
    | succ i => simp [ih]
theorem er_map {α β : Type} {f : α → β} : ∀ {l : List α} {i : Nat}, (l.eraseIdx i).map f = (l.map f).eraseIdx i := by
  intro l
  induction l with
  | nil => intro i; simp
  | cons a l ih =>
    intro i
    cases i with
    | zero => simp
    | succ i => simp [ih]
theorem vall_insq {q : vP} : ∀ {ps : List vP}, vall (vins q ps) = vall ps + q.2.1 := by
  intro ps
  induction ps with
  | nil => show q.2.1 + 0 = 0 + q.2.1; omega
  | cons p ps ih =>
    unfold vins
    split
    · show q.2.1 + (p.2.1 + vall ps) = p.2.1 + vall ps + q.2.1; omega
    · show p.2.1 + vall (vins q ps) = p.2.1 + vall ps + q.2.1
      rw [ih]; omega
section
variable {b lim : Nat} {s s' : wt_S} {zs : List (vP × Nat)} {fr fr' : List Nat} {id : Nat}
theorem zids_n : (zids zs (id :: fr'))[zs.length]? = some id := by
  unfold zids
  rw [List.getElem?_append_right (by rw [List.length_map]; exact Nat.le_refl _), List.length_map, Nat.sub_self]
  rfl
theorem PC.fresh (h : PC b lim s zs (id :: fr')) : id < 256 ∧ s (b + 8) zs.length = nI id ∧ ∀ z ∈ zs, z.2 ≠ id := by
  refine ⟨h.2.2.2.2.2.1 id (List.mem_of_getElem? zids_n), h.2.2.2.2.2.2.1 _ _ zids_n, fun z hz e => ?_⟩
  have hn := h.2.2.2.2.1
  unfold zids at hn
  rw [List.nodup_append] at hn
  exact hn.2.2 z.2 (List.mem_map.mpr ⟨z, hz, rfl⟩) id (List.mem_cons_self) e
theorem c_insert (h : PC b lim s zs (id :: fr')) {x : Nat} (hx : x ≤ zs.length) : ∃ s', gX5_insert b s (nI x) = some (nI id, s') ∧ s' (b + 2) 7 = nI (zs.length + 1) ∧ (∀ k, k ≠ 7 → s' (b + 2) k = s (b + 2) k) ∧ (∀ c, c ≠ b + 2 → c ≠ b + 8 → s' c = s c) ∧ ∀ q y i, (zids (zs.insertIdx x (q, id)) fr')[y]? = some i → s' (b + 8) y = nI i := by
  have hl := h.len
  rw [List.length_cons] at hl
  obtain ⟨f1, f2, f3⟩ := h.fresh
  refine ⟨wt_u (wt_u (wt_uf s (b + 8) (mj_cpy (s (b + 8)) (s (b + 8)) x (x + 1) (zs.length - x))) (b + 8) x (nI id)) (b + 2) 7 (nI zs.length + 1), ?_, ?_, ?_, ?_, ?_⟩
  · unfold gX5_insert
    rw [if_neg (c_lo (by omega)), h.1, if_neg (by rw [nI_int (by omega), nI_int (by omega)]; omega), if_pos (by rw [nI_int (by omega), ci256]; omega), ix_nI (by omega) (by omega), nI_sub hx, show nI x + 1 = nI (x + 1) from nI_add x 1, c_ac (by omega) (by omega) (by omega) (by omega), ix_nI (by omega) (by omega), wr_eq, wr_eq, f2, wt_u_ne (by omega), wt_uf_ne (by omega), h.1]
  · rw [wt_u_self]; exact nI_add _ 1
  · intro k hk
    rw [wt_u_nk hk, wt_u_ne (by omega), wt_uf_ne (by omega)]
  · intro c h1 h2
    rw [wt_u_ne h1, wt_u_ne h2, wt_uf_ne h2]
  · intro q y i hy
    rw [wt_u_ne (by omega), wt_u_at, wt_uf_at]
    have hL : (zs.insertIdx x (q, id)).length = zs.length + 1 := List.length_insertIdx_of_le_length hx _
    unfold zids at hy
    by_cases c1 : y < zs.length + 1
    · rw [List.getElem?_append_left (by rw [List.length_map, hL]; exact c1), List.getElem?_map] at hy
      by_cases c2 : y < x
      · rw [List.getElem?_insertIdx_of_lt c2] at hy
        obtain ⟨z, hz, rfl⟩ := Option.map_eq_some_iff.mp hy
        rw [mj_upd_ne (by omega), mj_cpy_out (by omega)]
        exact h.2.2.2.2.2.2.1 _ _ (zids_at hz)
      · by_cases c3 : y = x
        · subst c3
          rw [List.getElem?_insertIdx_self, if_pos hx] at hy
          cases hy
          exact mj_upd_self
        · rw [List.getElem?_insertIdx_of_gt (by omega)] at hy
          obtain ⟨z, hz, rfl⟩ := Option.map_eq_some_iff.mp hy
          rw [mj_upd_ne c3, mj_cpy_in (by omega) (by omega), show x + (y - (x + 1)) = y - 1 by omega]
          exact h.2.2.2.2.2.2.1 _ _ (zids_at hz)
    · rw [List.getElem?_append_right (by rw [List.length_map, hL]; omega), List.length_map, hL] at hy
      rw [mj_upd_ne (by omega), mj_cpy_out (by omega)]
      refine h.2.2.2.2.2.2.1 y i ?_
      unfold zids
      rw [List.getElem?_append_right (by rw [List.length_map]; omega), List.length_map, show y - zs.length = (y - (zs.length + 1)) + 1 by omega, List.getElem?_cons_succ]
      exact hy
theorem zend_le (ho : vo lim (zs.map Prod.fst)) {x : Nat} {z : vP × Nat} (hz : zs[x]? = some z) : zend zs x ≤ z.1.1 := by
  cases x with
  | zero => exact Nat.zero_le _
  | succ x =>
    have hl := (List.getElem?_eq_some_iff.mp hz).1
    have hy : zs[x]? = some zs[x] := List.getElem?_eq_getElem (by omega)
    rw [zend_s hy]
    have hp := ho.1
    rw [List.pairwise_iff_getElem] at hp
    have := hp x (x + 1) (by rw [List.length_map]; omega) (by rw [List.length_map]; omega) (by omega)
    rw [List.getElem_map, List.getElem_map] at this
    have e : zs[x + 1] = z := (List.getElem?_eq_some_iff.mp hz).2
    rw [e] at this
    exact this
theorem zend_lim (ho : vo lim (zs.map Prod.fst)) {x : Nat} : zend zs x ≤ lim := by
  unfold zend
  split
  · exact Nat.zero_le _
  · split
    · rename_i z hz
      have := (ho.2 z.1 (List.mem_map.mpr ⟨z, List.mem_of_getElem? hz, rfl⟩)).2.1
      omega
    · exact Nat.zero_le _
theorem c_take_loop {words : Nat} {tk un : Int32} (h : PC b lim s zs fr) (ho : vo lim (zs.map Prod.fst)) (hw : words < 100000) (hl : lim ≤ 10000) : ∀ (m x fu : Nat), x + m = zs.length → m + 1 < fu →
    (vgap lim (zend zs x) ((zs.map Prod.fst).drop x) words = none → gX5_take_3 b fu s (nI words) tk un (nI x) = some (-1, s)) ∧
    ∀ g, vgap lim (zend zs x) ((zs.map Prod.fst).drop x) words = some g → ∃ y fu', x ≤ y ∧ y ≤ zs.length ∧ g = zend zs y ∧ (∀ z, zs[y]? = some z → g + words ≤ z.1.1) ∧ (y = zs.length → g + words ≤ lim) ∧ gX5_take_3 b fu s (nI words) tk un (nI x) = gX5_take_3 b (fu' + 1) s (nI words) tk un (nI y) := by
  have hn := h.len
  intro m
  induction m with
  | zero =>
    intro x fu hx hf
    obtain ⟨fu, rfl⟩ : ∃ k, fu = k + 2 := ⟨fu - 2, by omega⟩
    have hx : x = zs.length := by omega
    subst hx
    have hz := zend_lim ho (x := zs.length)
    rw [List.drop_of_length_le (by rw [List.length_map]; exact Nat.le_refl _)]
    have hv : vgap lim (zend zs zs.length) [] words = if zend zs zs.length + words ≤ lim then some (zend zs zs.length) else none := rfl
    rw [hv]
    by_cases c : zend zs zs.length + words ≤ lim
    · rw [if_pos c]
      refine ⟨fun e => (by cases e), fun g e => ⟨zs.length, fu + 1, Nat.le_refl _, Nat.le_refl _, ?_, fun z e => ?_, fun _ => ?_, rfl⟩⟩
      · exact (Option.some.inj e).symm
      · rw [List.getElem?_eq_none (Nat.le_refl _)] at e; cases e
      · rw [← Option.some.inj e]; exact c
    · rw [if_neg c]
      refine ⟨fun _ => ?_, fun g e => by cases e⟩
      rw [gX5_take_3, h.1, if_neg (Int.lt_irrefl _), c_gapFrom h (Nat.le_refl _), cl_some, c_gapTo_n h, cl_some, nI_sub hz, if_pos (by rw [nI_int (by omega), nI_int (by omega)]; omega), show nI zs.length + 1 = nI (zs.length + 1) from nI_add _ 1, gX5_take_3, h.1, if_pos (by rw [nI_int (by omega), nI_int (by omega)]; omega)]
  | succ m ih =>
    intro x fu hx hf
    obtain ⟨fu, rfl⟩ : ∃ k, fu = k + 1 := ⟨fu - 1, by omega⟩
    have hlx : x < zs.length := by omega
    have hz : zs[x]? = some zs[x] := List.getElem?_eq_getElem hlx
    generalize zs[x] = z at hz
    have hd : (zs.map Prod.fst).drop x = z.1 :: (zs.map Prod.fst).drop (x + 1) := by
      rw [List.drop_eq_getElem_cons (by rw [List.length_map]; exact hlx), List.getElem_map, (List.getElem?_eq_some_iff.mp hz).2]
    have he := zend_le ho hz
    have hq := (ho.2 z.1 (List.mem_map.mpr ⟨z, List.mem_of_getElem? hz, rfl⟩))
    have hv : vgap lim (zend zs x) (z.1 :: (zs.map Prod.fst).drop (x + 1)) words = if zend zs x + words ≤ z.1.1 then some (zend zs x) else vgap lim (z.1.1 + z.1.2.1) ((zs.map Prod.fst).drop (x + 1)) words := rfl
    rw [hd, hv]
    by_cases c : zend zs x + words ≤ z.1.1
    · rw [if_pos c]
      refine ⟨fun e => (by cases e), fun g e => ⟨x, fu, Nat.le_refl _, by omega, (Option.some.inj e).symm, fun y e2 => ?_, fun e3 => by omega, rfl⟩⟩
      rw [hz] at e2
      rw [← Option.some.inj e, ← Option.some.inj e2]
      exact c
    · rw [if_neg c]
      have hze : zend zs (x + 1) = z.1.1 + z.1.2.1 := zend_s hz
      obtain ⟨i1, i2⟩ := ih (x + 1) fu (by omega) (by omega)
      rw [hze] at i1 i2
      have hs : gX5_take_3 b (fu + 1) s (nI words) tk un (nI x) = gX5_take_3 b fu s (nI words) tk un (nI (x + 1)) := by
        rw [gX5_take_3, h.1, if_neg (by rw [nI_int (by omega), nI_int (by omega)]; omega), c_gapFrom h (by omega), cl_some, c_gapTo h hz, cl_some, nI_sub he, if_pos (by rw [nI_int (by omega), nI_int (by omega)]; omega), show nI x + 1 = nI (x + 1) from nI_add x 1]
      rw [hs]
      refine ⟨i1, fun g e => ?_⟩
      obtain ⟨y, fu', a1, a2, a3⟩ := i2 g e
      exact ⟨y, fu', by omega, a2, a3⟩
theorem c_take {words : Nat} {un : Int32} {t : Nat} (h : PC b lim s zs fr) (ho : vo lim (zs.map Prod.fst)) (hw : 1 ≤ words ∧ words < 100000) (hl : lim ≤ 10000) :
    (vgap lim 0 (zs.map Prod.fst) words = none → gX5_take b s (nI words) (nI t) un = some (-1, s)) ∧
    ∀ g, zs.length < 256 → vgap lim 0 (zs.map Prod.fst) words = some g → ∃ id fr' y s', fr = id :: fr' ∧ id < 256 ∧ (∀ z ∈ zs, z.2 ≠ id) ∧ gX5_take b s (nI words) (nI t) un = some (nI id, s') ∧ y ≤ zs.length ∧ s' (b + 5) = mj_upd (s (b + 5)) id 0 ∧ s' (b + 6) = mj_upd (s (b + 6)) id un ∧ s' (b + 9) = s (b + 9) ∧ PF b s s' ∧
      ∀ n, PC b lim s' (zs.insertIdx y ((g, words, t, n), id)) fr' ∧ (zs.insertIdx y ((g, words, t, n), id)).map Prod.fst = vins (g, words, t, n) (zs.map Prod.fst) := by
  have hn := h.len
  obtain ⟨l1, l2⟩ := c_take_loop (tk := nI t) (un := un) h ho hw.2 hl zs.length 0 wt_N (by omega) (by unfold wt_N; omega)
  refine ⟨fun e => l1 e, fun g hlen e => ?_⟩
  obtain ⟨y, fu', a1, a2, a3, a4, a5, a6⟩ := l2 g e
  cases fr with
  | nil => rw [List.length_nil] at hn; omega
  | cons id fr' =>
    obtain ⟨f1, f2, f3⟩ := h.fresh
    obtain ⟨s1, b1, b2, b3, b4, b5⟩ := c_insert h a2
    have hg : g ≤ lim := by rw [a3]; exact zend_lim ho
    have hcond : ∀ v : Nat, (∀ z, zs[y]? = some z → v = z.1.1) → (y = zs.length → v = lim) → y ≤ zs.length → zend zs y ≤ v ∧ ¬ (nI v - nI (zend zs y)).toInt < (nI words).toInt := fun v h1 h2 h3 => by
      have : zend zs y + words ≤ v ∧ v ≤ 10000 := by
        by_cases c : y = zs.length
        · have := a5 c; rw [h2 c]; omega
        · have hz : zs[y]? = some zs[y] := List.getElem?_eq_getElem (by omega)
          have q1 := a4 _ hz
          have q2 := (ho.2 zs[y].1 (List.mem_map.mpr ⟨zs[y], List.getElem_mem _, rfl⟩))
          rw [h1 _ hz]
          omega
      refine ⟨by omega, ?_⟩
      rw [nI_sub (by omega), nI_int (by omega), nI_int (by omega)]
      omega
    refine ⟨id, fr', y, wt_u (wt_u (wt_u (wt_u (wt_u (wt_u s1 (b + 3) id (nI g)) (b + 4) id (nI words)) (b + 5) id 0) (b + 6) id un) (b + 7) id (nI t)) (b + 2) 8 (s (b + 2) 8 + nI words), rfl, f1, f3, ?_, a2, ?_, ?_, ?_, ?_, ?_⟩
    · show gX5_take_3 b wt_N s (nI words) (nI t) un 0 = _
      rw [show (0 : Int32) = nI 0 from rfl, a6, gX5_take_3, h.1, if_neg (by rw [nI_int (by omega), nI_int (by omega)]; omega), c_gapFrom h a2, cl_some]
      have fin : wt_cl (gX5_insert b s (nI y)) (fun v6 s5 => (if v6.toInt < (0 : Int32).toInt then some (v6, s5) else (if (256 : Int32).toInt ≤ v6.toInt then some (v6, s5) else (wt_ix v6 256 fun k8 => wt_wr s5 (b + 3) k8 (nI (zend zs y)) fun s7 => (wt_ix v6 256 fun k10 => wt_wr s7 (b + 4) k10 (nI words) fun s9 => (wt_ix v6 256 fun k12 => wt_wr s9 (b + 5) k12 0 fun s11 => (wt_ix v6 256 fun k14 => wt_wr s11 (b + 6) k14 un fun s13 => (wt_ix v6 256 fun k16 => wt_wr s13 (b + 7) k16 (nI t) fun s15 => (wt_wr s15 (b + 2) 8 ((s15 (b + 2) 8) + nI words) fun s17 => some (v6, s17)))))))))) = some (nI id, wt_u (wt_u (wt_u (wt_u (wt_u (wt_u s1 (b + 3) id (nI g)) (b + 4) id (nI words)) (b + 5) id 0) (b + 6) id un) (b + 7) id (nI t)) (b + 2) 8 (s (b + 2) 8 + nI words)) := by
        rw [b1, cl_some, if_neg (c_lo (by omega)), if_neg (c_hi f1), ix_nI f1 (by omega), wr_eq, ix_nI f1 (by omega), wr_eq, ix_nI f1 (by omega), wr_eq, ix_nI f1 (by omega), wr_eq, ix_nI f1 (by omega), wr_eq, wr_eq, wt_u_ne (by omega), wt_u_ne (by omega), wt_u_ne (by omega), wt_u_ne (by omega), wt_u_ne (by omega), b3 8 (by omega), ← a3]
      by_cases c : y = zs.length
      · subst c
        obtain ⟨q1, q2⟩ := hcond lim (fun z e => by rw [List.getElem?_eq_none (Nat.le_refl _)] at e; cases e) (fun _ => rfl) a2
        rw [c_gapTo_n h, cl_some, if_neg q2]
        exact fin
      · have hz : zs[y]? = some zs[y] := List.getElem?_eq_getElem (by omega)
        obtain ⟨q1, q2⟩ := hcond zs[y].1.1 (fun z e => by rw [hz] at e; rw [Option.some.inj e]) (fun e => absurd e c) a2
        rw [c_gapTo h hz, cl_some, if_neg q2]
        exact fin
    · rw [wt_u_ne (by omega), wt_u_ne (by omega), wt_u_ne (by omega), wt_u_at, wt_u_ne (by omega), wt_u_ne (by omega), b4 _ (by omega) (by omega)]
    · rw [wt_u_ne (by omega), wt_u_ne (by omega), wt_u_at, wt_u_ne (by omega), wt_u_ne (by omega), wt_u_ne (by omega), b4 _ (by omega) (by omega)]
    · rw [wt_u_ne (by omega), wt_u_ne (by omega), wt_u_ne (by omega), wt_u_ne (by omega), wt_u_ne (by omega), wt_u_ne (by omega), b4 _ (by omega) (by omega)]
    · intro c hc
      rw [wt_u_ne (by omega), wt_u_ne (by omega), wt_u_ne (by omega), wt_u_ne (by omega), wt_u_ne (by omega), wt_u_ne (by omega), b4 _ (by omega) (by omega)]
    · intro n
      have hmap : (zs.insertIdx y ((g, words, t, n), id)).map Prod.fst = vins (g, words, t, n) (zs.map Prod.fst) := by
        rw [ins_map]
        refine vins_eq (by rw [List.length_map]; exact a2) (fun x p hx hp => ?_) (fun p hp => ?_)
        · rw [List.getElem?_map] at hp
          obtain ⟨z, hz, rfl⟩ := Option.map_eq_some_iff.mp hp
          show ¬ g < z.1.1
          have hpw := ho.1
          obtain ⟨y, rfl⟩ : ∃ y', y = y' + 1 := ⟨y - 1, by omega⟩
          have hy : zs[y]? = some zs[y] := List.getElem?_eq_getElem (by omega)
          have ez : zend zs (y + 1) = zs[y].1.1 + zs[y].1.2.1 := zend_s hy
          rw [a3, ez]
          by_cases c : x = y
          · subst c
            rw [hy] at hz
            rw [Option.some.inj hz]
            omega
          · rw [List.pairwise_iff_getElem] at hpw
            have := hpw x y (by rw [List.length_map]; omega) (by rw [List.length_map]; omega) (by omega)
            rw [List.getElem_map, List.getElem_map, (List.getElem?_eq_some_iff.mp hz).2] at this
            omega
        · rw [List.getElem?_map] at hp
          obtain ⟨z, hz, rfl⟩ := Option.map_eq_some_iff.mp hp
          show g < z.1.1
          have := a4 z hz
          omega
      refine ⟨⟨?_, ?_, ?_, ?_, ?_, ?_, ?_, ?_⟩, hmap⟩
      · rw [wt_u_nk (by omega), wt_u_ne (by omega), wt_u_ne (by omega), wt_u_ne (by omega), wt_u_ne (by omega), wt_u_ne (by omega), b2, List.length_insertIdx_of_le_length a2]
      · rw [wt_u_self, hmap, vall_insq, h.2.1, nI_add]
      · rw [wt_u_nk (by omega), wt_u_ne (by omega), wt_u_ne (by omega), wt_u_ne (by omega), wt_u_ne (by omega), wt_u_ne (by omega), b3 9 (by omega), h.2.2.1]
      · unfold zids
        rw [List.length_append, List.length_map, List.length_insertIdx_of_le_length a2]
        rw [List.length_cons] at hn
        omega
      · have hd := h.2.2.2.2.1
        have hp : (zids (zs.insertIdx y ((g, words, t, n), id)) fr').Perm (zids zs (id :: fr')) := by
          unfold zids
          rw [ins_map]
          refine List.Perm.trans ((List.perm_insertIdx id _ (by rw [List.length_map]; exact a2)).append_right fr') ?_
          exact List.perm_middle.symm
        exact hp.nodup_iff.mpr hd
      · intro i hi
        have hp : (zids (zs.insertIdx y ((g, words, t, n), id)) fr').Perm (zids zs (id :: fr')) := by
          unfold zids
          rw [ins_map]
          refine List.Perm.trans ((List.perm_insertIdx id _ (by rw [List.length_map]; exact a2)).append_right fr') ?_
          exact List.perm_middle.symm
        exact h.2.2.2.2.2.1 i (hp.mem_iff.mp hi)
      · intro x i hi
        rw [wt_u_ne (by omega), wt_u_ne (by omega), wt_u_ne (by omega), wt_u_ne (by omega), wt_u_ne (by omega), wt_u_ne (by omega)]
        exact b5 _ x i hi
      · intro z hz
        rw [wt_u_ne (by omega), wt_u_ne (by omega), wt_u_ne (by omega), wt_u_ne (by omega), wt_u_ne (by omega)]
        rw [wt_u_ne (a := b + 2) (by omega), wt_u_ne (a := b + 7) (by omega), wt_u_ne (a := b + 6) (by omega), wt_u_ne (a := b + 5) (by omega), wt_u_ne (a := b + 2) (by omega)]
        rw [List.mem_insertIdx a2] at hz
        rcases hz with rfl | hz
        · refine ⟨wt_u_self, wt_u_self, wt_u_self⟩
        · have hne := f3 z hz
          have hr := (h.mem hz).2
          refine ⟨?_, ?_, ?_⟩
          · rw [wt_u_nk hne, b4 _ (by omega) (by omega)]; exact hr.1
          · rw [wt_u_nk hne, wt_u_ne (by omega), b4 _ (by omega) (by omega)]; exact hr.2.1
          · rw [wt_u_nk hne, wt_u_ne (by omega), wt_u_ne (by omega), wt_u_ne (by omega), wt_u_ne (by omega), b4 _ (by omega) (by omega)]; exact hr.2.2
end
end
section
/-! ===== the class: the rank of a place, a piece is given back ===== -/
theorem ci2 : (2 : Int32).toInt = 2 := by decide
theorem nI_half2 {k : Nat} (h : k < 2147483648) : nI k / 2 = nI (k / 2) := by
  apply Int32.toInt_inj.mp
  rw [nI_int (by omega)]
  rw [Int32.toInt_div_of_ne_right _ _ (by decide), nI_int h, ci2]
  show ((k : Int).tdiv (2 : Nat)) = _
  rw [← Int.ofNat_tdiv]
section
variable {b lim : Nat} {s s' : wt_S} {zs : List (vP × Nat)} {fr : List Nat}
/-- places grow -/
theorem zs_lt (ho : vo lim (zs.map Prod.fst)) {x y : Nat} {z z' : vP × Nat} (hx : zs[x]? = some z) (hy : zs[y]? = some z') (hxy : x < y) : z.1.1 + z.1.2.1 ≤ z'.1.1 ∧ z.1.1 < z'.1.1 := by
  have hp := ho.1
  rw [List.pairwise_iff_getElem] at hp
  have l1 := (List.getElem?_eq_some_iff.mp hx).1
  have l2 := (List.getElem?_eq_some_iff.mp hy).1
  have := hp x y (by rw [List.length_map]; exact l1) (by rw [List.length_map]; exact l2) hxy
  rw [List.getElem_map, List.getElem_map, (List.getElem?_eq_some_iff.mp hx).2, (List.getElem?_eq_some_iff.mp hy).2] at this
  have h1 := (ho.2 z.1 (List.mem_map.mpr ⟨z, List.mem_of_getElem? hx, rfl⟩)).1
  omega
theorem c_rank_loop {p : Nat} (h : PC b lim s zs fr) (hp : p < 1000000) (ho : vo lim (zs.map Prod.fst)) (hl : lim ≤ 10000) : ∀ (m lo i fu : Nat), lo + m < zs.length → i + m < 256 → m < fu → (lo = 0 ∨ ∃ z, zs[lo]? = some z ∧ z.1.1 ≤ p) → (∀ y z, lo + m < y → zs[y]? = some z → p < z.1.1) →
    ∃ x, gX5_rankOf_12 b fu s (nI p) (nI lo) (nI (lo + m)) (nI i) = some (nI x, s) ∧ x < zs.length ∧ (x = 0 ∨ ∃ z, zs[x]? = some z ∧ z.1.1 ≤ p) ∧ ∀ y z, x < y → zs[y]? = some z → p < z.1.1 := by
  have hn := h.len
  intro m
  induction m using Nat.strongRecOn with
  | _ m ih =>
    intro lo i fu hlt him hf h1 h2
    obtain ⟨fu, rfl⟩ : ∃ k, fu = k + 1 := ⟨fu - 1, by omega⟩
    rw [gX5_rankOf_12, if_neg (c_hi (by omega))]
    by_cases c : m = 0
    · subst c
      rw [if_pos (by rw [Nat.add_zero]; exact Int.le_refl _)]
      exact ⟨lo, rfl, by omega, h1, fun y z hy hz => h2 y z (by omega) hz⟩
    · rw [if_neg (by rw [nI_int (by omega), nI_int (by omega)]; omega), if_neg (c_hi (by omega)), nI_add, show nI (lo + (lo + m)) + 1 = nI (lo + (lo + m) + 1) from nI_add _ 1, nI_half2 (by omega)]
      have hM : (lo + (lo + m) + 1) / 2 = lo + (m + 1) / 2 := by omega
      rw [hM]
      generalize hd : (m + 1) / 2 = d
      have hd1 : 1 ≤ d ∧ d ≤ m := by omega
      have hz : zs[lo + d]? = some zs[lo + d] := List.getElem?_eq_getElem (by omega)
      generalize zs[lo + d] = z at hz
      obtain ⟨g1, g2, g3, g4, g5, -, -⟩ := h.at hz
      have hzp := (ho.2 z.1 (List.mem_map.mpr ⟨z, List.mem_of_getElem? hz, rfl⟩)).2.1
      rw [ix_nI (by omega) (by omega), g1, if_neg (c_lo (by omega)), if_neg (c_hi g2), ix_nI g2 (by omega), g5]
      by_cases c2 : p < z.1.1
      · rw [if_pos (by rw [nI_int (by omega), nI_int (by omega)]; omega)]
        unfold gX5_rankOf_80
        rw [show nI (lo + d) - 1 = nI (lo + (d - 1)) by rw [show lo + d = (lo + (d - 1)) + 1 by omega, i_sub1, nI_pred2], show nI i + 1 = nI (i + 1) from nI_add i 1]
        refine ih (d - 1) (by omega) lo (i + 1) fu (by omega) (by omega) (by omega) h1 (fun y z' hy hz' => ?_)
        by_cases c3 : y = lo + d
        · subst c3
          rw [hz] at hz'
          rw [← Option.some.inj hz']
          exact c2
        · have := (zs_lt ho hz hz' (by omega)).2
          omega
      · rw [if_neg (by rw [nI_int (by omega), nI_int (by omega)]; omega), show nI i + 1 = nI (i + 1) from nI_add i 1]
        have := ih (m - d) (by omega) (lo + d) (i + 1) fu (by omega) (by omega) (by omega) (Or.inr ⟨z, hz, by omega⟩) (fun y z' hy hz' => h2 y z' (by omega) hz')
        rw [show lo + d + (m - d) = lo + m by omega] at this
        exact this
/-- the rank of a place that lies in a piece -/
theorem c_rank (h : PC b lim s zs fr) (ho : vo lim (zs.map Prod.fst)) (hl : lim ≤ 10000) {x p : Nat} {z : vP × Nat} (hx : zs[x]? = some z) (hp : z.1.1 ≤ p ∧ p < z.1.1 + z.1.2.1) : gX5_rankOf b s (nI p) = some (nI x, s) := by
  have hn := h.len
  have hlx := (List.getElem?_eq_some_iff.mp hx).1
  have hz := (ho.2 z.1 (List.mem_map.mpr ⟨z, List.mem_of_getElem? hx, rfl⟩)).2.1
  obtain ⟨y, e1, e2, e3, e4⟩ := c_rank_loop h (p := p) (by omega) ho hl (zs.length - 1) 0 0 wt_N (by omega) (by omega) (by unfold wt_N; omega) (Or.inl rfl) (fun y z hy hz => by
    have := (List.getElem?_eq_some_iff.mp hz).1
    omega)
  have hy : y = x := by
    rcases Nat.lt_trichotomy y x with c | c | c
    · have := e4 x z c hx
      omega
    · exact c
    · rcases e3 with e3 | ⟨z', hz', e3⟩
      · omega
      · have := (zs_lt ho hx hz' c).1
        omega
  subst hy
  unfold gX5_rankOf
  rw [h.1, show nI zs.length - 1 = nI (0 + (zs.length - 1)) by rw [Nat.zero_add, show zs.length = (zs.length - 1) + 1 by omega, i_sub1, nI_pred2]; rfl]
  exact e1
theorem c_holding (h : PC b lim s zs fr) (ho : vo lim (zs.map Prod.fst)) (hl : lim ≤ 10000) {p : Nat} {z : vP × Nat} (hz : z ∈ zs) (hp : z.1.1 ≤ p ∧ p < z.1.1 + z.1.2.1) : gX5_holding b s (nI p) = some (nI z.2, s) := by
  obtain ⟨x, hx⟩ := List.getElem?_of_mem hz
  unfold gX5_holding
  rw [c_rank h ho hl hx hp, cl_some, c_idAt h hx, cl_some]
theorem c_turned (h : PC b lim s zs fr) (ho : vo lim (zs.map Prod.fst)) (hl : lim ≤ 10000) {p : Nat} {z : vP × Nat} (hz : z ∈ zs) (hp : z.1.1 ≤ p ∧ p < z.1.1 + z.1.2.1) : gX5_turned b s (nI p) = some (nI p + s (b + 9) z.2, s) := by
  obtain ⟨x, hx⟩ := List.getElem?_of_mem hz
  have hzl := (ho.2 z.1 (List.mem_map.mpr ⟨z, hz, rfl⟩)).2.1
  unfold gX5_turned
  rw [if_pos (nI_m1 (by omega)), c_rank h ho hl hx hp, cl_some, c_idAt h hx, cl_some, c_shiftOf (h.mem hz).1, cl_some]
theorem c_turned_m : gX5_turned b s (-1) = some (-1, s) := by
  unfold gX5_turned
  rw [if_neg (by decide)]
theorem vall_er : ∀ {ps : List vP} {x : Nat} {q : vP}, ps[x]? = some q → vall ps = vall (ps.eraseIdx x) + q.2.1 := by
  intro ps
  induction ps with
  | nil => intro x q h; simp at h
  | cons p ps ih =>
    intro x q h
    cases x with
    | zero =>
      have h : some p = some q := h
      cases h
      show p.2.1 + vall ps = vall ps + p.2.1
      omega
    | succ x =>
      have h : ps[x]? = some q := h
      show p.2.1 + vall ps = p.2.1 + vall (ps.eraseIdx x) + q.2.1
      rw [ih h]; omega
theorem er_perm {α : Type} {a : α} : ∀ {l : List α} {x : Nat}, l[x]? = some a → (a :: l.eraseIdx x).Perm l := by
  intro l
  induction l with
  | nil => intro x h; simp at h
  | cons c l ih =>
    intro x h
    cases x with
    | zero =>
      have h : some c = some a := h
      cases h
      exact List.Perm.refl _
    | succ x =>
      have h : l[x]? = some a := h
      exact (List.Perm.swap c a _).trans ((ih h).cons c)
theorem c_give (h : PC b lim s zs fr) (ho : vo lim (zs.map Prod.fst)) (hl : lim ≤ 10000) {x : Nat} {z : vP × Nat} (hx : zs[x]? = some z) : ∃ s', gX5_giveBack b s (nI z.2) = some ((), s') ∧ PC b lim s' (zs.eraseIdx x) (z.2 :: fr) ∧ s' (b + 5) = s (b + 5) ∧ s' (b + 6) = s (b + 6) ∧ s' (b + 9) = s (b + 9) ∧ PF b s s' := by
  have hn := h.len
  obtain ⟨g1, g2, g3, g4, g5, g6, g7⟩ := h.at hx
  have hq := ho.2 z.1 (List.mem_map.mpr ⟨z, List.mem_of_getElem? hx, rfl⟩)
  have hL : (zs.eraseIdx x).length = zs.length - 1 := List.length_eraseIdx_of_lt g3
  have hS : nI zs.length - 1 = nI (zs.length - 1) := by rw [show zs.length = (zs.length - 1) + 1 by omega, i_sub1, nI_pred2]; rfl
  have hva : vall (zs.map Prod.fst) = vall ((zs.eraseIdx x).map Prod.fst) + z.1.2.1 := by
    rw [er_map]
    exact vall_er (by rw [List.getElem?_map, hx]; rfl)
  refine ⟨wt_u (wt_u (wt_uf (wt_u s (b + 2) 7 (nI (zs.length - 1))) (b + 8) (mj_cpy (s (b + 8)) (s (b + 8)) (x + 1) x (zs.length - 1 - x))) (b + 8) (zs.length - 1) (nI z.2)) (b + 2) 8 (s (b + 2) 8 - nI z.1.2.1), ?_, ⟨?_, ?_, ?_, ?_, ?_, ?_, ?_, ?_⟩, ?_, ?_, ?_, ?_⟩
  · unfold gX5_giveBack
    rw [c_placeOf g2, cl_some, g5, c_rank h ho hl hx ⟨Nat.le_refl _, by omega⟩, cl_some, if_neg (nI_m1 (by omega)), if_neg (c_lo (by omega)), h.1, if_neg (by rw [nI_int (by omega), nI_int (by omega)]; omega), c_idAt h hx, cl_some, if_pos rfl, h.1, hS, wr_eq, wt_u_self, nI_sub (by omega), show nI x + 1 = nI (x + 1) from nI_add x 1, c_ac (by omega) (by omega) (by omega) (by omega)]
    rw [wt_u_ne (show b + 8 ≠ b + 2 by omega), wt_uf_ne (show b + 2 ≠ b + 8 by omega), wt_u_self, ix_nI (by omega) (by omega), wr_eq, c_wordsOf g2, cl_some, wr_eq]
    rw [wt_u_ne (show b + 4 ≠ b + 8 by omega), wt_uf_ne (show b + 4 ≠ b + 8 by omega), wt_u_ne (show b + 4 ≠ b + 2 by omega), g6, wt_u_ne (show b + 2 ≠ b + 8 by omega), wt_uf_ne (show b + 2 ≠ b + 8 by omega), wt_u_nk (show (8 : Nat) ≠ 7 by omega)]
  · rw [wt_u_nk (by omega), wt_u_ne (by omega), wt_uf_ne (by omega), wt_u_self, hL]
  · rw [wt_u_self, h.2.1, hva, nI_sub (by omega), Nat.add_sub_cancel]
  · rw [wt_u_nk (by omega), wt_u_ne (by omega), wt_uf_ne (by omega), wt_u_nk (by omega), h.2.2.1]
  · unfold zids
    rw [List.length_append, List.length_map, hL, List.length_cons]
    omega
  · have hp : (zids (zs.eraseIdx x) (z.2 :: fr)).Perm (zids zs fr) := by
      unfold zids
      refine List.perm_middle.trans ?_
      rw [er_map, ← List.cons_append]
      exact List.Perm.append_right fr (er_perm (by rw [List.getElem?_map, hx]; rfl))
    exact hp.nodup_iff.mpr h.2.2.2.2.1
  · intro i hi
    refine h.2.2.2.2.2.1 i ?_
    unfold zids at hi ⊢
    rw [List.mem_append, List.mem_map, List.mem_cons] at hi
    rw [List.mem_append, List.mem_map]
    rcases hi with ⟨y, hy, e⟩ | rfl | hi
    · exact Or.inl ⟨y, List.mem_of_mem_eraseIdx hy, e⟩
    · exact Or.inl ⟨z, List.mem_of_getElem? hx, rfl⟩
    · exact Or.inr hi
  · intro y i hi
    rw [wt_u_ne (by omega), wt_u_at, wt_uf_at]
    unfold zids at hi
    by_cases c1 : y < zs.length - 1
    · rw [List.getElem?_append_left (by rw [List.length_map, hL]; exact c1), List.getElem?_map, List.getElem?_eraseIdx] at hi
      rw [mj_upd_ne (by omega)]
      by_cases c2 : y < x
      · rw [if_pos c2] at hi
        obtain ⟨q, hq, rfl⟩ := Option.map_eq_some_iff.mp hi
        rw [mj_cpy_out (by omega)]
        exact h.2.2.2.2.2.2.1 _ _ (zids_at hq)
      · rw [if_neg c2] at hi
        obtain ⟨q, hq, rfl⟩ := Option.map_eq_some_iff.mp hi
        rw [mj_cpy_in (by omega) (by omega), show x + 1 + (y - x) = y + 1 by omega]
        exact h.2.2.2.2.2.2.1 _ _ (zids_at hq)
    · rw [List.getElem?_append_right (by rw [List.length_map, hL]; omega), List.length_map, hL] at hi
      by_cases c2 : y = zs.length - 1
      · subst c2
        rw [Nat.sub_self] at hi
        have hi : some z.2 = some i := hi
        cases hi
        exact mj_upd_self
      · rw [mj_upd_ne c2, mj_cpy_out (by omega)]
        refine h.2.2.2.2.2.2.1 y i ?_
        unfold zids
        rw [List.getElem?_append_right (by rw [List.length_map]; omega), List.length_map]
        rw [show y - (zs.length - 1) = (y - zs.length) + 1 by omega, List.getElem?_cons_succ] at hi
        exact hi
  · intro q hq
    have hq' := List.mem_of_mem_eraseIdx hq
    rw [wt_u_ne (by omega), wt_u_ne (by omega), wt_uf_ne (by omega), wt_u_ne (by omega), wt_u_ne (show b + 4 ≠ b + 2 by omega), wt_u_ne (show b + 4 ≠ b + 8 by omega), wt_uf_ne (show b + 4 ≠ b + 8 by omega), wt_u_ne (show b + 4 ≠ b + 2 by omega), wt_u_ne (show b + 7 ≠ b + 2 by omega), wt_u_ne (show b + 7 ≠ b + 8 by omega), wt_uf_ne (show b + 7 ≠ b + 8 by omega), wt_u_ne (show b + 7 ≠ b + 2 by omega)]
    exact (h.mem hq').2
  · rw [wt_u_ne (by omega), wt_u_ne (by omega), wt_uf_ne (by omega), wt_u_ne (by omega)]
  · rw [wt_u_ne (by omega), wt_u_ne (by omega), wt_uf_ne (by omega), wt_u_ne (by omega)]
  · rw [wt_u_ne (by omega), wt_u_ne (by omega), wt_uf_ne (by omega), wt_u_ne (by omega)]
  · intro c hc
    rw [wt_u_ne (by omega), wt_u_ne (by omega), wt_uf_ne (by omega), wt_u_ne (by omega)]
end
end
section
/-! ===== the class against the picture: what a world holds ===== -/
/-- fields of a task, places of the picture -/
def tf : List (Nat × Nat) := [(1, 3926), (2, 3933), (3, 3940), (4, 3954), (5, 3961), (6, 4045), (7, 3989), (8, 3996), (9, 3975), (16, 4059)]
/-- sums of a task -/
def ts : List (Nat × Nat) := [(2, 3947), (3, 4003), (4, 4010), (5, 4017), (6, 4024), (7, 4031), (8, 4038)]
theorem tf_p : ∀ e ∈ tf, 3926 ≤ e.2 ∧ e.2 ≤ 4066 ∧ (e.2 - 3926) % 7 = 0 := by decide
theorem ts_p : ∀ e ∈ ts, 3926 ≤ e.2 ∧ e.2 ≤ 4066 ∧ (e.2 - 3926) % 7 = 0 := by decide
theorem tf_i : ∀ e ∈ tf, ∀ e' ∈ tf, (e.1 = e'.1 ↔ e.2 = e'.2) := by decide
theorem ts_i : ∀ e ∈ ts, ∀ e' ∈ ts, (e.1 = e'.1 ↔ e.2 = e'.2) := by decide
theorem ft_i : ∀ e ∈ tf, ∀ e' ∈ ts, e.2 ≠ e'.2 := by decide
theorem tf_n : ∀ e ∈ tf, e.1 ≠ 0 ∧ e.1 ≠ 10 ∧ e.1 ≠ 11 ∧ e.1 ≠ 12 ∧ e.1 ≠ 13 ∧ e.1 ≠ 14 ∧ e.1 ≠ 15 ∧ e.2 ≠ 3968 ∧ e.2 ≠ 3982 ∧ e.2 ≠ 4066 ∧ e.2 ≠ 4052 := by decide
theorem ts_n : ∀ e ∈ ts, e.2 ≠ 3968 ∧ e.2 ≠ 3982 ∧ e.2 ≠ 4066 ∧ e.2 ≠ 4052 := by decide
def Ks (b : Nat) (s : wt_S) (w : Nat → Int32) (k : Nat) : Prop := s (b + 17 + 2 * k) 0 = nI k ∧ (∀ e ∈ tf, s (b + 17 + 2 * k) e.1 = w (e.2 + k)) ∧ ∀ e ∈ ts, s (b + 17 + 2 * k + 1) e.1 = w (e.2 + k)
def Kl (b : Nat) (s : wt_S) (V : vV) (k : Nat) : Prop := (V.2.2.1 k = 0 → s (b + 17 + 2 * k) 10 = -1 ∧ s (b + 17 + 2 * k) 11 = -1) ∧ (0 < V.2.2.1 k → s (b + 17 + 2 * k) 10 = V.1 (3968 + k) ∧ s (b + 17 + 2 * k) 11 = nI (vpl V k (V.2.2.1 k - 1)))
def Ka (b : Nat) (s : wt_S) (V : vV) (zs : List (vP × Nat)) (k : Nat) : Prop := (V.1 (4066 + k) = 0 → s (b + 17 + 2 * k) 12 = -1) ∧ ∀ z ∈ zs, z.1.2.2.1 = k → nI (z.1.2.2.2 + 1) = V.1 (4066 + k) → s (b + 17 + 2 * k) 12 = nI z.2
def Kr (b : Nat) (s : wt_S) (V : vV) (zs : List (vP × Nat)) (k : Nat) : Prop := (∀ z ∈ zs, z.1.2.2.1 = k → z.1.2.2.2 = 1000 → s (b + 17 + 2 * k) 13 = nI z.2) ∧ ((∀ q ∈ V.2.1, ¬ (q.2.2.1 = k ∧ q.2.2.2 = 1000)) → s (b + 17 + 2 * k) 13 = -1)
def Kg (b : Nat) (s : wt_S) (w : Nat → Int32) (k : Nat) : Prop := w (3926 + k) ≠ 0 → s (b + 17 + 2 * k) 15 = w (4052 + k)
/-- the words used in a piece, which one is below -/
def Kz (b : Nat) (s : wt_S) (V : vV) (zs : List (vP × Nat)) (k : Nat) : Prop := ∀ z ∈ zs, z.1.2.2.1 = k → s (b + 5) z.2 = nI (vud V.1 (V.2.2.2 k) z.1.2.2.2 (V.2.2.1 k)) ∧ (z.1.2.2.2 = 0 → s (b + 6) z.2 = -1) ∧ ∀ y ∈ zs, y.1.2.2.1 = k → z.1.2.2.2 = y.1.2.2.2 + 1 → s (b + 6) z.2 = nI y.2
def RCk (b : Nat) (s : wt_S) (V : vV) (zs : List (vP × Nat)) (k : Nat) : Prop := Ks b s V.1 k ∧ Kl b s V k ∧ Ka b s V zs k ∧ Kr b s V zs k ∧ Kg b s V.1 k ∧ Kz b s V zs k
/-- what is set, what is counted -/
def CG (b : Nat) (s : wt_S) (w : Nat → Int32) : Prop := (∀ j, j < 6 → s (b + 1) j = w (2048 + j)) ∧ ∀ j, j < 12 → s (b + 13) j = w (2054 + j)
/-- the program -/
def RP (q : Nat) (s : wt_S) (w : Nat → Int32) : Prop := (∀ f, f < 10 → s (q + 1) f = w (2228 + f) ∧ s (q + 2) f = w (2238 + f) ∧ s (q + 3) f = w (2248 + f) ∧ s (q + 5) f = if 1 ≤ vsz w f then vdI (vdp w 10 f) else 0) ∧ ∀ j, j < 640 → s (q + 4) j = w (2258 + j)
def RC (b lim : Nat) (s : wt_S) (V : vV) (zs : List (vP × Nat)) (fr : List Nat) : Prop := zs.map Prod.fst = V.2.1 ∧ PC b lim s zs fr ∧ CG b s V.1 ∧ (∀ k, k < 6 → RCk b s V zs k) ∧ VM (s (b + 15)) V ∧ RP 5 s V.1
/-- only this world changes -/
def CF (b : Nat) (s s' : wt_S) : Prop := ∀ c, c ≤ b ∨ b + 28 < c → s' c = s c
theorem CF.refl {b : Nat} {s : wt_S} : CF b s s := fun _ _ => rfl
theorem CF.trans {b : Nat} {s s1 s2 : wt_S} (h : CF b s s1) (h' : CF b s1 s2) : CF b s s2 := fun c hc => (h' c hc).trans (h c hc)
theorem CF.u {b c k : Nat} {s : wt_S} {v : Int32} (h : b < c ∧ c ≤ b + 28) : CF b s (wt_u s c k v) := fun d hd => wt_u_ne (by omega)
theorem CF.uf {b c : Nat} {s : wt_S} {f : Nat → Int32} (h : b < c ∧ c ≤ b + 28) : CF b s (wt_uf s c f) := fun d hd => wt_uf_ne (by omega)
theorem PF.cf {b : Nat} {s s' : wt_S} (h : PF b s s') : CF b s s' := fun c hc => h c (by omega)
/-- the worlds in question -/
def CX (b lim : Nat) : Prop := wt_B b ∧ lim ≤ wt_mz b ∧ lim ≤ 10000
theorem CX.b {b lim : Nat} (h : CX b lim) : 11 ≤ b ∧ b ≤ 40 := by
  rcases h.1 with rfl | rfl <;> omega
theorem CX.m {b lim : Nat} (h : CX b lim) : lim ≤ wt_mz b ∧ wt_mz b ≤ 10000 ∧ lim ≤ 10000 := ⟨h.2.1, by have := wt_mzn (b := b); omega, h.2.2⟩
section
variable {b lim : Nat} {s s' : wt_S} {V V' : vV} {zs zs' : List (vP × Nat)} {fr fr' : List Nat} {t k : Nat}
theorem vud_pe {w w' : Nat → Int32} {F : Nat → vF} {k : Nat} (h : vpe w w') : ∀ {n : Nat}, (∀ i, i < n → (F i).1 < 10) → vud w' F k n = vud w F k n := by
  intro n
  induction n with
  | zero => intro _; rfl
  | succ n ih =>
    intro hf
    show vud w' F k n + _ = vud w F k n + _
    rw [ih (fun i hi => hf i (by omega)), (h.sz (hf n (by omega))).2.1]
theorem ot_vpl (h : OT t V V') (hk : k < 6) (hne : k ≠ t) {i : Nat} : vpl V' k i = vpl V k i := by
  have h3 := (h.2.2.1 k hk hne).2.2
  unfold vpl
  rw [h3, (vat_eq (h.2.2.2.2.1 k _ hne)).1]
theorem OT.at (h : OT t V V') (hk : k < 6) (hne : k ≠ t) {c : Nat} (hc : 3926 ≤ c ∧ c ≤ 4066 ∧ (c - 3926) % 7 = 0) : V'.1 (c + k) = V.1 (c + k) := by
  have := (h.2.2.1 k hk hne).1 ((c - 3926) / 7) (by omega)
  rw [show 3926 + 7 * ((c - 3926) / 7) + k = c + k by omega] at this
  exact this
/-- another task is as it was -/
theorem RCk.ot (h : RCk b s V zs k) (ho : OT t V V') (hk : k < 6) (hne : k ≠ t) (hfr : ∀ i, i < V.2.2.1 k → (V.2.2.2 k i).1 < 10) (hc : s' (b + 17 + 2 * k) = s (b + 17 + 2 * k) ∧ s' (b + 17 + 2 * k + 1) = s (b + 17 + 2 * k + 1)) (hz : ∀ z : vP × Nat, z.1.2.2.1 ≠ t → (z ∈ zs' ↔ z ∈ zs)) (hu : ∀ z ∈ zs, z.1.2.2.1 = k → s' (b + 5) z.2 = s (b + 5) z.2 ∧ s' (b + 6) z.2 = s (b + 6) z.2) : RCk b s' V' zs' k := by
  obtain ⟨⟨a0, a1, a2⟩, ⟨l1, l2⟩, ⟨p1, p2⟩, ⟨r1, r2⟩, g, z⟩ := h
  obtain ⟨o1, o2, o3⟩ := ho.2.2.1 k hk hne
  obtain ⟨c1, c2⟩ := hc
  have hm : ∀ z : vP × Nat, z.1.2.2.1 = k → (z ∈ zs' ↔ z ∈ zs) := fun z hz' => hz z (by omega)
  refine ⟨⟨?_, ?_, ?_⟩, ⟨?_, ?_⟩, ⟨?_, ?_⟩, ⟨?_, ?_⟩, ?_, ?_⟩
  · rw [c1]; exact a0
  · intro e he
    rw [c1, ho.at hk hne (tf_p e he)]; exact a1 e he
  · intro e he
    rw [c2, ho.at hk hne (ts_p e he)]; exact a2 e he
  · rw [c1, o2]; exact l1
  · rw [c1, o2, ho.at hk hne (by omega), ot_vpl ho hk hne]; exact l2
  · rw [c1, ho.at hk hne (by omega)]; exact p1
  · intro z hz1 hz2
    rw [c1, ho.at hk hne (by omega)]
    exact p2 z ((hm z hz2).mp hz1) hz2
  · intro z hz1 hz2
    rw [c1]; exact r1 z ((hm z hz2).mp hz1) hz2
  · rw [c1]
    intro hq
    exact r2 (fun q hq1 hq2 => hq q ((ho.2.2.2.1 q (by omega)).mpr hq1) hq2)
  · unfold Kg
    rw [c1, ho.at (c := 3926) hk hne (by omega), ho.at (c := 4052) hk hne (by omega)]; exact g
  · intro z1 hz1 hz2
    have hz3 := (hm z1 hz2).mp hz1
    obtain ⟨u1, u2⟩ := hu z1 hz3 hz2
    obtain ⟨x1, x2, x3⟩ := z z1 hz3 hz2
    rw [u1, u2, o2, o3, vud_pe ho.1 hfr]
    exact ⟨x1, x2, fun y hy1 hy2 => x3 y ((hm y hy2).mp hy1) hy2⟩
/-- what an operation on a task has to leave alone -/
def TO (b t : Nat) (s s' : wt_S) : Prop := (∀ k, k < 6 → k ≠ t → s' (b + 17 + 2 * k) = s (b + 17 + 2 * k) ∧ s' (b + 17 + 2 * k + 1) = s (b + 17 + 2 * k + 1)) ∧ CF b s s'
theorem TO.refl : TO b t s s := ⟨fun _ _ _ => ⟨rfl, rfl⟩, CF.refl⟩
theorem TO.trans {s2 : wt_S} (h : TO b t s s') (h' : TO b t s' s2) : TO b t s s2 := ⟨fun k hk hne => ⟨((h'.1 k hk hne).1).trans (h.1 k hk hne).1, ((h'.1 k hk hne).2).trans (h.1 k hk hne).2⟩, h.2.trans h'.2⟩
theorem TO.pf (h : PF b s s') : TO b t s s' := ⟨fun k hk _ => ⟨h _ (by omega), h _ (by omega)⟩, h.cf⟩
theorem TO.u {c j : Nat} {v : Int32} (h : (b < c ∧ c ≤ b + 16) ∨ c = b + 17 + 2 * t ∨ c = b + 17 + 2 * t + 1) (ht : t < 6) : TO b t s (wt_u s c j v) := ⟨fun k hk hne => ⟨wt_u_ne (by omega), wt_u_ne (by omega)⟩, CF.u (by omega)⟩
theorem TO.uf {c : Nat} {f : Nat → Int32} (h : (b < c ∧ c ≤ b + 16) ∨ c = b + 17 + 2 * t ∨ c = b + 17 + 2 * t + 1) (ht : t < 6) : TO b t s (wt_uf s c f) := ⟨fun k hk hne => ⟨wt_uf_ne (by omega), wt_uf_ne (by omega)⟩, CF.uf (by omega)⟩
theorem RP.eq {q : Nat} {w w' : Nat → Int32} (h : RP q s w) (hp : Ipr w) (hw : vpe w w') (hc : ∀ c, q + 1 ≤ c → c ≤ q + 5 → s' c = s c) : RP q s' w' := by
  refine ⟨fun f hf => ?_, fun j hj => ?_⟩
  · rw [hc _ (by omega) (by omega), hc (q + 2) (by omega) (by omega), hc (q + 3) (by omega) (by omega), hc (q + 5) (by omega) (by omega), hw _ (Or.inl (by omega)), hw (2238 + f) (Or.inl (by omega)), hw (2248 + f) (Or.inl (by omega)), (hw.sz hf).1, hw.dp hp 10 f hf]
    exact h.1 f hf
  · rw [hc _ (by omega) (by omega), hw _ (Or.inl (by omega))]
    exact h.2 j hj
/-- a world after something was done to a task -/
theorem RC.op (h : RC b lim s V zs fr) (hx : CX b lim) (hp : Ipr V.1) (ho : OT t V V') (ht : t < 6) (hto : TO b t s s') (hfr : ∀ k, k < 6 → ∀ i, i < V.2.2.1 k → (V.2.2.2 k i).1 < 10) (hz : ∀ z : vP × Nat, z.1.2.2.1 ≠ t → (z ∈ zs' ↔ z ∈ zs)) (hu : ∀ z ∈ zs, z.1.2.2.1 ≠ t → s' (b + 5) z.2 = s (b + 5) z.2 ∧ s' (b + 6) z.2 = s (b + 6) z.2) (h1 : zs'.map Prod.fst = V'.2.1) (h2 : PC b lim s' zs' fr') (h3 : CG b s' V'.1) (h4 : RCk b s' V' zs' t) (h5 : VM (s' (b + 15)) V') : RC b lim s' V' zs' fr' := by
  have hb := hx.b
  refine ⟨h1, h2, h3, fun k hk => ?_, h5, h.2.2.2.2.2.eq hp ho.1 (fun c c1 c2 => hto.2 c (by omega))⟩
  by_cases e : k = t
  · subst e; exact h4
  · exact (h.2.2.2.1 k hk).ot ho hk e (hfr k hk) (hto.1 k hk e) hz (fun z hz1 hz2 => hu z hz1 (by omega))
theorem RC.at (h : RC b lim s V zs fr) (ht : t < 6) {e : Nat × Nat} (he : e ∈ tf) : s (b + 17 + 2 * t) e.1 = V.1 (e.2 + t) := ((h.2.2.2.1 t ht).1).2.1 e he
theorem RC.as (h : RC b lim s V zs fr) (ht : t < 6) {e : Nat × Nat} (he : e ∈ ts) : s (b + 17 + 2 * t + 1) e.1 = V.1 (e.2 + t) := ((h.2.2.2.1 t ht).1).2.2 e he
end
end
section
/-! ===== the class: what is asked of program, memory, log ===== -/
theorem ci9 : (10 : Int32).toInt = 10 := by decide
section
variable {q : Nat} {s : wt_S} {w : Nat → Int32} {f l k : Nat}
theorem c_sizeOf (h : RP q s w) (hf : f < 10) : gX6_sizeOf q s (nI f) = some (w (2228 + f), s) := by
  unfold gX6_sizeOf
  rw [if_neg (c_lo (by omega)), if_neg (by rw [nI_int (by omega), ci9]; omega), ix_nI hf (by omega), (h.1 f hf).1]
theorem c_sizeOf_n {x : Int32} (hx : ¬ (0 ≤ x.toInt ∧ x.toInt ≤ 9)) : gX6_sizeOf q s x = some (0, s) := by
  unfold gX6_sizeOf
  by_cases c : x.toInt < (0 : Int32).toInt
  · rw [if_pos c]
  · rw [ci0] at c
    rw [if_neg (by rw [ci0]; exact c), if_pos (by rw [ci9]; omega)]
theorem c_told (h : RP q s w) {x : Int32} : gX6_told q s x = some (rb (tld w x), s) := by
  unfold gX6_told
  by_cases c : 0 ≤ x.toInt ∧ x.toInt ≤ 9
  · obtain ⟨n, hn, rfl⟩ := nI_ex c.1
    have hi := nI_int hn
    have hn9 : n < 10 := by omega
    rw [c_sizeOf h hn9, cl_some]
    have e : (nI n).toInt.toNat = n := by rw [hi]; omega
    by_cases c2 : (w (2228 + n)).toInt ≤ (0 : Int32).toInt
    · rw [if_pos c2, rb_neg (fun hq => by have := hq.2; rw [e] at this; rw [ci0] at c2; omega)]
    · rw [if_neg c2, rb_pos ⟨c, by rw [e]; rw [ci0] at c2; omega⟩]
  · rw [c_sizeOf_n c, cl_some, if_pos (Int.le_refl _), rb_neg (fun hq => c hq.1)]
theorem c_isPointer (h : RP q s w) (hf : f < 10) : gX6_isPointer q s (nI f) (nI k) = some (rb (bt (w (2238 + f)) k), s) := by
  unfold gX6_isPointer
  rw [if_neg (c_lo (by omega)), if_neg (by rw [nI_int (by omega), ci9]; omega), ix_nI hf (by omega), (h.1 f hf).2.1]
  by_cases c : bt (w (2238 + f)) k
  · rw [if_neg (fun e => e c), rb_pos c]
  · rw [if_pos c, rb_neg c]
theorem c_isPointer0 (h : RP q s w) (hf : f < 10) : gX6_isPointer q s (nI f) 0 = some (rb (bt (w (2238 + f)) 0), s) := c_isPointer (k := 0) h hf
theorem c_frameWords (h : RP q s w) (hp : Ipr w) (hf : f < 10) : gX6_frameWords q s (nI f) = some (nI (vwd w f), s) := by
  unfold gX6_frameWords
  rw [c_sizeOf h hf, cl_some, Int32.add_comm, (hp.wd hf).1]
theorem c_part (h : RP q s w) (hp : Ipr w) (hf : f < 10) (hl : l < vli w f) {j : Nat} (hj : j < 4) : gX6_part q s (nI f) (nI l) (nI j) = some (w (vco f l + j), s) := by
  have hli := hp.li hf
  unfold gX6_part
  rw [if_neg (c_lo (by omega)), if_neg (by rw [nI_int (by omega), ci9]; omega), if_neg (c_lo (by omega)), ix_nI hf (by omega), (h.1 f hf).2.2.1, hli.1, if_pos (by rw [nI_int (by omega), nI_int (by omega)]; omega)]
  rw [show (nI f * 16 + nI l) * 4 + nI j = nI ((f * 16 + l) * 4 + j) by rw [li_mul2, nI_add, li_mul2, nI_add]]
  rw [if_neg (c_lo (by omega)), if_neg (by rw [nI_int (by omega)]; show ¬ (640 : Int) ≤ _; omega), ix_nI (by omega) (by omega), h.2 _ (by omega)]
  unfold vco
  rw [show 2258 + ((f * 16 + l) * 4 + j) = 2258 + 4 * (16 * f + l) + j by omega]
theorem c_part0 (h : RP q s w) (hp : Ipr w) (hf : f < 10) (hl : l < vli w f) : gX6_part q s (nI f) (nI l) 0 = some (w (vco f l), s) := c_part (j := 0) h hp hf hl (by omega)
theorem c_part1 (h : RP q s w) (hp : Ipr w) (hf : f < 10) (hl : l < vli w f) : gX6_part q s (nI f) (nI l) 1 = some (w (vco f l + 1), s) := c_part (j := 1) h hp hf hl (by omega)
theorem c_part2 (h : RP q s w) (hp : Ipr w) (hf : f < 10) (hl : l < vli w f) : gX6_part q s (nI f) (nI l) 2 = some (w (vco f l + 2), s) := c_part (j := 2) h hp hf hl (by omega)
theorem c_part3 (h : RP q s w) (hp : Ipr w) (hf : f < 10) (hl : l < vli w f) : gX6_part q s (nI f) (nI l) 3 = some (w (vco f l + 3), s) := c_part (j := 3) h hp hf hl (by omega)
theorem c_part_n (h : RP q s w) (hp : Ipr w) (hf : f < 10) (hl : vli w f ≤ l) (hb : l < 2147483648) {j : Int32} : gX6_part q s (nI f) (nI l) j = some (-1, s) := by
  have hli := hp.li hf
  unfold gX6_part
  rw [if_neg (c_lo (by omega)), if_neg (by rw [nI_int (by omega), ci9]; omega), if_neg (c_lo hb), ix_nI hf (by omega), (h.1 f hf).2.2.1, hli.1, if_neg (by rw [nI_int (by omega), nI_int (by omega)]; omega)]
theorem c_isFunction {x : Int32} : gX10_isFunction s x = some (rb (0 ≤ x.toInt ∧ x.toInt ≤ 9), s) := by
  unfold gX10_isFunction
  by_cases c1 : x.toInt < (0 : Int32).toInt
  · rw [if_pos c1, rb_neg (fun hq => by rw [ci0] at c1; omega)]
  · rw [if_neg c1]
    rw [ci0] at c1
    by_cases c2 : (10 : Int32).toInt ≤ x.toInt
    · rw [if_pos c2, rb_neg (fun hq => by rw [ci9] at c2; omega)]
    · rw [if_neg c2, rb_pos (by rw [ci9] at c2; omega)]
theorem c_isTask {x : Int32} : gX10_isTask s x = some (rb (0 ≤ x.toInt ∧ x.toInt ≤ 5), s) := by
  have c6 : (6 : Int32).toInt = 6 := by decide
  unfold gX10_isTask
  by_cases c1 : x.toInt < (0 : Int32).toInt
  · rw [if_pos c1, rb_neg (fun hq => by rw [ci0] at c1; omega)]
  · rw [if_neg c1]
    rw [ci0] at c1
    by_cases c2 : (6 : Int32).toInt ≤ x.toInt
    · rw [if_pos c2, rb_neg (fun hq => by rw [c6] at c2; omega)]
    · rw [if_neg c2, rb_pos (by rw [c6] at c2; omega)]
theorem c_deepOf (h : RP q s w) (hf : f < 10) : gX6_deepOf q s (nI f) = some (if 1 ≤ vsz w f then vdI (vdp w 10 f) else 0, s) := by
  unfold gX6_deepOf
  rw [c_isFunction, cl_some, if_rb, if_pos (by rw [nI_int (by omega)]; omega), ix_nI hf (by omega), (h.1 f hf).2.2.2]
end
section
variable {b lim : Nat} {s : wt_S} {w : Nat → Int32} {f k p : Nat}
theorem c_covers (h : RP 5 s w) (hg : CG b s w) (hp : Ipr w) (hf : f < 10) (hs : 1 ≤ vsz w f) (hm : w 2050 = 0 ∨ w 2050 = 1) {z : Nat} (hr : w 2051 = nI z) (hz : z ≤ 80) : gX9_covers b s (nI f) = some (rb (vmg w f = true), s) := by
  have e2 : s (b + 1) 2 = w 2050 := hg.1 2 (by omega)
  have e3 : s (b + 1) 3 = w 2051 := hg.1 3 (by omega)
  unfold gX9_covers
  rw [c_deepOf h hf, cl_some, if_pos hs, e2, e3]
  unfold vmg
  rcases hm with hm | hm
  · rw [hm, if_pos (by decide), rb_neg (by simp)]
  · rw [hm, if_neg (by decide)]
    cases e : vdp w 10 f with
    | none =>
      show (if vdI none = (-2 : Int32) then _ else _) = _
      rw [if_pos (show vdI none = (-2 : Int32) from rfl), rb_neg (by simp)]
    | some d =>
      have hd := vdp_le hp hf e
      have e1 : vdI (some d) = nI d := rfl
      rw [e1, if_neg (fun hq => by
        have := congrArg Int32.toInt hq
        rw [nI_int (by omega)] at this
        have h2 : (-2 : Int32).toInt = -2 := by decide
        omega), hr, nI_int (by omega), nI_int (by omega)]
      have e4 : (nI z).toInt.toNat = z := by rw [nI_int (by omega)]; omega
      by_cases c : z < d
      · rw [if_pos (by omega), rb_neg]
        simp only [Bool.and_eq_true, decide_eq_true_eq, not_and, Nat.not_le]
        intro _
        omega
      · rw [if_neg (by omega), rb_pos]
        simp only [Bool.and_eq_true, decide_eq_true_eq]
        exact ⟨by decide, by omega⟩
theorem c_needOf (h : RP 5 s w) (hg : CG b s w) (hp : Ipr w) (hf : f < 10) (hs : 1 ≤ vsz w f) (hm : w 2050 = 0 ∨ w 2050 = 1) {z : Nat} (hr : w 2051 = nI z) (hz : z ≤ 80) : gX9_needOf b s (nI f) = some (nI (vnd w f), s) := by
  unfold gX9_needOf
  rw [c_covers h hg hp hf hs hm hr hz, cl_some, if_rb]
  unfold vnd
  by_cases c : vmg w f = true
  · rw [if_pos c, if_pos c, c_deepOf h hf, cl_some, if_pos hs]
    unfold vmg at c
    rw [Bool.and_eq_true] at c
    cases e : vdp w 10 f with
    | none => rw [e] at c; simp at c
    | some d => rfl
  · rw [if_neg c, if_neg c, c_frameWords h hp hf, cl_some]
theorem c_word (hp : p < wt_mz b) : gX3_word b s (nI p) = some (s (b + 15) p, s) := by
  have hm := wt_mzn (b := b)
  unfold gX3_word
  rw [if_neg (c_lo (by omega)), if_neg (by rw [wt_mzi, nI_int (by omega)]; omega), ix_nI hp (by omega)]
theorem c_word_m : gX3_word b s (-1) = some (-1, s) := by
  unfold gX3_word
  rw [if_pos c_m1]
theorem c_put {v : Int32} (hp : p < wt_mz b) : gX3_put b s (nI p) v = some ((), wt_u s (b + 15) p v) := by
  have hm := wt_mzn (b := b)
  unfold gX3_put
  rw [if_neg (c_lo (by omega)), if_neg (by rw [wt_mzi, nI_int (by omega)]; omega), ix_nI hp (by omega), wr_eq]
theorem c_put_m {v : Int32} : gX3_put b s (-1) v = some ((), s) := by
  unfold gX3_put
  rw [if_pos c_m1]
theorem c_add {T : Nat} {v : Int32} (hk : k < 12) (hT : b + 13 ≠ T + 1) : gX9_add b T s (nI k) v = some ((), wt_u (wt_u s (T + 1) k (s (T + 1) k + v)) (b + 13) k (s (b + 13) k + v)) := by
  unfold gX9_add
  rw [if_neg (c_lo (by omega)), if_neg (by rw [nI_int (by omega)]; show ¬ (12 : Int) ≤ _; omega), ix_nI hk (by omega), ix_nI hk (by omega), wr_eq, ix_nI hk (by omega), ix_nI hk (by omega), wr_eq, wt_u_ne hT]
/-- only the log changes -/
def LF (b : Nat) (s s' : wt_S) : Prop := ∀ c, c ≠ b + 11 → c ≠ b + 12 → s' c = s c
theorem LF.refl : LF b s s := fun _ _ _ => rfl
theorem LF.u {s1 : wt_S} {c j : Nat} {v : Int32} (h : LF b s s1) (hc : c = b + 11 ∨ c = b + 12) : LF b s (wt_u s1 c j v) := fun d h1 h2 => (wt_u_ne (by omega)).trans (h d h1 h2)
theorem c_write {i1 i2 i3 i4 : Int32} : Ok (fun _ s' => LF b s s') (gX1_write b s i1 i2 i3 i4) := by
  have l0 : (0 : Int32).toInt = 0 := rfl
  unfold gX1_write
  have hr := rem40 (s (b + 11) 1)
  generalize (s (b + 11) 1 - s (b + 11) 1 / 40 * 40) = y at *
  refine ok_if (fun _ => ok_some LF.refl) (fun c => ok_if (fun _ => ok_some LF.refl) (fun _ => ?_))
  have r0 := r40_4 hr (by omega) 0 (by omega)
  have r1 := r40_4 hr (by omega) 1 (by omega)
  have r2 := r40_4 hr (by omega) 2 (by omega)
  have r3 := r40_4 hr (by omega) 3 (by omega)
  rw [show y * 4 + nI 0 = y * 4 from Int32.add_zero _] at r0
  refine ok_ix (by omega) (by omega) (fun k2 _ _ => ok_wr ?_)
  refine ok_ix r1.1 r1.2 (fun k2 _ _ => ok_wr ?_)
  refine ok_ix r2.1 r2.2 (fun k2 _ _ => ok_wr ?_)
  refine ok_ix r3.1 r3.2 (fun k2 _ _ => ok_wr (ok_wr (ok_some ?_)))
  exact ((((LF.refl.u (Or.inr rfl)).u (Or.inr rfl)).u (Or.inr rfl)).u (Or.inr rfl)).u (Or.inl rfl)
theorem c_writeLog {i1 : Int32} {i : Nat} (hi : i < 256) : ∃ s', gX9_writeLog b s i1 (nI i) = some ((), s') ∧ LF b s s' := by
  unfold gX9_writeLog
  rw [c_ownerOf hi, cl_some, c_placeOf hi, cl_some, c_wordsOf hi, cl_some]
  obtain ⟨r, s', e, h⟩ := c_write (b := b) (s := s) (i1 := i1) (i2 := s (b + 7) i) (i3 := s (b + 3) i) (i4 := s (b + 4) i)
  rw [e, cl_some]
  exact ⟨s', rfl, h⟩
end
section
variable {b lim : Nat} {s s' : wt_S} {V V' : vV} {zs : List (vP × Nat)} {fr : List Nat} {t k : Nat}
theorem TO.lf (h : LF b s s') : TO b t s s' := ⟨fun k _ _ => ⟨h _ (by omega) (by omega), h _ (by omega) (by omega)⟩, fun c hc => h c (by omega) (by omega)⟩
/-- what RC looks at has not changed -/
theorem RC.eq (h : RC b lim s V zs fr) (hx : CX b lim) (he : ∀ c, c ≠ b + 11 → c ≠ b + 12 → c ≠ b + 9 → c ≠ b + 16 → c < b + 29 → s' c = s c) : RC b lim s' V zs fr := by
  have hb := hx.b
  obtain ⟨h1, h2, ⟨h3, h3'⟩, h4, h5, ⟨h6, h6'⟩⟩ := h
  refine ⟨h1, h2.eq (fun c hc => he c (by omega) (by omega) (by omega) (by omega) (by omega)), ⟨?_, ?_⟩, fun k hk => ?_, ?_, ?_, ?_⟩
  · rw [he _ (by omega) (by omega) (by omega) (by omega) (by omega)]; exact h3
  · rw [he _ (by omega) (by omega) (by omega) (by omega) (by omega)]; exact h3'
  · have := h4 k hk
    unfold RCk Ks Kl Ka Kr Kg Kz at this ⊢
    rw [he (b + 17 + 2 * k) (by omega) (by omega) (by omega) (by omega) (by omega), he (b + 17 + 2 * k + 1) (by omega) (by omega) (by omega) (by omega) (by omega), he (b + 5) (by omega) (by omega) (by omega) (by omega) (by omega), he (b + 6) (by omega) (by omega) (by omega) (by omega) (by omega)]
    exact this
  · rw [he _ (by omega) (by omega) (by omega) (by omega) (by omega)]; exact h5
  · rw [he (5 + 1) (by omega) (by omega) (by omega) (by omega) (by omega), he (5 + 2) (by omega) (by omega) (by omega) (by omega) (by omega), he (5 + 3) (by omega) (by omega) (by omega) (by omega) (by omega), he (5 + 5) (by omega) (by omega) (by omega) (by omega) (by omega)]; exact h6
  · rw [he (5 + 4) (by omega) (by omega) (by omega) (by omega) (by omega)]; exact h6'
theorem RC.lf (h : RC b lim s V zs fr) (hx : CX b lim) (he : LF b s s') : RC b lim s' V zs fr := h.eq hx (fun c h1 h2 _ _ _ => he c h1 h2)
end
end
