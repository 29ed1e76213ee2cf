/-! ===== the methods that are known otherwise: Arrays.fill, the reference's copies, its round when idle ===== -/
noncomputable def sy_idle (K : sy_K) (f : Nat → Nat) : Bool := sy_all [0, 1, 2, 3, 4, 5] fun t => match sy_cst K (f (3926 + t)) with
  | some c => Nat.beq c 2147483648
  | none => false
noncomputable def sy_fill (ml : Nat) (as : List (mj_v Nat)) (h : mj_h Nat) : Option (Option (mj_v Nat) × mj_h Nat) := match Nat.beq ml 4, as with
  | true, [.inr (some a), .inl v] => match mj_nth h a with
    | some (.inl (0, n, f)) => match Nat.ble 4 a && Nat.ble n 100000 with
      | true => some (none, mj_put h a (.inl (0, n, mj_cpy (fun _ => v) f 0 0 n)))
      | false => none
    | _ => none
  | _, _ => none
noncomputable def sy_copies (ml : Nat) (as : List (mj_v Nat)) (h : mj_h Nat) : Option (Option (mj_v Nat) × mj_h Nat) := match Nat.beq ml 3, as with
  | true, [.inr (some a), .inr (some b)] => match mj_nth h a, mj_nth h b with
    | some (.inl (0, n0, f)), some (.inl (0, n1, f')) => match Nat.ble 4 b && Nat.ble n0 100000 && Nat.ble n1 100000 && Nat.ble 4073 n0 && Nat.ble 4073 n1, Nat.beq a b with
      | true, false => some (none, mj_put h b (.inl (0, n1, mj_cpy f f' 0 0 4073)))
      | _, _ => none
    | _, _ => none
  | _, _ => none
noncomputable def sy_round (K : sy_K) (ml : Nat) (as : List (mj_v Nat)) (h : mj_h Nat) : Option (Option (mj_v Nat) × mj_h Nat) := match Nat.beq ml 5, as with
  | true, [.inr (some a), .inl v] => match mj_nth h a with
    | some (.inr (.inr (11, .inr (some b) :: _))) => match mj_nth h b with
      | some (.inl (0, 4073, f)) => match Nat.ble 4 a && sy_idle K f, sy_lt K v 2147483649, sy_lt K 2147483748 v with
        | true, some false, some false => some (some (.inl 2147483648), h)
        | _, _, _ => none
      | _ => none
    | _ => none
  | _, _ => none
noncomputable def sy_it (K : sy_K) (k ml : Nat) (as : List (mj_v Nat)) (h : mj_h Nat) : Option (Option (mj_v Nat) × mj_h Nat) := match Nat.beq k 252 with
  | true => sy_fill ml as h
  | false => match Nat.beq k 153 with
    | true => sy_copies ml as h
    | false => match Nat.beq k 218 with
      | true => sy_round K ml as h
      | false => none
theorem mj_cds_f : mj_cds[252]? = some kJ7_fill_53178 := by rw [← mj_nth_eq]; rfl
theorem mj_cds_c : mj_cds[153]? = some kX11_copies := by rw [← mj_nth_eq]; rfl
theorem mj_cds_r : mj_cds[218]? = some kX11_round := by rw [← mj_nth_eq]; rfl
theorem sy_hit : sy_Hit sy_it := by
  intro env K k ml as h v h1 hM hv
  have nth : ∀ a, mj_nth (mg_h (sy_g env) h) a = (mj_nth h a).map (mg_c (sy_g env)) := fun a => mg_nth _ _ _
  unfold sy_it at hv
  split at hv
  · rename_i hk
    obtain rfl := Nat.eq_of_beq_eq_true hk
    refine ⟨_, mj_cds_f, fun d => ?_⟩
    unfold sy_fill at hv
    split at hv
    · rename_i a w hml
      obtain rfl := Nat.eq_of_beq_eq_true hml
      split at hv
      · rename_i n f ha
        split at hv
        · rename_i hb
          cases hv
          rw [Bool.and_eq_true] at hb
          have b1 := sy_ble_t hb.1
          have b2 := sy_ble_t hb.2
          have := mj_fill_run (d := d + 2) (v := sy_g env w) (h := mg_h (sy_g env) h) (a := a) (n := n) (f := fun j => sy_g env (f j)) (by rw [nth, ha]; rfl) b1 (by omega)
          rw [show mg_h (sy_g env) (mj_put h a (.inl (0, n, mj_cpy (fun _ => w) f 0 0 n))) = mj_put (mg_h (sy_g env) h) a (.inl (0, n, mj_cpy (fun _ => sy_g env w) (fun j => sy_g env (f j)) 0 0 n)) by
            unfold mg_h; rw [mg_put]; show mj_put _ a (Sum.inl (0, n, fun j => sy_g env (mj_cpy (fun _ => w) f 0 0 n j))) = _; rw [mg_cpy]]
          exact this
        · cases hv
      · cases hv
    · cases hv
  · split at hv
    · rename_i hk
      obtain rfl := Nat.eq_of_beq_eq_true hk
      refine ⟨_, mj_cds_c, fun d => ?_⟩
      unfold sy_copies at hv
      split at hv
      · rename_i a b hml
        obtain rfl := Nat.eq_of_beq_eq_true hml
        split at hv
        · rename_i n0 f n1 f' ha hb0
          split at hv
          · rename_i hb hne
            cases hv
            simp only [Bool.and_eq_true] at hb
            obtain ⟨⟨⟨⟨b1, b2⟩, b3⟩, b4⟩, b5⟩ := hb
            have b1 := sy_ble_t b1
            have b2 := sy_ble_t b2
            have b3 := sy_ble_t b3
            have := mj_copies_run (d := d + 2) (h := mg_h (sy_g env) h) (a := a) (b := b) (n0 := n0) (n1 := n1) (f := fun j => sy_g env (f j)) (g := fun j => sy_g env (f' j)) (by rw [nth, ha]; rfl) (by rw [nth, hb0]; rfl) (Nat.ne_of_beq_eq_false hne) b1 (sy_ble_t b4) (sy_ble_t b5) (by omega) (by omega)
            rw [show mg_h (sy_g env) (mj_put h b (.inl (0, n1, mj_cpy f f' 0 0 4073))) = mj_put (mg_h (sy_g env) h) b (.inl (0, n1, mj_cpy (fun j => sy_g env (f j)) (fun j => sy_g env (f' j)) 0 0 4073)) by
              unfold mg_h; rw [mg_put]; show mj_put _ b (Sum.inl (0, n1, fun j => sy_g env (mj_cpy f f' 0 0 4073 j))) = _; rw [mg_cpy]]
            exact this
          · cases hv
        · cases hv
      · cases hv
    · split at hv
      · rename_i hk
        obtain rfl := Nat.eq_of_beq_eq_true hk
        refine ⟨_, mj_cds_r, fun d => ?_⟩
        unfold sy_round at hv
        split at hv
        · rename_i a w hml
          obtain rfl := Nat.eq_of_beq_eq_true hml
          split at hv
          · rename_i b fs ha
            split at hv
            · rename_i f hb0
              split at hv
              · rename_i hb h1 h2
                cases hv
                rw [Bool.and_eq_true] at hb
                have e1 := sy_lt_spec hM h1
                have e2 := sy_lt_spec hM h2
                have c1 : sy_g env 2147483649 = Int32.ofInt 1 := by unfold sy_g; rw [if_pos (by decide)]; rfl
                have c2 : sy_g env 2147483748 = Int32.ofInt 100 := by unfold sy_g; rw [if_pos (by decide)]; rfl
                rw [c1] at e1
                rw [c2] at e2
                have := mj_round_run (d := d) (h := mg_h (sy_g env) h) (a := a) (b := b) (fs := mg_s (sy_g env) fs) (f := fun j => sy_g env (f j)) (n := sy_g env w) (by rw [nth, ha]; rfl) (sy_ble_t hb.1) (by rw [nth, hb0]; rfl) (fun t ht => by
                  have hq := sy_all_spec hb.2 t (by
                    match t, ht with
                    | 0, _ => decide
                    | 1, _ => decide
                    | 2, _ => decide
                    | 3, _ => decide
                    | 4, _ => decide
                    | 5, _ => decide)
                  split at hq
                  · rename_i c hc
                    have h3 := sy_cst_spec hM hc
                    have h4 := Nat.eq_of_beq_eq_true hq
                    have h5 := sy_bz_int (sy_g env (f (3926 + t)))
                    refine Int32.toInt_inj.mp ?_
                    show _ = (0 : Int)
                    omega
                  · cases hq) (of_decide_eq_false e1) (of_decide_eq_false e2)
                have c3 : sy_g env 2147483648 = Int32.ofInt 0 := by unfold sy_g; rw [if_pos (by decide)]; rfl
                show mj_Rn (d + 2) kX11_round kX11_round _ [] _ (some (.inl (sy_g env 2147483648)), _)
                rw [c3]
                exact this
              · cases hv
            · cases hv
          · cases hv
        · cases hv
      · cases hv
theorem sy_g_nat (env : Nat → Int32) (l : List Nat) (h : ∀ v ∈ l, v ≤ 1000) : (fun j => sy_g env (sy_fn l j)) = mj_fn (l.map Int32.ofNat) := by
  funext j
  unfold sy_fn mj_fn
  rw [mj_nth_eq]
  cases hj : l[j]? with
  | none =>
    rw [List.getD_eq_getElem?_getD, List.getElem?_map, hj]
    show sy_g env 2147483648 = 0
    unfold sy_g
    rw [if_pos (by decide)]
    rfl
  | some v =>
    have hv := h v (List.mem_of_getElem? hj)
    rw [List.getD_eq_getElem?_getD, List.getElem?_map, hj]
    show sy_g env (v + 2147483648) = Int32.ofNat v
    unfold sy_g
    rw [if_pos (by omega), sy_int_eq, ← Int32.ofInt_eq_ofNat, show ((v + 2147483648 : Nat) : Int) - 2147483648 = (v : Int) by omega]
theorem sy_old_eq (env : Nat → Int32) (L : Nat) : mg_h (sy_g env) (sy_old L) = mj_old L env := by
  have h0 : (fun j => sy_g env (j + 4294967296)) = env := by
    funext j
    unfold sy_g
    rw [if_neg (by omega), show j + 4294967296 - 4294967296 = j by omega]
  have h1 := sy_g_nat env [8, 0, 0, 10, 1, 10] (by decide)
  have h2 := sy_g_nat env [64, 1, 1, 80, 3, 90] (by decide)
  have h3 := sy_g_nat env [16, 1, 1, 40, 1, 60] (by decide)
  show [Sum.inl (0, L, fun j => sy_g env (j + 4294967296)), Sum.inl (0, 6, fun j => sy_g env (sy_fn [8, 0, 0, 10, 1, 10] j)), Sum.inl (0, 6, fun j => sy_g env (sy_fn [64, 1, 1, 80, 3, 90] j)), Sum.inl (0, 6, fun j => sy_g env (sy_fn [16, 1, 1, 40, 1, 60] j))] = _
  rw [h0, h1, h2, h3]
  rfl
theorem sy_sz_eq (g : Nat → Int32) (h : mj_h Nat) : mj_sz (mg_h g h) = sy_sz h := by
  induction h with
  | nil => rfl
  | cons c h ih =>
    show (mj_csz (mg_c g c) :: (mg_h g h).map mj_csz).sum = _
    rw [List.sum_cons]
    show _ + mj_sz (mg_h g h) = _
    rw [ih]
    rcases c with ⟨t, n, f⟩ | (⟨n, f⟩ | ⟨ci, fs⟩)
    · rfl
    · rfl
    · show (mg_s g fs).length + _ = mj_len fs + _
      rw [mj_len_eq]
      unfold mg_s
      rw [List.length_map]
      rfl
/-- the law's run, out of a symbolic one -/
theorem sy_law_run {L n : Nat} {K : sy_K} {env : Nat → Int32} (hr : sy_law sy_it L n K = true) (hM : sy_M env K) : ∃ N h1, mj_exec mj_I mj_cds N 30 kL_law kL_law [some (.inr (some 0)), none, none, none] [] (mj_old L env) = some (some (.inl 1), h1) ∧ h1.length ≤ 600000 ∧ mj_sz h1 ≤ 7302250 := by
  obtain ⟨K', v, h1, a1, a2, N, a3⟩ := sy_sound sy_hit env _ _ _ _ _ _ _ _ _ hr hM
  rw [sy_old_eq] at a3
  unfold sy_fin at a2
  split at a2
  · rename_i a
    split at a2
    · rename_i c hc
      rw [Bool.and_eq_true, Bool.and_eq_true] at a2
      have e1 := sy_cst_spec a1 hc
      have e2 := Nat.eq_of_beq_eq_true a2.1
      have e3 := sy_bz_int (sy_g env a)
      have hv : sy_g env a = 1 := Int32.toInt_inj.mp (by show _ = (1 : Int); omega)
      refine ⟨N, mg_h (sy_g env) h1, ?_, ?_, ?_⟩
      · rw [← hv]
        exact a3
      · have := sy_ble_t a2.2.1
        rw [mj_len_eq] at this
        unfold mg_h
        rw [List.length_map]
        exact this
      · rw [sy_sz_eq]
        exact sy_ble_t a2.2.2
    · cases a2
  · cases a2
