/-! ===== runs, an instruction a row ===== -/
section
variable {d : Nat} {cd tl : List mj_r} {pc x : Nat} {xs : List Nat} {loc : mj_l Int32} {st rest : mj_s Int32} {h : mj_h Int32} {R0 : Option (mj_v Int32) × mj_h Int32}
theorem rn_iload {i : Nat} {v : Int32} (hv : mj_nth loc i = some (some (.inl v))) (K : mj_Rn d cd tl loc (.inl v :: st) h R0) : mj_Rn d cd ((pc, .iload i, x, xs) :: tl) loc st h R0 := by
  refine mj_Rn.step ?_
  show mj_iload loc st h (fun loc st h => mj_Rn d cd tl loc st h R0) False i
  unfold mj_iload
  rw [hv]
  exact K
theorem rn_iload_n {i : Fin 4} {v : Int32} (hv : mj_nth loc i.val = some (some (.inl v))) (K : mj_Rn d cd tl loc (.inl v :: st) h R0) : mj_Rn d cd ((pc, .iload_n i, x, xs) :: tl) loc st h R0 := by
  refine mj_Rn.step ?_
  show mj_iload loc st h (fun loc st h => mj_Rn d cd tl loc st h R0) False i.val
  unfold mj_iload
  rw [hv]
  exact K
theorem rn_aload {i a : Nat} (hv : mj_nth loc i = some (some (.inr (some a)))) (K : mj_Rn d cd tl loc (.inr (some a) :: st) h R0) : mj_Rn d cd ((pc, .aload i, x, xs) :: tl) loc st h R0 := by
  refine mj_Rn.step ?_
  show mj_aload loc st h (fun loc st h => mj_Rn d cd tl loc st h R0) False i
  unfold mj_aload
  rw [hv]
  exact K
theorem rn_aload_n {i : Fin 4} {a : Nat} (hv : mj_nth loc i.val = some (some (.inr (some a)))) (K : mj_Rn d cd tl loc (.inr (some a) :: st) h R0) : mj_Rn d cd ((pc, .aload_n i, x, xs) :: tl) loc st h R0 := by
  refine mj_Rn.step ?_
  show mj_aload loc st h (fun loc st h => mj_Rn d cd tl loc st h R0) False i.val
  unfold mj_aload
  rw [hv]
  exact K
theorem rn_istore {i : Nat} {v : Int32} (K : mj_Rn d cd tl (mj_put loc i (some (.inl v))) rest h R0) : mj_Rn d cd ((pc, .istore i, x, xs) :: tl) loc (.inl v :: rest) h R0 := mj_Rn.step K
theorem rn_istore_n {i : Fin 4} {v : Int32} (K : mj_Rn d cd tl (mj_put loc i.val (some (.inl v))) rest h R0) : mj_Rn d cd ((pc, .istore_n i, x, xs) :: tl) loc (.inl v :: rest) h R0 := mj_Rn.step K
theorem rn_astore {i a : Nat} (K : mj_Rn d cd tl (mj_put loc i (some (.inr (some a)))) rest h R0) : mj_Rn d cd ((pc, .astore i, x, xs) :: tl) loc (.inr (some a) :: rest) h R0 := mj_Rn.step K
theorem rn_astore_n {i : Fin 4} {a : Nat} (K : mj_Rn d cd tl (mj_put loc i.val (some (.inr (some a)))) rest h R0) : mj_Rn d cd ((pc, .astore_n i, x, xs) :: tl) loc (.inr (some a) :: rest) h R0 := mj_Rn.step K
theorem rn_iconst {n : Int} (K : mj_Rn d cd tl loc (.inl (Int32.ofInt n) :: st) h R0) : mj_Rn d cd ((pc, .iconst n, x, xs) :: tl) loc st h R0 := mj_Rn.step K
theorem rn_bipush {n : Int} (K : mj_Rn d cd tl loc (.inl (Int32.ofInt n) :: st) h R0) : mj_Rn d cd ((pc, .bipush n, x, xs) :: tl) loc st h R0 := mj_Rn.step K
theorem rn_sipush {n : Int} (K : mj_Rn d cd tl loc (.inl (Int32.ofInt n) :: st) h R0) : mj_Rn d cd ((pc, .sipush n, x, xs) :: tl) loc st h R0 := mj_Rn.step K
theorem rn_iadd {a b : Int32} (K : mj_Rn d cd tl loc (.inl (a + b) :: rest) h R0) : mj_Rn d cd ((pc, .iadd, x, xs) :: tl) loc (.inl b :: .inl a :: rest) h R0 := mj_Rn.step K
theorem rn_isub {a b : Int32} (K : mj_Rn d cd tl loc (.inl (a - b) :: rest) h R0) : mj_Rn d cd ((pc, .isub, x, xs) :: tl) loc (.inl b :: .inl a :: rest) h R0 := mj_Rn.step K
theorem rn_imul {a b : Int32} (K : mj_Rn d cd tl loc (.inl (a * b) :: rest) h R0) : mj_Rn d cd ((pc, .imul, x, xs) :: tl) loc (.inl b :: .inl a :: rest) h R0 := mj_Rn.step K
theorem rn_iand {a b : Int32} (K : mj_Rn d cd tl loc (.inl (a &&& b) :: rest) h R0) : mj_Rn d cd ((pc, .iand, x, xs) :: tl) loc (.inl b :: .inl a :: rest) h R0 := mj_Rn.step K
theorem rn_iinc {i : Nat} {n : Int} {v w : Int32} (hv : mj_nth loc i = some (some (.inl v))) (hw : v + Int32.ofInt n = w) (K : mj_Rn d cd tl (mj_put loc i (some (.inl w))) st h R0) : mj_Rn d cd ((pc, .iinc i n, x, xs) :: tl) loc st h R0 := by
  refine mj_Rn.step ?_
  show mj_iinc mj_I loc st h (fun loc st h => mj_Rn d cd tl loc st h R0) False i n
  unfold mj_iinc
  rw [hv]
  subst hw
  exact K
theorem rn_icmp {c : Jvm.ClassFile.Cond} {off : Int} {a b : Int32} (Kt : mj_cm c a b = true → mj_Rn d cd (mj_drop x cd) loc rest h R0) (Kf : mj_cm c a b = false → mj_Rn d cd tl loc rest h R0) : mj_Rn d cd ((pc, .if_icmp c off, x, xs) :: tl) loc (.inl b :: .inl a :: rest) h R0 := by
  refine mj_Rn.step ?_
  show (match some (mj_cm c a b) with
    | some true => mj_Rn d cd (mj_drop x cd) loc rest h R0
    | some false => mj_Rn d cd tl loc rest h R0
    | none => False)
  cases hc : mj_cm c a b with
  | true => exact Kt hc
  | false => exact Kf hc
theorem rn_ifc {c : Jvm.ClassFile.Cond} {off : Int} {a : Int32} (Kt : mj_cm c a (Int32.ofInt 0) = true → mj_Rn d cd (mj_drop x cd) loc rest h R0) (Kf : mj_cm c a (Int32.ofInt 0) = false → mj_Rn d cd tl loc rest h R0) : mj_Rn d cd ((pc, .ifCond c off, x, xs) :: tl) loc (.inl a :: rest) h R0 := by
  refine mj_Rn.step ?_
  show (match some (mj_cm c a (Int32.ofInt 0)) with
    | some true => mj_Rn d cd (mj_drop x cd) loc rest h R0
    | some false => mj_Rn d cd tl loc rest h R0
    | none => False)
  cases hc : mj_cm c a (Int32.ofInt 0) with
  | true => exact Kt hc
  | false => exact Kf hc
theorem rn_goto {off : Int} (K : mj_Rn d cd (mj_drop x cd) loc st h R0) : mj_Rn d cd ((pc, .goto off, x, xs) :: tl) loc st h R0 := mj_Rn.step K
theorem rn_dup {v : mj_v Int32} (K : mj_Rn d cd tl loc (v :: v :: rest) h R0) : mj_Rn d cd ((pc, .dup, x, xs) :: tl) loc (v :: rest) h R0 := mj_Rn.step K
theorem rn_dup2 {v w : mj_v Int32} (K : mj_Rn d cd tl loc (v :: w :: v :: w :: rest) h R0) : mj_Rn d cd ((pc, .dup2, x, xs) :: tl) loc (v :: w :: rest) h R0 := mj_Rn.step K
theorem rn_pop {v : mj_v Int32} (K : mj_Rn d cd tl loc rest h R0) : mj_Rn d cd ((pc, .pop, x, xs) :: tl) loc (v :: rest) h R0 := mj_Rn.step K
theorem rn_iald {a n k : Nat} {i : Int32} {f : Nat → Int32} (ha : mj_nth h a = some (.inl (0, n, f))) (hk : mj_ix i.toInt n = some k) (K : mj_Rn d cd tl loc (.inl (f k) :: rest) h R0) : mj_Rn d cd ((pc, .iaload, x, xs) :: tl) loc (.inl i :: .inr (some a) :: rest) h R0 := by
  refine mj_Rn.step ?_
  show mj_ald mj_I loc (.inl i :: .inr (some a) :: rest) h (fun loc st h => mj_Rn d cd tl loc st h R0) False 0
  unfold mj_ald
  dsimp only [mj_I]
  rw [ha]
  dsimp only [Nat.beq]
  rw [hk]
  exact K
theorem rn_iast {a n k : Nat} {i v : Int32} {f : Nat → Int32} (ha : mj_nth h a = some (.inl (0, n, f))) (h4 : 4 ≤ a) (hk : mj_ix i.toInt n = some k) (K : mj_Rn d cd tl loc rest (mj_put h a (.inl (0, n, mj_upd f k v))) R0) : mj_Rn d cd ((pc, .iastore, x, xs) :: tl) loc (.inl v :: .inl i :: .inr (some a) :: rest) h R0 := by
  refine mj_Rn.step ?_
  show mj_ast mj_I loc (.inl v :: .inl i :: .inr (some a) :: rest) h (fun loc st h => mj_Rn d cd tl loc st h R0) False
  unfold mj_ast
  dsimp only [mj_I]
  rw [ha, Nat.ble_eq_true_of_le h4]
  show (match mj_ix i.toInt n with
    | some k => mj_Rn d cd tl loc rest (mj_put h a (.inl (0, n, mj_upd f k v))) R0
    | none => False)
  rw [hk]
  exact K
theorem rn_alen {a t n : Nat} {f : Nat → Int32} (ha : mj_nth h a = some (.inl (t, n, f))) (K : mj_Rn d cd tl loc (.inl (Int32.ofInt (Int.ofNat n)) :: rest) h R0) : mj_Rn d cd ((pc, .arraylength, x, xs) :: tl) loc (.inr (some a) :: rest) h R0 := by
  refine mj_Rn.step ?_
  show mj_alen mj_I loc (.inr (some a) :: rest) h (fun loc st h => mj_Rn d cd tl loc st h R0) False
  unfold mj_alen
  dsimp only
  rw [ha]
  exact K
theorem rn_getf {i a ci : Nat} {fs : List (mj_v Int32)} {v : mj_v Int32} (ha : mj_nth h a = some (.inr (.inr (ci, fs)))) (h4 : 4 ≤ a) (hv : mj_nth fs x = some v) (K : mj_Rn d cd tl loc (v :: rest) h R0) : mj_Rn d cd ((pc, .getfield i, x, ci :: xs) :: tl) loc (.inr (some a) :: rest) h R0 := by
  refine mj_Rn.step ?_
  show mj_getf x (ci :: xs) loc (.inr (some a) :: rest) h (fun loc st h => mj_Rn d cd tl loc st h R0) False
  unfold mj_getf
  dsimp only
  rw [ha]
  dsimp only
  rw [Nat.beq_refl, Nat.ble_eq_true_of_le h4, hv]
  exact K
theorem rn_putf {i a ci pw kind : Nat} {fs : List (mj_v Int32)} {v v0 : mj_v Int32} (ha : mj_nth h a = some (.inr (.inr (ci, fs)))) (h4 : 4 ≤ a) (hv : mj_nth fs x = some v0) (hf : mj_fit mj_I kind v = true) (K : mj_Rn d cd tl loc rest (mj_put h a (.inr (.inr (ci, mj_put fs x v)))) R0) : mj_Rn d cd ((pc, .putfield i, x, ci :: pw :: kind :: xs) :: tl) loc (v :: .inr (some a) :: rest) h R0 := by
  refine mj_Rn.step ?_
  show mj_putf mj_I x (ci :: pw :: kind :: xs) loc (v :: .inr (some a) :: rest) h (fun loc st h => mj_Rn d cd tl loc st h R0) False
  unfold mj_putf
  dsimp only
  rw [ha]
  dsimp only
  rw [Nat.beq_refl, Nat.ble_eq_true_of_le h4, hv, hf]
  exact K
theorem rn_callS {i n ml : Nat} {as : List (mj_v Int32)} {cd' : List mj_r} {v : Option (mj_v Int32)} {h1 : mj_h Int32} (hx : Nat.beq x 100001 = false) (ha : mj_args n st [] = some (as, rest)) (hr : rest.length ≤ 8) (hcd : mj_cds[x]? = some cd') (hR : mj_Rn d cd' cd' (mj_ent ml as) [] h (v, h1)) (K : mj_Rn (d + 1) cd tl loc (v.toList ++ rest) h1 R0) : mj_Rn (d + 1) cd ((pc, .invokestatic i, x, n :: ml :: 0 :: xs) :: tl) loc st h R0 := by
  refine mj_Rn.step ?_
  show mj_stat mj_I x (n :: ml :: 0 :: xs) loc st h (fun loc st h => mj_Rn (d + 1) cd tl loc st h R0) (mj_Kc (d + 1) cd tl loc h R0) False
  unfold mj_stat
  rw [hx]
  dsimp only
  unfold mj_call
  dsimp only
  rw [ha]
  dsimp only
  rw [mj_len_eq, Nat.ble_eq_true_of_le hr]
  exact ⟨d, cd', v, h1, rfl, hcd, hR, K⟩
theorem rn_callV {i n ml ci a : Nat} {as : List (mj_v Int32)} {cd' : List mj_r} {v : Option (mj_v Int32)} {h1 : mj_h Int32} {fs : List (mj_v Int32)} (ha : mj_args n st [] = some (.inr (some a) :: as, rest)) (hr : rest.length ≤ 8) (ho : mj_nth h a = some (.inr (.inr (ci, fs)))) (h4 : 4 ≤ a) (hcd : mj_cds[x]? = some cd') (hR : mj_Rn d cd' cd' (mj_ent ml (.inr (some a) :: as)) [] h (v, h1)) (K : mj_Rn (d + 1) cd tl loc (v.toList ++ rest) h1 R0) : mj_Rn (d + 1) cd ((pc, .invokevirtual i, x, n :: ml :: (ci + 1) :: xs) :: tl) loc st h R0 := by
  refine mj_Rn.step ?_
  show mj_call x (n :: ml :: (ci + 1) :: xs) st h (mj_Kc (d + 1) cd tl loc h R0) False
  unfold mj_call
  dsimp only
  rw [ha]
  dsimp only
  rw [mj_len_eq, Nat.ble_eq_true_of_le hr]
  dsimp only
  rw [show mj_isof h ci (.inr (some a)) = true by
    unfold mj_isof
    dsimp only
    rw [ho]
    dsimp only
    rw [Nat.beq_refl, Nat.ble_eq_true_of_le h4]
    rfl]
  exact ⟨d, cd', v, h1, rfl, hcd, hR, K⟩
theorem rn_iret {v : Int32} (hR : R0 = (some (.inl v), h)) : mj_Rn d cd ((pc, .ireturn, 0, xs) :: tl) loc [.inl v] h R0 := by
  subst hR
  exact mj_Rn.step (Eq.refl ((some (Sum.inl v), h) : Option (mj_v Int32) × mj_h Int32))
theorem rn_zret {v : Int32} (hv : v = 0 ∨ v = 1) (hR : R0 = (some (.inl v), h)) : mj_Rn d cd ((pc, .ireturn, 1, xs) :: tl) loc [.inl v] h R0 := by
  subst hR
  refine mj_Rn.step ?_
  show mj_iret mj_I 1 [.inl v] (fun w => (w, h) = (some (.inl v), h)) False
  unfold mj_iret
  dsimp only
  rw [show mj_bit (mj_I.2.2.2 v) = true by rcases hv with rfl | rfl <;> decide +kernel]
  exact Eq.refl ((some (Sum.inl v), h) : Option (mj_v Int32) × mj_h Int32)
theorem rn_vret (hR : R0 = (none, h)) : mj_Rn d cd ((pc, .return_, x, xs) :: tl) loc [] h R0 := by
  subst hR
  exact mj_Rn.step (Eq.refl ((none, h) : Option (mj_v Int32) × mj_h Int32))
end
theorem rn_ix {i n : Nat} (h : i < n) (hn : n < 2 ^ 31) : mj_ix (nI i).toInt n = some i := by
  rw [nI_toInt (by omega)]
  show mj_ix (Int.ofNat i) n = some i
  unfold mj_ix
  dsimp only
  rw [Nat.ble_eq_true_of_le (show i + 1 ≤ n from h)]
/-! ### java.util.Arrays.fill -/
theorem mj_cpy_succ {V : Type} (f g : Nat → V) (i : Nat) : mj_upd (mj_cpy f g 0 0 i) i (f i) = mj_cpy f g 0 0 (i + 1) := by
  rw [mj_cpy_eq, mj_cpy_eq, mj_upd_eq]
  funext j
  unfold va_cpy
  by_cases h1 : j = i
  · subst h1
    rw [if_pos rfl, if_pos (by omega)]
    simp
  · rw [if_neg h1]
    by_cases h2 : j < i
    · rw [if_pos (by omega), if_pos (by omega)]
    · rw [if_neg (by omega), if_neg (by omega)]
theorem mj_cpy_zero {V : Type} (f g : Nat → V) : mj_cpy f g 0 0 0 = g := by
  rw [mj_cpy_eq]
  funext j
  unfold va_cpy
  rw [if_neg (by omega)]
theorem mj_put_nth {α : Type} {l : List α} {a : Nat} {x y : α} (h : mj_nth l a = some y) : mj_nth (mj_put l a x) a = some x := by
  rw [mj_nth_eq] at h ⊢
  rw [mj_put_eq, List.getElem?_set_self (List.getElem?_eq_some_iff.mp h).1]
theorem mj_put_put {α : Type} {l : List α} {a : Nat} {x y : α} : mj_put (mj_put l a x) a y = mj_put l a y := by
  rw [mj_put_eq, mj_put_eq, mj_put_eq, List.set_set]
theorem mj_put_self {α : Type} {l : List α} {a : Nat} {x : α} (h : mj_nth l a = some x) : mj_put l a x = l := by
  rw [mj_nth_eq] at h
  rw [mj_put_eq]
  apply List.ext_getElem?
  intro i
  rw [List.getElem?_set]
  by_cases hi : a = i
  · subst hi
    rw [if_pos rfl, if_pos (List.getElem?_eq_some_iff.mp h).1, h]
  · rw [if_neg hi]
theorem mj_put_ne {α : Type} {l : List α} {a b : Nat} {x : α} (h : a ≠ b) : mj_nth (mj_put l a x) b = mj_nth l b := by
  rw [mj_nth_eq, mj_nth_eq, mj_put_eq, List.getElem?_set_ne h]
theorem mj_fill_run {d a n : Nat} {v : Int32} {f : Nat → Int32} {h : mj_h Int32} (ha : mj_nth h a = some (.inl (0, n, f))) (h4 : 4 ≤ a) (hn : n < 2 ^ 31) : mj_Rn d kJ7_fill_53178 kJ7_fill_53178 (mj_ent 4 [.inr (some a), .inl v]) [] h (none, mj_put h a (.inl (0, n, mj_cpy (fun _ => v) f 0 0 n))) := by
  have loop : ∀ m i, i + m = n → mj_Rn d kJ7_fill_53178 (mj_drop 5 kJ7_fill_53178) [some (.inr (some a)), some (.inl v), some (.inl (nI i)), some (.inl (nI n))] [] (mj_put h a (.inl (0, n, mj_cpy (fun _ => v) f 0 0 i))) (none, mj_put h a (.inl (0, n, mj_cpy (fun _ => v) f 0 0 n))) := by
    intro m
    induction m with
    | zero =>
      intro i hi
      obtain rfl : i = n := by omega
      refine rn_iload_n (v := nI i) rfl (rn_iload_n (v := nI i) rfl (rn_icmp (fun _ => ?_) (fun hc => ?_)))
      · exact rn_vret rfl
      · simp [mj_cm] at hc
    | succ m ih =>
      intro i hi
      refine rn_iload_n (v := nI i) rfl (rn_iload_n (v := nI n) rfl (rn_icmp (fun hc => ?_) (fun _ => ?_)))
      · have : nI n ≤ nI i := by simpa [mj_cm] using hc
        exact absurd this (nI_ge (by omega) hn)
      · refine rn_aload_n (a := a) rfl (rn_iload_n (v := nI i) rfl (rn_iload_n (v := v) rfl (rn_iast (mj_put_nth ha) h4 (rn_ix (by omega) hn) (rn_iinc (v := nI i) (w := nI (i + 1)) rfl (nI_succ i).symm (rn_goto ?_)))))
        rw [mj_put_put, show mj_upd (mj_cpy (fun _ => v) f 0 0 i) i v = mj_cpy (fun _ => v) f 0 0 (i + 1) from mj_cpy_succ (fun _ => v) f i]
        exact ih (i + 1) (by omega)
  refine rn_iconst (rn_istore_n (rn_aload_n (a := a) rfl (rn_alen ha (rn_istore_n ?_))))
  have := loop n 0 (by omega)
  rw [mj_cpy_zero, mj_put_self ha] at this
  exact this
/-! ### the reference's copies -/
theorem mj_copies_run {d a b n0 n1 : Nat} {f g : Nat → Int32} {h : mj_h Int32} (ha : mj_nth h a = some (.inl (0, n0, f))) (hb : mj_nth h b = some (.inl (0, n1, g))) (hab : a ≠ b) (h4 : 4 ≤ b) (hn0 : 4073 ≤ n0) (hn1 : 4073 ≤ n1) (hm0 : n0 < 2 ^ 31) (hm1 : n1 < 2 ^ 31) : mj_Rn d kX11_copies kX11_copies (mj_ent 3 [.inr (some a), .inr (some b)]) [] h (none, mj_put h b (.inl (0, n1, mj_cpy f g 0 0 4073))) := by
  have loop : ∀ m i, i + m = 4073 → mj_Rn d kX11_copies (mj_drop 2 kX11_copies) [some (.inr (some a)), some (.inr (some b)), some (.inl (nI i))] [] (mj_put h b (.inl (0, n1, mj_cpy f g 0 0 i))) (none, mj_put h b (.inl (0, n1, mj_cpy f g 0 0 4073))) := by
    intro m
    induction m with
    | zero =>
      intro i hi
      obtain rfl : i = 4073 := by omega
      refine rn_iload_n (v := nI 4073) rfl (rn_sipush (rn_icmp (fun _ => ?_) (fun hc => ?_)))
      · exact rn_vret rfl
      · have : mj_cm .ge (nI 4073) (Int32.ofInt 4073) = true := by decide +kernel
        rw [this] at hc
        cases hc
    | succ m ih =>
      intro i hi
      refine rn_iload_n (v := nI i) rfl (rn_sipush (rn_icmp (fun hc => ?_) (fun _ => ?_)))
      · have e : Int32.ofInt 4073 = nI 4073 := by decide +kernel
        have := of_decide_eq_true hc
        rw [e] at this
        exact absurd this (nI_ge (by omega) (by decide))
      · refine rn_aload_n (a := b) rfl (rn_iload_n (v := nI i) rfl (rn_aload_n (a := a) rfl (rn_iload_n (v := nI i) rfl (rn_iald (by rw [mj_put_ne (Ne.symm hab)]; exact ha) (rn_ix (by omega) hm0) (rn_iast (mj_put_nth hb) h4 (rn_ix (by omega) hm1) (rn_iinc (v := nI i) (w := nI (i + 1)) rfl (nI_succ i).symm (rn_goto ?_)))))))
        rw [mj_put_put, mj_cpy_succ]
        exact ih (i + 1) (by omega)
  refine rn_iconst (rn_istore_n ?_)
  have := loop 4073 0 (by omega)
  rw [mj_cpy_zero, mj_put_self hb] at this
  exact this
