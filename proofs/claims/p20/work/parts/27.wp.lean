section
/-! ===== runs with what holds behind them: a step of them, over a store of any kind ===== -/
/-- it runs, and what holds behind it -/
def mj_W (d : Nat) (cd suf : List mj_r) (loc : mj_l Int32) (st : mj_s Int32) (h : mj_h Int32) (Q : Option (mj_v Int32) → mj_h Int32 → Prop) : Prop := ∃ R0, mj_Rn d cd suf loc st h R0 ∧ Q R0.1 R0.2
theorem mj_W.mono {d : Nat} {cd suf : List mj_r} {loc : mj_l Int32} {st : mj_s Int32} {h : mj_h Int32} {Q Q' : Option (mj_v Int32) → mj_h Int32 → Prop} (H : mj_W d cd suf loc st h Q) (hq : ∀ v h1, Q v h1 → Q' v h1) : mj_W d cd suf loc st h Q' := by
  obtain ⟨R0, h1, h2⟩ := H
  exact ⟨R0, h1, hq _ _ h2⟩
theorem mj_W.step {d : Nat} {cd tl : List mj_r} {r : mj_r} {loc : mj_l Int32} {st : mj_s Int32} {h : mj_h Int32} {Q : Option (mj_v Int32) → mj_h Int32 → Prop}
    (hs : mj_step (α := Prop) mj_I r.2.2.1 r.2.2.2 loc st h (fun loc st h => mj_W d cd tl loc st h Q) (fun j st => mj_W d cd (mj_drop j cd) loc st h Q)
      (fun k ml as rest => ∃ d' cd', d = d' + 1 ∧ mj_cds[k]? = some cd' ∧ mj_W d' cd' cd' (mj_ent ml as) [] h (fun v h1 => mj_W d cd tl loc (v.toList ++ rest) h1 Q)) (fun v => Q v h) False r.2.1) : mj_W d cd (r :: tl) loc st h Q := by
  have := mj_step_rel (g := id) (O := mj_I) (O' := mj_I) (Rel := fun (P : Prop) (f : Option (mj_v Int32) × mj_h Int32 → Prop) => P → ∃ R0, f R0 ∧ Q R0.1 R0.2) (x := r.2.2.1) (xs := r.2.2.2) (loc := loc) (st := st) (h := h)
    (kn := fun loc st h => mj_W d cd tl loc st h Q) (kj := fun j st => mj_W d cd (mj_drop j cd) loc st h Q)
    (kc := fun k ml as rest => ∃ d' cd', d = d' + 1 ∧ mj_cds[k]? = some cd' ∧ mj_W d' cd' cd' (mj_ent ml as) [] h (fun v h1 => mj_W d cd tl loc (v.toList ++ rest) h1 Q)) (kr := fun v => Q v h) (sp := False)
    (kn' := fun loc st h R0 => mj_Rn d cd tl loc st h R0) (kj' := fun j st R0 => mj_Rn d cd (mj_drop j cd) loc st h R0) (kc' := fun k ml as rest R0 => mj_Kc d cd tl loc h R0 k ml as rest) (kr' := fun v R0 => (v, h) = R0) (sp' := fun _ => False)
    (fun _ => rfl) (fun _ _ _ _ h => h) (fun _ _ _ _ h => h) (fun _ _ h => h)
    (fun l s h' q => by rw [mg_l_id, mg_s_id, mg_h_id]; exact q)
    (fun j s q => by rw [mg_s_id]; exact q)
    (fun k ml as rest q => by
      rw [mg_s_id, mg_s_id]
      obtain ⟨d', cd', e1, e2, ⟨R1, e3, R2, e4, e5⟩⟩ := q
      exact ⟨R2, ⟨d', cd', R1.1, R1.2, e1, e2, e3, e4⟩, e5⟩)
    (fun v q => by rw [mg_o_id]; exact ⟨(v, h), rfl, q⟩) (fun a' q => q.elim) r.2.1 hs
  rw [mg_l_id, mg_s_id, mg_h_id] at this
  obtain ⟨R0, h1, h2⟩ := this
  exact ⟨R0, mj_Rn.step' h1, h2⟩
/-! ### a step over a store: what is asked stands as a sentence, and is no match that waits -/
def wq_cm (c : Jvm.ClassFile.Cond) (a b : Int32) : Prop := match c with
  | .eq => a = b
  | .ne => a ≠ b
  | .lt => a.toInt < b.toInt
  | .ge => b.toInt ≤ a.toInt
  | .gt => b.toInt < a.toInt
  | .le => a.toInt ≤ b.toInt
theorem wq_cm_iff (c : Jvm.ClassFile.Cond) (a b : Int32) : mj_cm c a b = true ↔ wq_cm c a b := by
  cases c <;> simp [mj_cm, wq_cm, Int32.lt_iff_toInt_lt, Int32.le_iff_toInt_le]
section
variable {σ : Type} (L : σ → Nat → Option (mj_c Int32)) (U : σ → Nat → mj_c Int32 → Option σ) (x : Nat) (xs : List Nat) (loc : mj_l Int32) (st : mj_s Int32) (s : σ) (kn : mj_l Int32 → mj_s Int32 → σ → Prop) (kj : Nat → mj_s Int32 → Prop) (kc : Nat → Nat → List (mj_v Int32) → mj_s Int32 → Prop) (kr : Option (mj_v Int32) → Prop)
def wq_icmp (c : Jvm.ClassFile.Cond) : Prop := match st with
  | .inl b :: .inl a :: rest => (wq_cm c a b → kj x rest) ∧ (¬ wq_cm c a b → kn loc rest s)
  | _ => False
def wq_ifc (c : Jvm.ClassFile.Cond) : Prop := match st with
  | .inl a :: rest => (wq_cm c a 0 → kj x rest) ∧ (¬ wq_cm c a 0 → kn loc rest s)
  | _ => False
noncomputable def wq_tabs (rest : mj_s Int32) (z hi : Int) (xs : List Nat) : Int → Prop :=
  List.rec (motive := fun _ => Int → Prop) (fun lo => match decide (hi < lo) with
    | true => True
    | false => False) (fun t _ ih lo => (z = lo → kj t rest) ∧ ih (lo + 1)) xs
noncomputable def wq_tab (lo hi : Int) : Prop := match st with
  | .inl a :: rest => (a.toInt < lo ∨ hi < a.toInt → kj x rest) ∧ wq_tabs kj rest a.toInt hi xs lo
  | _ => False
def wq_ald (tag : Nat) : Prop := match st with
  | .inl i :: .inr (some a) :: rest => match L s a with
    | some (.inl (t, n, f)) => match Nat.beq t tag with
      | true => ∃ k : Nat, (i.toInt = k ∧ k < n) ∧ kn loc (.inl (f k) :: rest) s
      | false => False
    | _ => False
  | _ => False
def wq_ast : Prop := match st with
  | .inl v :: .inl i :: .inr (some a) :: rest => match L s a, Nat.ble 4 a with
    | some (.inl (0, n, f)), true => ∃ k : Nat, (i.toInt = k ∧ k < n) ∧ match U s a (.inl (0, n, mj_upd f k v)) with
      | some s' => kn loc rest s'
      | none => False
    | _, _ => False
  | _ => False
def wq_bst : Prop := match st with
  | .inl v :: .inl i :: .inr (some a) :: rest => match L s a, Nat.ble 4 a with
    | some (.inl (1, n, f)), true => (v = 0 ∨ v = 1) ∧ ∃ k : Nat, (i.toInt = k ∧ k < n) ∧ match U s a (.inl (1, n, mj_upd f k v)) with
      | some s' => kn loc rest s'
      | none => False
    | _, _ => False
  | _ => False
def wq_aald : Prop := match st with
  | .inl i :: .inr (some a) :: rest => match L s a, Nat.ble 4 a with
    | some (.inr (.inl (n, f))), true => ∃ k : Nat, (i.toInt = k ∧ k < n) ∧ ∃ b, f k = some b ∧ kn loc (.inr (some b) :: rest) s
    | _, _ => False
  | _ => False
def wq_alen : Prop := match st with
  | .inr (some a) :: rest => match L s a with
    | some (.inl (_, n, _)) => kn loc (.inl (Int32.ofInt (Int.ofNat n)) :: rest) s
    | some (.inr (.inl (n, _))) => match Nat.ble 4 a with
      | true => kn loc (.inl (Int32.ofInt (Int.ofNat n)) :: rest) s
      | false => False
    | _ => False
  | _ => False
noncomputable def wq_getf : Prop := match st, xs with
  | .inr (some a) :: rest, ci :: _ => match L s a with
    | some (.inr (.inr (c, fs))) => match Nat.beq c ci, Nat.ble 4 a, mj_nth fs x with
      | true, true, some v => kn loc (v :: rest) s
      | _, _, _ => False
    | _ => False
  | _, _ => False
def wq_fit (kind : Nat) (v : mj_v Int32) (P : Prop) : Prop := match kind, v with
  | 0, .inl _ => P
  | 1, .inl a => (a = 0 ∨ a = 1) ∧ P
  | 2, .inr _ => P
  | _, _ => False
noncomputable def wq_putf : Prop := match st, xs with
  | v :: .inr (some a) :: rest, ci :: _ :: kind :: _ => match L s a with
    | some (.inr (.inr (c, fs))) => match Nat.beq c ci, Nat.ble 4 a, mj_nth fs x with
      | true, true, some _ => wq_fit kind v (match U s a (.inr (.inr (c, mj_put fs x v))) with
        | some s' => kn loc rest s'
        | none => False)
      | _, _, _ => False
    | _ => False
  | _, _ => False
noncomputable def wq_acopy : Prop := match st with
  | .inl n :: .inl dp :: .inr (some b) :: .inl sp0 :: .inr (some a) :: rest => match L s a, L s b, Nat.ble 4 b, Nat.ble (mj_len rest) 8 with
    | some (.inl (0, n0, f)), some (.inl (0, n1, g)), true, true => (0 ≤ n.toInt ∧ 0 ≤ dp.toInt ∧ 0 ≤ sp0.toInt ∧ sp0.toInt + n.toInt ≤ n0 ∧ dp.toInt + n.toInt ≤ n1) ∧ match U s b (.inl (0, n1, mj_cpy f g sp0.toInt.toNat dp.toInt.toNat n.toInt.toNat)) with
      | some s' => kn loc rest s'
      | none => False
    | _, _, _, _ => False
  | _ => False
def wq_isof (ci : Nat) (v : mj_v Int32) : Bool := match v with
  | .inr (some a) => match L s a with
    | some (.inr (.inr (c, _))) => Nat.beq c ci && Nat.ble 4 a
    | _ => false
  | _ => false
noncomputable def wq_call : Prop := match xs with
  | n :: ml :: recv :: _ => match mj_args n st [] with
    | some (as, rest) => match Nat.ble (mj_len rest) 8, recv, as with
      | true, 0, as => kc x ml as rest
      | true, ci + 1, a :: as => match wq_isof L s ci a with
        | true => kc x ml (a :: as) rest
        | false => False
      | _, _, _ => False
    | none => False
  | _ => False
noncomputable def wq_spec : Prop := match Nat.beq x 100000 with
  | true => False
  | false => wq_call L x xs st s kc
noncomputable def wq_stat : Prop := match Nat.beq x 100001 with
  | true => wq_acopy L U loc st s kn
  | false => wq_call L x xs st s kc
def wq_iret : Prop := match st with
  | [.inl v] => match x with
    | 0 => kr (some (.inl v))
    | _ => (v = 0 ∨ v = 1) ∧ kr (some (.inl v))
  | _ => False
/-- one instruction -/
noncomputable def wq_step (ins : Instr) : Prop := match ins with
  | .iload i => mj_iload loc st [] (fun l t _ => kn l t s) False i
  | .iload_n i => mj_iload loc st [] (fun l t _ => kn l t s) False i.val
  | .aload i => mj_aload loc st [] (fun l t _ => kn l t s) False i
  | .aload_n i => mj_aload loc st [] (fun l t _ => kn l t s) False i.val
  | .istore i => mj_istore loc st [] (fun l t _ => kn l t s) False i
  | .istore_n i => mj_istore loc st [] (fun l t _ => kn l t s) False i.val
  | .astore i => mj_astore loc st [] (fun l t _ => kn l t s) False i
  | .astore_n i => mj_astore loc st [] (fun l t _ => kn l t s) False i.val
  | .iconst n => kn loc (.inl (Int32.ofInt n) :: st) s
  | .bipush n => kn loc (.inl (Int32.ofInt n) :: st) s
  | .sipush n => kn loc (.inl (Int32.ofInt n) :: st) s
  | .ldc _ => kn loc (.inl (Int32.ofInt (Int.ofNat x - 2147483648)) :: st) s
  | .ldc_w _ => kn loc (.inl (Int32.ofInt (Int.ofNat x - 2147483648)) :: st) s
  | .iadd => mj_bin mj_I loc st [] (fun l t _ => kn l t s) False 0
  | .isub => mj_bin mj_I loc st [] (fun l t _ => kn l t s) False 1
  | .imul => mj_bin mj_I loc st [] (fun l t _ => kn l t s) False 2
  | .idiv => mj_bin mj_I loc st [] (fun l t _ => kn l t s) False 3
  | .irem => mj_bin mj_I loc st [] (fun l t _ => kn l t s) False 4
  | .ishl => mj_bin mj_I loc st [] (fun l t _ => kn l t s) False 5
  | .ishr => mj_bin mj_I loc st [] (fun l t _ => kn l t s) False 6
  | .iand => mj_bin mj_I loc st [] (fun l t _ => kn l t s) False 7
  | .ior => mj_bin mj_I loc st [] (fun l t _ => kn l t s) False 8
  | .ineg => mj_neg mj_I loc st [] (fun l t _ => kn l t s) False
  | .iinc i n => mj_iinc mj_I loc st [] (fun l t _ => kn l t s) False i n
  | .if_icmp c _ => wq_icmp x loc st s kn kj c
  | .ifCond c _ => wq_ifc x loc st s kn kj c
  | .goto _ => kj x st
  | .tableswitch _ lo hi _ => wq_tab x xs st kj lo hi
  | .dup => mj_dup loc st [] (fun l t _ => kn l t s) False
  | .dup2 => mj_dup2 loc st [] (fun l t _ => kn l t s) False
  | .pop => mj_pop loc st [] (fun l t _ => kn l t s) False
  | .iaload => wq_ald L loc st s kn 0
  | .baload => wq_ald L loc st s kn 1
  | .iastore => wq_ast L U loc st s kn
  | .bastore => wq_bst L U loc st s kn
  | .aaload => wq_aald L loc st s kn
  | .arraylength => wq_alen L loc st s kn
  | .getfield _ => wq_getf L x xs loc st s kn
  | .putfield _ => wq_putf L U x xs loc st s kn
  | .getstatic _ => kn loc (.inr (some x) :: st) s
  | .invokevirtual _ => wq_call L x xs st s kc
  | .invokespecial _ => wq_spec L x xs st s kc
  | .invokestatic _ => wq_stat L U x xs loc st s kn kc
  | .ireturn => wq_iret x st kr
  | .areturn => mj_aret st kr False
  | .return_ => mj_vret st kr False
  | _ => False
end
/-- a store stands for a heap -/
def wq_ok {σ : Type} (L : σ → Nat → Option (mj_c Int32)) (U : σ → Nat → mj_c Int32 → Option σ) (enc : σ → mj_h Int32) : Prop := (∀ s a c, L s a = some c → mj_nth (enc s) a = some c) ∧ (∀ s a c s', U s a c = some s' → enc s' = mj_put (enc s) a c)
theorem wq_ix {z : Int} {n k : Nat} (h : z = k ∧ k < n) : mj_ix z n = some k := by
  obtain ⟨rfl, h⟩ := h
  unfold mj_ix
  show (match Nat.ble (k + 1) n with
    | true => some k
    | false => none) = some k
  rw [Nat.ble_eq_true_of_le (show k + 1 ≤ n by omega)]
theorem wq_bit {v : Int32} (h : v = 0 ∨ v = 1) : mj_bit (some v.toInt) = true := by
  rcases h with rfl | rfl <;> decide +kernel
section
variable {σ : Type} {L : σ → Nat → Option (mj_c Int32)} {U : σ → Nat → mj_c Int32 → Option σ} {enc : σ → mj_h Int32} {x : Nat} {xs : List Nat} {loc : mj_l Int32} {st : mj_s Int32} {s : σ} {kn : mj_l Int32 → mj_s Int32 → σ → Prop} {kn' : mj_l Int32 → mj_s Int32 → mj_h Int32 → Prop} {kj : Nat → mj_s Int32 → Prop} {kc : Nat → Nat → List (mj_v Int32) → mj_s Int32 → Prop} {kr : Option (mj_v Int32) → Prop}
theorem wq_iload_ok (hk : ∀ l t s, kn l t s → kn' l t (enc s)) (i : Nat) (h : mj_iload loc st [] (fun l t _ => kn l t s) False i) : mj_iload loc st (enc s) kn' False i := by
  unfold mj_iload at h ⊢
  split at h
  · rename_i e
    first | exact hk _ _ _ h | (rw [e]; exact hk _ _ _ h)
  · exact h.elim
theorem wq_aload_ok (hk : ∀ l t s, kn l t s → kn' l t (enc s)) (i : Nat) (h : mj_aload loc st [] (fun l t _ => kn l t s) False i) : mj_aload loc st (enc s) kn' False i := by
  unfold mj_aload at h ⊢
  split at h
  · rename_i e
    first | exact hk _ _ _ h | (rw [e]; exact hk _ _ _ h)
  · exact h.elim
theorem wq_istore_ok (hk : ∀ l t s, kn l t s → kn' l t (enc s)) (i : Nat) (h : mj_istore loc st [] (fun l t _ => kn l t s) False i) : mj_istore loc st (enc s) kn' False i := by
  unfold mj_istore at h ⊢
  split at h
  · exact hk _ _ _ h
  · exact h.elim
theorem wq_astore_ok (hk : ∀ l t s, kn l t s → kn' l t (enc s)) (i : Nat) (h : mj_astore loc st [] (fun l t _ => kn l t s) False i) : mj_astore loc st (enc s) kn' False i := by
  unfold mj_astore at h ⊢
  split at h
  · exact hk _ _ _ h
  · exact h.elim
theorem wq_bin_ok (hk : ∀ l t s, kn l t s → kn' l t (enc s)) (op : Nat) (h : mj_bin mj_I loc st [] (fun l t _ => kn l t s) False op) : mj_bin mj_I loc st (enc s) kn' False op := by
  unfold mj_bin at h ⊢
  split at h
  · rename_i b a rest
    cases hz : mj_I.2.1 op a b with
    | none => simp only [hz] at h
    | some z =>
      simp only [hz] at h ⊢
      exact hk _ _ _ h
  · exact h.elim
theorem wq_neg_ok (hk : ∀ l t s, kn l t s → kn' l t (enc s)) (h : mj_neg mj_I loc st [] (fun l t _ => kn l t s) False) : mj_neg mj_I loc st (enc s) kn' False := by
  unfold mj_neg at h ⊢
  split at h
  · rename_i a rest
    cases hz : mj_I.2.1 9 a a with
    | none => simp only [hz] at h
    | some z =>
      simp only [hz] at h ⊢
      exact hk _ _ _ h
  · exact h.elim
theorem wq_iinc_ok (hk : ∀ l t s, kn l t s → kn' l t (enc s)) (i : Nat) (n : Int) (h : mj_iinc mj_I loc st [] (fun l t _ => kn l t s) False i n) : mj_iinc mj_I loc st (enc s) kn' False i n := by
  unfold mj_iinc at h ⊢
  split at h
  · rename_i v e1
    cases hz : mj_I.2.1 0 v (mj_I.1 n) with
    | none => simp only [hz] at h
    | some z =>
      simp only [hz] at h ⊢
      exact hk _ _ _ h
  · exact h.elim
theorem wq_dup_ok (hk : ∀ l t s, kn l t s → kn' l t (enc s)) (h : mj_dup loc st [] (fun l t _ => kn l t s) False) : mj_dup loc st (enc s) kn' False := by
  unfold mj_dup at h ⊢
  split at h
  · exact hk _ _ _ h
  · exact h.elim
theorem wq_dup2_ok (hk : ∀ l t s, kn l t s → kn' l t (enc s)) (h : mj_dup2 loc st [] (fun l t _ => kn l t s) False) : mj_dup2 loc st (enc s) kn' False := by
  unfold mj_dup2 at h ⊢
  split at h
  · exact hk _ _ _ h
  · exact h.elim
theorem wq_pop_ok (hk : ∀ l t s, kn l t s → kn' l t (enc s)) (h : mj_pop loc st [] (fun l t _ => kn l t s) False) : mj_pop loc st (enc s) kn' False := by
  unfold mj_pop at h ⊢
  split at h
  · exact hk _ _ _ h
  · exact h.elim
theorem wq_icmp_ok (hk : ∀ l t s, kn l t s → kn' l t (enc s)) (c : Jvm.ClassFile.Cond) (h : wq_icmp x loc st s kn kj c) : mj_icmp mj_I x loc st (enc s) kn' kj False c := by
  unfold wq_icmp at h
  unfold mj_icmp
  split at h
  · rename_i b a rest
    show (match some (mj_cm c a b) with
      | some true => kj x rest
      | some false => kn' loc rest (enc s)
      | none => False)
    cases hc : mj_cm c a b with
    | true => exact h.1 ((wq_cm_iff c a b).mp hc)
    | false => exact hk _ _ _ (h.2 (fun q => by rw [(wq_cm_iff c a b).mpr q] at hc; cases hc))
  · exact h.elim
theorem wq_ifc_ok (hk : ∀ l t s, kn l t s → kn' l t (enc s)) (c : Jvm.ClassFile.Cond) (h : wq_ifc x loc st s kn kj c) : mj_ifc mj_I x loc st (enc s) kn' kj False c := by
  unfold wq_ifc at h
  unfold mj_ifc
  split at h
  · rename_i a rest
    show (match some (mj_cm c a 0) with
      | some true => kj x rest
      | some false => kn' loc rest (enc s)
      | none => False)
    cases hc : mj_cm c a 0 with
    | true => exact h.1 ((wq_cm_iff c a 0).mp hc)
    | false => exact hk _ _ _ (h.2 (fun q => by rw [(wq_cm_iff c a 0).mpr q] at hc; cases hc))
  · exact h.elim
theorem wq_tabs_ok {rest : mj_s Int32} {z hi : Int} {xs : List Nat} : ∀ {lo : Int}, wq_tabs kj rest z hi xs lo → lo ≤ z → z ≤ hi → ∃ t, mj_nth xs (z - lo).toNat = some t ∧ kj t rest := by
  induction xs with
  | nil =>
    intro lo h h1 h2
    change (match decide (hi < lo) with
      | true => True
      | false => False) at h
    rw [decide_eq_false (show ¬ hi < lo by omega)] at h
    exact h.elim
  | cons t ts ih =>
    intro lo h h1 h2
    by_cases he : z = lo
    · subst he
      refine ⟨t, ?_, h.1 rfl⟩
      rw [Int.sub_self]
      rfl
    · obtain ⟨u, e1, e2⟩ := ih h.2 (by omega) h2
      refine ⟨u, ?_, e2⟩
      rw [show (z - lo).toNat = (z - (lo + 1)).toNat + 1 by omega]
      exact e1
theorem wq_tab_ok (lo hi : Int) (h : wq_tab x xs st kj lo hi) : mj_tab mj_I x xs st kj False lo hi := by
  unfold wq_tab at h
  unfold mj_tab
  split at h
  · rename_i a rest
    show (match decide (a.toInt < lo) || decide (hi < a.toInt) with
      | true => kj x rest
      | false => match mj_nth xs (a.toInt - lo).toNat with
        | some t => kj t rest
        | none => False)
    by_cases h1 : a.toInt < lo ∨ hi < a.toInt
    · rw [show (decide (a.toInt < lo) || decide (hi < a.toInt)) = true by simpa using h1]
      exact h.1 h1
    · rw [show (decide (a.toInt < lo) || decide (hi < a.toInt)) = false by simpa using h1]
      obtain ⟨t, e1, e2⟩ := wq_tabs_ok h.2 (by omega) (by omega)
      show (match mj_nth xs (a.toInt - lo).toNat with
        | some t => kj t rest
        | none => False)
      rw [e1]
      exact e2
  · exact h.elim
theorem wq_ald_ok (hok : wq_ok L U enc) (hk : ∀ l t s, kn l t s → kn' l t (enc s)) (tag : Nat) (h : wq_ald L loc st s kn tag) : mj_ald mj_I loc st (enc s) kn' False tag := by
  unfold wq_ald at h
  unfold mj_ald
  split at h
  · rename_i i a rest
    split at h
    · rename_i t n f e
      simp only [hok.1 _ _ _ e]
      cases hb : Nat.beq t tag with
      | false => simp only [hb] at h
      | true =>
        simp only [hb] at h
        show (match mj_ix i.toInt n with
          | some k => kn' loc (.inl (f k) :: rest) (enc s)
          | none => False)
        obtain ⟨k, h1, h2⟩ := h
        rw [wq_ix h1]
        exact hk _ _ _ h2
    · exact h.elim
  · exact h.elim
theorem wq_ast_ok (hok : wq_ok L U enc) (hk : ∀ l t s, kn l t s → kn' l t (enc s)) (h : wq_ast L U loc st s kn) : mj_ast mj_I loc st (enc s) kn' False := by
  unfold wq_ast at h
  unfold mj_ast
  split at h
  · rename_i v i a rest
    split at h
    · rename_i n f e1 e2
      simp only [hok.1 _ _ _ e1, e2]
      obtain ⟨k, h1, h2⟩ := h
      show (match mj_ix i.toInt n with
        | some k => kn' loc rest (mj_put (enc s) a (.inl (0, n, mj_upd f k v)))
        | none => False)
      rw [wq_ix h1]
      split at h2
      · rename_i s' e3
        show kn' loc rest (mj_put (enc s) a (.inl (0, n, mj_upd f k v)))
        rw [← hok.2 _ _ _ _ e3]
        exact hk _ _ _ h2
      · exact h2.elim
    · exact h.elim
  · exact h.elim
theorem wq_bst_ok (hok : wq_ok L U enc) (hk : ∀ l t s, kn l t s → kn' l t (enc s)) (h : wq_bst L U loc st s kn) : mj_bst mj_I loc st (enc s) kn' False := by
  unfold wq_bst at h
  unfold mj_bst
  split at h
  · rename_i v i a rest
    split at h
    · rename_i n f e1 e2
      obtain ⟨h0, k, h1, h2⟩ := h
      have hb : mj_bit (mj_I.2.2.2 v) = true := wq_bit h0
      simp only [hok.1 _ _ _ e1, e2, hb]
      show (match mj_ix i.toInt n with
        | some k => kn' loc rest (mj_put (enc s) a (.inl (1, n, mj_upd f k v)))
        | none => False)
      rw [wq_ix h1]
      split at h2
      · rename_i s' e3
        show kn' loc rest (mj_put (enc s) a (.inl (1, n, mj_upd f k v)))
        rw [← hok.2 _ _ _ _ e3]
        exact hk _ _ _ h2
      · exact h2.elim
    · exact h.elim
  · exact h.elim
theorem wq_aald_ok (hok : wq_ok L U enc) (hk : ∀ l t s, kn l t s → kn' l t (enc s)) (h : wq_aald L loc st s kn) : mj_aald mj_I loc st (enc s) kn' False := by
  unfold wq_aald at h
  unfold mj_aald
  split at h
  · rename_i i a rest
    split at h
    · rename_i n f e1 e2
      obtain ⟨k, h1, b, h2, h3⟩ := h
      simp only [hok.1 _ _ _ e1, e2]
      show (match mj_ix i.toInt n with
        | some k => match f k with
          | some b => kn' loc (.inr (some b) :: rest) (enc s)
          | none => False
        | none => False)
      rw [wq_ix h1]
      show (match f k with
          | some b => kn' loc (.inr (some b) :: rest) (enc s)
          | none => False)
      rw [h2]
      exact hk _ _ _ h3
    · exact h.elim
  · exact h.elim
theorem wq_alen_ok (hok : wq_ok L U enc) (hk : ∀ l t s, kn l t s → kn' l t (enc s)) (h : wq_alen L loc st s kn) : mj_alen mj_I loc st (enc s) kn' False := by
  unfold wq_alen at h
  unfold mj_alen
  split at h
  · rename_i a rest
    split at h
    · rename_i t n f e1
      simp only [hok.1 _ _ _ e1]
      exact hk _ _ _ h
    · rename_i n f e1
      simp only [hok.1 _ _ _ e1]
      cases hb : Nat.ble 4 a with
      | false => simp only [hb] at h
      | true =>
        simp only [hb] at h
        exact hk _ _ _ h
    · exact h.elim
  · exact h.elim
theorem wq_getf_ok (hok : wq_ok L U enc) (hk : ∀ l t s, kn l t s → kn' l t (enc s)) (h : wq_getf L x xs loc st s kn) : mj_getf x xs loc st (enc s) kn' False := by
  unfold wq_getf at h
  unfold mj_getf
  split at h
  · rename_i a rest ci ys
    split at h
    · rename_i c fs e1
      simp only [hok.1 _ _ _ e1]
      split at h
      · rename_i v e2 e3 e4
        simp only [e2, e3, e4]
        exact hk _ _ _ h
      · exact h.elim
    · exact h.elim
  · exact h.elim
theorem wq_fit_ok {kind : Nat} {v : mj_v Int32} {P : Prop} (h : wq_fit kind v P) : mj_fit mj_I kind v = true ∧ P := by
  unfold wq_fit at h
  unfold mj_fit
  split at h
  · exact ⟨rfl, h⟩
  · exact ⟨wq_bit h.1, h.2⟩
  · exact ⟨rfl, h⟩
  · exact h.elim
theorem wq_putf_ok (hok : wq_ok L U enc) (hk : ∀ l t s, kn l t s → kn' l t (enc s)) (h : wq_putf L U x xs loc st s kn) : mj_putf mj_I x xs loc st (enc s) kn' False := by
  unfold wq_putf at h
  unfold mj_putf
  split at h
  · rename_i v a rest ci pw kind ys
    split at h
    · rename_i c fs e1
      simp only [hok.1 _ _ _ e1]
      split at h
      · rename_i v0 e2 e3 e4
        obtain ⟨h1, h2⟩ := wq_fit_ok h
        simp only [e2, e3, e4, h1]
        split at h2
        · rename_i s' e5
          rw [← hok.2 _ _ _ _ e5]
          exact hk _ _ _ h2
        · exact h2.elim
      · exact h.elim
    · exact h.elim
  · exact h.elim
theorem wq_acopy_ok (hok : wq_ok L U enc) (hk : ∀ l t s, kn l t s → kn' l t (enc s)) (h : wq_acopy L U loc st s kn) : mj_acopy mj_I loc st (enc s) kn' False := by
  unfold wq_acopy at h
  unfold mj_acopy
  split at h
  · rename_i n dp b sp0 a rest
    split at h
    · rename_i n0 f n1 g e1 e2 e3 e4
      obtain ⟨⟨p1, p2, p3, p4, p5⟩, h⟩ := h
      simp only [hok.1 _ _ _ e1, hok.1 _ _ _ e2, e3, e4]
      obtain ⟨N, hN⟩ := Int.eq_ofNat_of_zero_le p1
      obtain ⟨D, hD⟩ := Int.eq_ofNat_of_zero_le p2
      obtain ⟨S, hS⟩ := Int.eq_ofNat_of_zero_le p3
      have q1 : mj_I.2.2.2 n = some (.ofNat N) := congrArg some hN
      have q2 : mj_I.2.2.2 dp = some (.ofNat D) := congrArg some hD
      have q3 : mj_I.2.2.2 sp0 = some (.ofNat S) := congrArg some hS
      simp only [q1, q2, q3]
      rw [hN, hD, hS] at h
      rw [Nat.ble_eq_true_of_le (show S + N ≤ n0 by omega), Nat.ble_eq_true_of_le (show D + N ≤ n1 by omega)]
      split at h
      · rename_i s' e5
        have e6 : enc s' = mj_put (enc s) b (.inl (0, n1, mj_cpy f g S D N)) := hok.2 _ _ _ _ e5
        show kn' loc rest (mj_put (enc s) b (.inl (0, n1, mj_cpy f g S D N)))
        rw [← e6]
        exact hk _ _ _ h
      · exact h.elim
    · exact h.elim
  · exact h.elim
theorem wq_isof_ok (hok : wq_ok L U enc) {ci : Nat} {v : mj_v Int32} (h : wq_isof L s ci v = true) : mj_isof (enc s) ci v = true := by
  unfold wq_isof at h
  unfold mj_isof
  split at h
  · split at h
    · rename_i e1
      simp only [hok.1 _ _ _ e1]
      exact h
    · cases h
  · cases h
theorem wq_call_ok (hok : wq_ok L U enc) {kc' : Nat → Nat → List (mj_v Int32) → mj_s Int32 → Prop} (hc : ∀ k ml as rest, kc k ml as rest → kc' k ml as rest) (h : wq_call L x xs st s kc) : mj_call x xs st (enc s) kc' False := by
  unfold wq_call at h
  unfold mj_call
  split at h
  · rename_i n ml recv ys
    split at h
    · rename_i as rest e1
      simp only [e1]
      split at h
      · rename_i e2
        simp only [e2]
        exact hc _ _ _ _ h
      · rename_i ci a as e2 
        simp only [e2]
        split at h
        · rename_i e3
          simp only [wq_isof_ok hok e3]
          exact hc _ _ _ _ h
        · exact h.elim
      · exact h.elim
    · exact h.elim
  · exact h.elim
theorem wq_step_ok (hok : wq_ok L U enc) {kj' : Nat → mj_s Int32 → Prop} {kc' : Nat → Nat → List (mj_v Int32) → mj_s Int32 → Prop} {kr' : Option (mj_v Int32) → Prop} (hk : ∀ l t s, kn l t s → kn' l t (enc s)) (hj : ∀ j t, kj j t → kj' j t) (hc : ∀ k ml as rest, kc k ml as rest → kc' k ml as rest) (hr : ∀ v, kr v → kr' v) (ins : Instr) (h : wq_step L U x xs loc st s kn kj kc kr ins) : mj_step (α := Prop) mj_I x xs loc st (enc s) kn' kj' kc' kr' False ins := by
  have tab : ∀ lo hi, wq_tab x xs st kj lo hi → mj_tab mj_I x xs st kj' False lo hi := fun lo hi q => by
    refine wq_tab_ok lo hi ?_
    unfold wq_tab at q ⊢
    split at q
    · refine ⟨fun e => hj _ _ (q.1 e), ?_⟩
      have : ∀ (xs : List Nat) (rest : mj_s Int32) (z lo : Int), wq_tabs kj rest z hi xs lo → wq_tabs kj' rest z hi xs lo := by
        intro xs rest z
        induction xs with
        | nil => intro lo q; exact q
        | cons t ts ih => intro lo q; exact ⟨fun e => hj _ _ (q.1 e), ih _ q.2⟩
      exact this _ _ _ _ q.2
    · exact q.elim
  have icmp : ∀ c, wq_icmp x loc st s kn kj c → mj_icmp mj_I x loc st (enc s) kn' kj' False c := fun c q => by
    refine wq_icmp_ok (kn := kn) hk c ?_
    unfold wq_icmp at q ⊢
    split at q
    · exact ⟨fun e => hj _ _ (q.1 e), q.2⟩
    · exact q.elim
  have ifc : ∀ c, wq_ifc x loc st s kn kj c → mj_ifc mj_I x loc st (enc s) kn' kj' False c := fun c q => by
    refine wq_ifc_ok (kn := kn) hk c ?_
    unfold wq_ifc at q ⊢
    split at q
    · exact ⟨fun e => hj _ _ (q.1 e), q.2⟩
    · exact q.elim
  cases ins with
  | iload i => exact wq_iload_ok hk _ h
  | iload_n i => exact wq_iload_ok hk _ h
  | aload i => exact wq_aload_ok hk _ h
  | aload_n i => exact wq_aload_ok hk _ h
  | istore i => exact wq_istore_ok hk _ h
  | istore_n i => exact wq_istore_ok hk _ h
  | astore i => exact wq_astore_ok hk _ h
  | astore_n i => exact wq_astore_ok hk _ h
  | iconst n => exact hk _ _ _ h
  | bipush n => exact hk _ _ _ h
  | sipush n => exact hk _ _ _ h
  | ldc i => exact hk _ _ _ h
  | ldc_w i => exact hk _ _ _ h
  | iadd => exact wq_bin_ok hk 0 h
  | isub => exact wq_bin_ok hk 1 h
  | imul => exact wq_bin_ok hk 2 h
  | idiv => exact wq_bin_ok hk 3 h
  | irem => exact wq_bin_ok hk 4 h
  | ishl => exact wq_bin_ok hk 5 h
  | ishr => exact wq_bin_ok hk 6 h
  | iand => exact wq_bin_ok hk 7 h
  | ior => exact wq_bin_ok hk 8 h
  | ineg => exact wq_neg_ok hk h
  | iinc i n => exact wq_iinc_ok hk _ _ h
  | if_icmp c o => exact icmp c h
  | ifCond c o => exact ifc c h
  | goto o => exact hj _ _ h
  | tableswitch _ lo hi _ => exact tab lo hi h
  | dup => exact wq_dup_ok hk h
  | dup2 => exact wq_dup2_ok hk h
  | pop => exact wq_pop_ok hk h
  | iaload => exact wq_ald_ok hok hk _ h
  | baload => exact wq_ald_ok hok hk _ h
  | iastore => exact wq_ast_ok hok hk h
  | bastore => exact wq_bst_ok hok hk h
  | aaload => exact wq_aald_ok hok hk h
  | arraylength => exact wq_alen_ok hok hk h
  | getfield i => exact wq_getf_ok hok hk h
  | putfield i => exact wq_putf_ok hok hk h
  | getstatic i => exact hk _ _ _ h
  | invokevirtual i => exact wq_call_ok hok hc h
  | invokespecial i =>
    change wq_spec L x xs st s kc at h
    show mj_spec x xs loc st (enc s) kn' kc' False
    unfold wq_spec at h
    unfold mj_spec
    split at h
    · exact h.elim
    · rename_i e
      simp only [e]
      exact wq_call_ok hok hc h
  | invokestatic i =>
    change wq_stat L U x xs loc st s kn kc at h
    show mj_stat mj_I x xs loc st (enc s) kn' kc' False
    unfold wq_stat at h
    unfold mj_stat
    split at h
    · rename_i e
      simp only [e]
      exact wq_acopy_ok hok hk h
    · rename_i e
      simp only [e]
      exact wq_call_ok hok hc h
  | ireturn =>
    change wq_iret x st kr at h
    show mj_iret mj_I x st kr' False
    unfold wq_iret at h
    unfold mj_iret
    split at h
    · rename_i v
      cases x with
      | zero => exact hr _ h
      | succ n =>
        have hb : mj_bit (mj_I.2.2.2 v) = true := wq_bit h.1
        show (match mj_bit (mj_I.2.2.2 v) with
          | true => kr' (some (.inl v))
          | false => False)
        rw [hb]
        exact hr _ h.2
    · exact h.elim
  | areturn =>
    change mj_aret st kr False at h
    show mj_aret st kr' False
    unfold mj_aret at h ⊢
    split at h
    · exact hr _ h
    · exact h.elim
  | return_ =>
    change mj_vret st kr False at h
    show mj_vret st kr' False
    unfold mj_vret at h ⊢
    split at h
    · exact hr _ h
    · exact h.elim
  | _ => exact h.elim
end
/-! ### a method's run over a store -/
def wq_W {σ : Type} (enc : σ → mj_h Int32) (d : Nat) (cd suf : List mj_r) (loc : mj_l Int32) (st : mj_s Int32) (s : σ) (Q : Option (mj_v Int32) → σ → Prop) : Prop := mj_W d cd suf loc st (enc s) (fun v h => ∃ s', h = enc s' ∧ Q v s')
theorem wq_W.mono {σ : Type} {enc : σ → mj_h Int32} {d : Nat} {cd suf : List mj_r} {loc : mj_l Int32} {st : mj_s Int32} {s : σ} {Q Q' : Option (mj_v Int32) → σ → Prop} (H : wq_W enc d cd suf loc st s Q) (hq : ∀ v s', Q v s' → Q' v s') : wq_W enc d cd suf loc st s Q' :=
  mj_W.mono H fun v h ⟨s', e, q⟩ => ⟨s', e, hq _ _ q⟩
theorem wq_W.step {σ : Type} {L : σ → Nat → Option (mj_c Int32)} {U : σ → Nat → mj_c Int32 → Option σ} {enc : σ → mj_h Int32} (hok : wq_ok L U enc) {d : Nat} {cd tl : List mj_r} {r : mj_r} {loc : mj_l Int32} {st : mj_s Int32} {s : σ} {Q : Option (mj_v Int32) → σ → Prop} {kn : mj_l Int32 → mj_s Int32 → σ → Prop} {kj : Nat → mj_s Int32 → Prop} {kf : mj_s Int32 → σ → Prop}
    (hk : ∀ l t s, kn l t s → wq_W enc d cd tl l t s Q) (hj : ∀ j t, kj j t → wq_W enc d cd (mj_drop j cd) loc t s Q) (hf : ∀ t s, kf t s → wq_W enc d cd tl loc t s Q)
    (h : wq_step L U r.2.2.1 r.2.2.2 loc st s kn kj
      (fun k ml as rest => ∃ d' cd', d = d' + 1 ∧ mj_cds[k]? = some cd' ∧ wq_W enc d' cd' cd' (mj_ent ml as) [] s (fun v s' => kf (v.toList ++ rest) s')) (fun v => Q v s) r.2.1) : wq_W enc d cd (r :: tl) loc st s Q := by
  refine mj_W.step (wq_step_ok hok hk hj ?_ ?_ _ h)
  · rintro k ml as rest ⟨d', cd', e1, e2, e3⟩
    refine ⟨d', cd', e1, e2, mj_W.mono e3 ?_⟩
    rintro v h1 ⟨s', rfl, q⟩
    exact hf _ _ q
  · exact fun v q => ⟨s, rfl, q⟩
noncomputable def wq_mem (a : Nat) (l : List Nat) : Bool := List.rec (motive := fun _ => Bool) false (fun b _ ih => match Nat.beq a b with
  | true => true
  | false => ih) l
section
variable {σ : Type} (L : σ → Nat → Option (mj_c Int32)) (U : σ → Nat → mj_c Int32 → Option σ) (enc : σ → mj_h Int32) (stops : List Nat) (d : Nat) (cd : List mj_r) (Q : Option (mj_v Int32) → σ → Prop)
/-- many instructions: up to the places that are named, or to the end -/
noncomputable def wq (n : Nat) : List mj_r → mj_l Int32 → mj_s Int32 → σ → Prop :=
  Nat.rec (motive := fun _ => List mj_r → mj_l Int32 → mj_s Int32 → σ → Prop) (fun suf loc st s => wq_W enc d cd suf loc st s Q)
    (fun _ ih suf loc st s => match suf with
      | [] => False
      | r :: tl => match wq_mem r.1 stops with
        | true => True ∧ wq_W enc d cd (r :: tl) loc st s Q
        | false => wq_step L U r.2.2.1 r.2.2.2 loc st s (fun l t s => ih tl l t s) (fun j t => ih (mj_drop j cd) loc t s)
          (fun k ml as rest => ∃ d' cd', d = d' + 1 ∧ mj_cds[k]? = some cd' ∧ wq_W enc d' cd' cd' (mj_ent ml as) [] s (fun v s' => ih tl loc (v.toList ++ rest) s')) (fun v => Q v s) r.2.1) n
/-- the same, the first one even at a place that is named -/
noncomputable def wq1 (n : Nat) (suf : List mj_r) (loc : mj_l Int32) (st : mj_s Int32) (s : σ) : Prop := match suf with
  | [] => False
  | r :: tl => wq_step L U r.2.2.1 r.2.2.2 loc st s (fun l t s => wq L U enc stops d cd Q n tl l t s) (fun j t => wq L U enc stops d cd Q n (mj_drop j cd) loc t s)
          (fun k ml as rest => ∃ d' cd', d = d' + 1 ∧ mj_cds[k]? = some cd' ∧ wq_W enc d' cd' cd' (mj_ent ml as) [] s (fun v s' => wq L U enc stops d cd Q n tl loc (v.toList ++ rest) s')) (fun v => Q v s) r.2.1
end
section
variable {σ : Type} {L : σ → Nat → Option (mj_c Int32)} {U : σ → Nat → mj_c Int32 → Option σ} {enc : σ → mj_h Int32} {d : Nat} {cd : List mj_r} {Q : Option (mj_v Int32) → σ → Prop}
theorem wq_sound (hok : wq_ok L U enc) {stops : List Nat} : ∀ (n : Nat) {suf : List mj_r} {loc : mj_l Int32} {st : mj_s Int32} {s : σ}, wq L U enc stops d cd Q n suf loc st s → wq_W enc d cd suf loc st s Q := by
  intro n
  induction n with
  | zero => intro suf loc st s h; exact h
  | succ n ih =>
    intro suf loc st s h
    cases suf with
    | nil => exact h.elim
    | cons r tl =>
      change (match wq_mem r.1 stops with
        | true => True ∧ wq_W enc d cd (r :: tl) loc st s Q
        | false => wq_step L U r.2.2.1 r.2.2.2 loc st s (fun l t s => wq L U enc stops d cd Q n tl l t s) (fun j t => wq L U enc stops d cd Q n (mj_drop j cd) loc t s)
          (fun k ml as rest => ∃ d' cd', d = d' + 1 ∧ mj_cds[k]? = some cd' ∧ wq_W enc d' cd' cd' (mj_ent ml as) [] s (fun v s' => wq L U enc stops d cd Q n tl loc (v.toList ++ rest) s')) (fun v => Q v s) r.2.1) at h
      split at h
      · exact h.2
      · exact wq_W.step hok (kf := fun t s => wq L U enc stops d cd Q n tl loc t s) (fun l t s q => ih q) (fun j t q => ih q) (fun t s q => ih q) h
theorem wq1_sound (hok : wq_ok L U enc) {stops : List Nat} (n : Nat) {suf : List mj_r} {loc : mj_l Int32} {st : mj_s Int32} {s : σ} (h : wq1 L U enc stops d cd Q n suf loc st s) : wq_W enc d cd suf loc st s Q := by
  cases suf with
  | nil => exact h.elim
  | cons r tl => exact wq_W.step hok (kf := fun t s => wq L U enc stops d cd Q n tl loc t s) (fun l t s q => wq_sound hok n q) (fun j t q => wq_sound hok n q) (fun t s q => wq_sound hok n q) h
end
/-! ### the store: some cells in a row; those before them are only looked at, as far as they are known -/
noncomputable def wq_L (off : Nat) (P : Nat → Option (mj_c Int32)) (s : mj_h Int32) (a : Nat) : Option (mj_c Int32) := match Nat.ble off a with
  | true => mj_nth s (a - off)
  | false => P a
noncomputable def wq_U (off : Nat) (s : mj_h Int32) (a : Nat) (c : mj_c Int32) : Option (mj_h Int32) := match Nat.ble off a, mj_nth s (a - off) with
  | true, some _ => some (mj_put s (a - off) c)
  | _, _ => none
theorem wq_ok_row {pre post : mj_h Int32} {P : Nat → Option (mj_c Int32)} (hP : ∀ a c, P a = some c → mj_nth pre a = some c) : wq_ok (wq_L pre.length P) (wq_U pre.length) (fun s => pre ++ (s ++ post)) := by
  constructor
  · intro s a c h
    unfold wq_L at h
    split at h
    · rename_i e
      have e := Nat.le_of_ble_eq_true e
      rw [mj_nth_eq] at h ⊢
      rw [List.getElem?_append_right e, List.getElem?_append_left (List.getElem?_eq_some_iff.mp h).1]
      exact h
    · have h := hP _ _ h
      rw [mj_nth_eq] at h ⊢
      rw [List.getElem?_append_left (List.getElem?_eq_some_iff.mp h).1]
      exact h
  · intro s a c s' h
    unfold wq_U at h
    split at h
    · rename_i y e1 e2
      cases h
      have e1 := Nat.le_of_ble_eq_true e1
      rw [mj_nth_eq] at e2
      show pre ++ (mj_put s (a - pre.length) c ++ post) = mj_put (pre ++ (s ++ post)) a c
      rw [mj_put_eq, mj_put_eq, List.set_append_right _ _ e1, List.set_append_left _ _ (List.getElem?_eq_some_iff.mp e2).1]
    · cases h
end
