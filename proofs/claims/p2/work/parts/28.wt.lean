/-! ===== runs over a store by cells and places: shapes stay, ints change ===== -/
abbrev wt_S : Type := Nat → Nat → Int32
/-- a cell's shape: a row of ints or booleans (tag, how many); a row of references; an object by its class's number, its fields (none: an int) -/
abbrev wt_p : Type := (Nat × Nat) ⊕ ((Nat × (Nat → Option Nat)) ⊕ (Nat × List (Option (Option Nat))))
def wt_fs (f : Nat → Int32) : List (Option (Option Nat)) → Nat → List (mj_v Int32)
  | [], _ => []
  | none :: l, i => .inl (f i) :: wt_fs f l (i + 1)
  | some r :: l, i => .inr r :: wt_fs f l (i + 1)
def wt_c (p : wt_p) (f : Nat → Int32) : mj_c Int32 := match p with
  | .inl (t, n) => .inl (t, n, f)
  | .inr (.inl (n, g)) => .inr (.inl (n, g))
  | .inr (.inr (c, fs)) => .inr (.inr (c, wt_fs f fs 0))
def wt_es (s : wt_S) : List wt_p → Nat → mj_h Int32
  | [], _ => []
  | p :: H, i => wt_c p (s i) :: wt_es s H (i + 1)
def wt_e (H : List wt_p) (s : wt_S) : mj_h Int32 := wt_es s H 0
/-- a cell is written whole; one place of it -/
def wt_uf (s : wt_S) (a : Nat) (f : Nat → Int32) : wt_S := fun b => if b = a then f else s b
def wt_u (s : wt_S) (a k : Nat) (v : Int32) : wt_S := wt_uf s a (mj_upd (s a) k v)
theorem wt_es_nth {s : wt_S} : ∀ {H : List wt_p} {i a : Nat} {p : wt_p}, mj_nth H a = some p → mj_nth (wt_es s H i) a = some (wt_c p (s (i + a))) := by
  intro H
  induction H with
  | nil => intro i a p h; rw [mj_nth_eq] at h; simp at h
  | cons q H ih =>
    intro i a p h
    cases a with
    | zero =>
      have h : some q = some p := h
      cases h
      rfl
    | succ a =>
      have h : mj_nth H a = some p := h
      show mj_nth (wt_es s H (i + 1)) a = _
      rw [ih h, show i + 1 + a = i + (a + 1) by omega]
theorem wt_nth {H : List wt_p} {s : wt_S} {a : Nat} {p : wt_p} (h : mj_nth H a = some p) : mj_nth (wt_e H s) a = some (wt_c p (s a)) := by
  have := wt_es_nth (s := s) (i := 0) h
  rw [Nat.zero_add] at this
  exact this
theorem wt_es_ne {s : wt_S} {f : Nat → Int32} {a : Nat} : ∀ {H : List wt_p} {i : Nat}, a < i → wt_es (wt_uf s a f) H i = wt_es s H i := by
  intro H
  induction H with
  | nil => intro i h; rfl
  | cons q H ih =>
    intro i h
    show wt_c q (wt_uf s a f i) :: _ = wt_c q (s i) :: _
    rw [ih (by omega)]
    unfold wt_uf
    rw [if_neg (by omega)]
theorem wt_es_put {s : wt_S} {f : Nat → Int32} {c : mj_c Int32} : ∀ {H : List wt_p} {i a : Nat} {p : wt_p}, mj_nth H a = some p → wt_c p f = c → wt_es (wt_uf s (i + a) f) H i = mj_put (wt_es s H i) a c := by
  intro H
  induction H with
  | nil => intro i a p h; rw [mj_nth_eq] at h; simp at h
  | cons q H ih =>
    intro i a p h hc
    cases a with
    | zero =>
      have h : some q = some p := h
      cases h
      show wt_c q (wt_uf s i f i) :: wt_es (wt_uf s i f) H (i + 1) = c :: wt_es s H (i + 1)
      rw [wt_es_ne (by omega)]
      unfold wt_uf
      rw [if_pos rfl, hc]
    | succ a =>
      have h : mj_nth H a = some p := h
      show wt_c q (wt_uf s (i + (a + 1)) f i) :: wt_es (wt_uf s (i + (a + 1)) f) H (i + 1) = wt_c q (s i) :: mj_put (wt_es s H (i + 1)) a c
      rw [← ih h hc, show i + 1 + a = i + (a + 1) by omega]
      congr 1
      unfold wt_uf
      rw [if_neg (by omega)]
theorem wt_put {H : List wt_p} {s : wt_S} {f : Nat → Int32} {a : Nat} {p : wt_p} {c : mj_c Int32} (h : mj_nth H a = some p) (hc : wt_c p f = c) : wt_e H (wt_uf s a f) = mj_put (wt_e H s) a c := by
  have := wt_es_put (s := s) (i := 0) h hc
  rw [Nat.zero_add] at this
  exact this
theorem wt_fs_nth {f : Nat → Int32} : ∀ {fs : List (Option (Option Nat))} {i x : Nat} {q : Option (Option Nat)}, mj_nth fs x = some q → mj_nth (wt_fs f fs i) x = some (match q with
    | none => .inl (f (i + x))
    | some r => .inr r) := by
  intro fs
  induction fs with
  | nil => intro i x q h; rw [mj_nth_eq] at h; simp at h
  | cons q0 fs ih =>
    intro i x q h
    cases x with
    | zero =>
      have h : some q0 = some q := h
      cases h
      cases q0 <;> rfl
    | succ x =>
      have h : mj_nth fs x = some q := h
      have := ih (i := i + 1) h
      rw [show i + 1 + x = i + (x + 1) by omega] at this
      cases q0 <;> exact this
theorem wt_fs_ne {f : Nat → Int32} {v : Int32} {j : Nat} : ∀ {fs : List (Option (Option Nat))} {i : Nat}, j < i → wt_fs (mj_upd f j v) fs i = wt_fs f fs i := by
  intro fs
  induction fs with
  | nil => intro i h; rfl
  | cons q0 fs ih =>
    intro i h
    cases q0 with
    | none =>
      show _ :: _ = _ :: _
      rw [ih (by omega)]
      congr 2
      unfold mj_upd
      rw [show Nat.beq i j = false by rw [← Bool.not_eq_true, Nat.beq_eq]; omega]
    | some r =>
      show _ :: _ = _ :: _
      rw [ih (by omega)]
theorem wt_fs_put {f : Nat → Int32} {v : Int32} : ∀ {fs : List (Option (Option Nat))} {i x : Nat}, mj_nth fs x = some none → wt_fs (mj_upd f (i + x) v) fs i = mj_put (wt_fs f fs i) x (.inl v) := by
  intro fs
  induction fs with
  | nil => intro i x h; rw [mj_nth_eq] at h; simp at h
  | cons q0 fs ih =>
    intro i x h
    cases x with
    | zero =>
      have h : some q0 = some none := h
      cases h
      show _ :: _ = Sum.inl v :: wt_fs f fs (i + 1)
      rw [Nat.add_zero, wt_fs_ne (by omega)]
      congr 2
      unfold mj_upd
      rw [show Nat.beq i i = true by rw [Nat.beq_eq]]
    | succ x =>
      have h : mj_nth fs x = some none := h
      have := ih (i := i + 1) h
      rw [show i + 1 + x = i + (x + 1) by omega] at this
      cases q0 with
      | none =>
        show _ :: _ = _ :: mj_put (wt_fs f fs (i + 1)) x (.inl v)
        rw [← this]
        congr 2
        unfold mj_upd
        rw [show Nat.beq i (i + (x + 1)) = false by rw [← Bool.not_eq_true, Nat.beq_eq]; omega]
      | some r =>
        show _ :: _ = _ :: mj_put (wt_fs f fs (i + 1)) x (.inl v)
        rw [← this]
/-- a cell that may be written -/
def wt_at (H : List wt_p) (a : Nat) (p : wt_p) : Prop := mj_nth H a = some p ∧ Nat.ble 4 a = true
section
variable (H : List wt_p) (x : Nat) (xs : List Nat) (loc : mj_l Int32) (st : mj_s Int32) (s : wt_S) (kn : mj_l Int32 → mj_s Int32 → wt_S → Prop) (kj : Nat → mj_s Int32 → Prop) (kc : Nat → Nat → List (mj_v Int32) → mj_s Int32 → Prop) (kr : Option (mj_v Int32) → Prop)
def wt_dv (op : Nat) : Prop := match st with
  | .inl b :: .inl a :: rest => b ≠ 0 ∧ match op with
    | 3 => kn loc (.inl (a / b) :: rest) s
    | _ => kn loc (.inl (a - a / b * b) :: rest) s
  | _ => False
def wt_icmp (c : Jvm.ClassFile.Cond) : Prop := match st with
  | .inl b :: .inl a :: rest => (wq_cm c a b → kj x rest) ∧ (¬ wq_cm c a b → kn loc rest s)
  | _ => False
def wt_ifc (c : Jvm.ClassFile.Cond) : Prop := match st with
  | .inl a :: rest => (wq_cm c a 0 → kj x rest) ∧ (¬ wq_cm c a 0 → kn loc rest s)
  | _ => False
def wt_ald (tag : Nat) : Prop := match st with
  | .inl i :: .inr (some a) :: rest => ∃ n, mj_nth H a = some (.inl (tag, n)) ∧ ∃ k : Nat, (i.toInt = k ∧ k < n) ∧ kn loc (.inl (s a k) :: rest) s
  | _ => False
def wt_ast : Prop := match st with
  | .inl v :: .inl i :: .inr (some a) :: rest => ∃ n, wt_at H a (.inl (0, n)) ∧ ∃ k : Nat, (i.toInt = k ∧ k < n) ∧ kn loc rest (wt_u s a k v)
  | _ => False
def wt_bst : Prop := match st with
  | .inl v :: .inl i :: .inr (some a) :: rest => ∃ n, wt_at H a (.inl (1, n)) ∧ (v = 0 ∨ v = 1) ∧ ∃ k : Nat, (i.toInt = k ∧ k < n) ∧ kn loc rest (wt_u s a k v)
  | _ => False
def wt_aald : Prop := match st with
  | .inl i :: .inr (some a) :: rest => ∃ n f, wt_at H a (.inr (.inl (n, f))) ∧ ∃ k : Nat, (i.toInt = k ∧ k < n) ∧ ∃ b, f k = some b ∧ kn loc (.inr (some b) :: rest) s
  | _ => False
def wt_alen : Prop := match st with
  | .inr (some a) :: rest => (∃ t n, mj_nth H a = some (.inl (t, n)) ∧ kn loc (.inl (Int32.ofInt (Int.ofNat n)) :: rest) s) ∨ (∃ n f, wt_at H a (.inr (.inl (n, f))) ∧ kn loc (.inl (Int32.ofInt (Int.ofNat n)) :: rest) s)
  | _ => False
noncomputable def wt_getf : Prop := match st, xs with
  | .inr (some a) :: rest, ci :: _ => ∃ fs, wt_at H a (.inr (.inr (ci, fs))) ∧ match mj_nth fs x with
    | some none => kn loc (.inl (s a x) :: rest) s
    | some (some r) => kn loc (.inr r :: rest) s
    | none => False
  | _, _ => False
noncomputable def wt_putf : Prop := match st, xs with
  | .inl v :: .inr (some a) :: rest, ci :: _ :: kind :: _ => ∃ fs, wt_at H a (.inr (.inr (ci, fs))) ∧ match mj_nth fs x, kind with
    | some none, 0 => kn loc rest (wt_u s a x v)
    | some none, 1 => (v = 0 ∨ v = 1) ∧ kn loc rest (wt_u s a x v)
    | _, _ => False
  | _, _ => False
noncomputable def wt_acopy : Prop := match st with
  | .inl n :: .inl dp :: .inr (some b) :: .inl sp0 :: .inr (some a) :: rest => ∃ n0 n1, mj_nth H a = some (.inl (0, n0)) ∧ wt_at H b (.inl (0, n1)) ∧ Nat.ble (mj_len rest) 8 = true ∧ (0 ≤ n.toInt ∧ 0 ≤ dp.toInt ∧ 0 ≤ sp0.toInt ∧ sp0.toInt + n.toInt ≤ n0 ∧ dp.toInt + n.toInt ≤ n1) ∧ kn loc rest (wt_uf s b (mj_cpy (s a) (s b) sp0.toInt.toNat dp.toInt.toNat n.toInt.toNat))
  | _ => False
noncomputable def wt_call : Prop := match xs with
  | n :: ml :: recv :: _ => match mj_args n st [] with
    | some (as, rest) => match Nat.ble (mj_len rest) 8, recv, as with
      | true, 0, as => kc x ml as rest
      | true, ci + 1, .inr (some a) :: as => ∃ fs, wt_at H a (.inr (.inr (ci, fs))) ∧ kc x ml (.inr (some a) :: as) rest
      | _, _, _ => False
    | none => False
  | _ => False
noncomputable def wt_spec : Prop := match Nat.beq x 100000 with
  | true => False
  | false => wt_call H x xs st kc
noncomputable def wt_stat : Prop := match Nat.beq x 100001 with
  | true => wt_acopy H loc st s kn
  | false => wt_call H x xs st kc
/-- one instruction -/
noncomputable def wt_step (ins : Instr) : Prop := match ins with
  | .iload i => mj_iload loc st [] (fun l t _ => kn l t s) False i
  | .iload_n i => mj_iload loc st [] (fun l t _ => kn l t s) False i.val
  | .aload i => mj_aload loc st [] (fun l t _ => kn l t s) False i
  | .aload_n i => mj_aload loc st [] (fun l t _ => kn l t s) False i.val
  | .istore i => mj_istore loc st [] (fun l t _ => kn l t s) False i
  | .istore_n i => mj_istore loc st [] (fun l t _ => kn l t s) False i.val
  | .astore i => mj_astore loc st [] (fun l t _ => kn l t s) False i
  | .astore_n i => mj_astore loc st [] (fun l t _ => kn l t s) False i.val
  | .iconst n => kn loc (.inl (Int32.ofInt n) :: st) s
  | .bipush n => kn loc (.inl (Int32.ofInt n) :: st) s
  | .sipush n => kn loc (.inl (Int32.ofInt n) :: st) s
  | .ldc _ => kn loc (.inl (Int32.ofInt (Int.ofNat x - 2147483648)) :: st) s
  | .ldc_w _ => kn loc (.inl (Int32.ofInt (Int.ofNat x - 2147483648)) :: st) s
  | .iadd => mj_bin mj_I loc st [] (fun l t _ => kn l t s) False 0
  | .isub => mj_bin mj_I loc st [] (fun l t _ => kn l t s) False 1
  | .imul => mj_bin mj_I loc st [] (fun l t _ => kn l t s) False 2
  | .idiv => wt_dv loc st s kn 3
  | .irem => wt_dv loc st s kn 4
  | .ishl => mj_bin mj_I loc st [] (fun l t _ => kn l t s) False 5
  | .ishr => mj_bin mj_I loc st [] (fun l t _ => kn l t s) False 6
  | .iand => mj_bin mj_I loc st [] (fun l t _ => kn l t s) False 7
  | .ior => mj_bin mj_I loc st [] (fun l t _ => kn l t s) False 8
  | .ineg => mj_neg mj_I loc st [] (fun l t _ => kn l t s) False
  | .iinc i n => mj_iinc mj_I loc st [] (fun l t _ => kn l t s) False i n
  | .if_icmp c _ => wt_icmp x loc st s kn kj c
  | .ifCond c _ => wt_ifc x loc st s kn kj c
  | .goto _ => kj x st
  | .tableswitch _ lo hi _ => wq_tab x xs st kj lo hi
  | .dup => mj_dup loc st [] (fun l t _ => kn l t s) False
  | .dup2 => mj_dup2 loc st [] (fun l t _ => kn l t s) False
  | .pop => mj_pop loc st [] (fun l t _ => kn l t s) False
  | .iaload => wt_ald H loc st s kn 0
  | .baload => wt_ald H loc st s kn 1
  | .iastore => wt_ast H loc st s kn
  | .bastore => wt_bst H loc st s kn
  | .aaload => wt_aald H loc st s kn
  | .arraylength => wt_alen H loc st s kn
  | .getfield _ => wt_getf H x xs loc st s kn
  | .putfield _ => wt_putf H x xs loc st s kn
  | .getstatic _ => kn loc (.inr (some x) :: st) s
  | .invokevirtual _ => wt_call H x xs st kc
  | .invokespecial _ => wt_spec H x xs st kc
  | .invokestatic _ => wt_stat H x xs loc st s kn kc
  | .ireturn => wq_iret x st kr
  | .areturn => mj_aret st kr False
  | .return_ => mj_vret st kr False
  | _ => False
end
section
variable {H : List wt_p} {x : Nat} {xs : List Nat} {loc : mj_l Int32} {st : mj_s Int32} {s : wt_S} {kn : mj_l Int32 → mj_s Int32 → wt_S → Prop} {kn' : mj_l Int32 → mj_s Int32 → mj_h Int32 → Prop} {kj : Nat → mj_s Int32 → Prop} {kc : Nat → Nat → List (mj_v Int32) → mj_s Int32 → Prop} {kr : Option (mj_v Int32) → Prop}
theorem wt_ald_ok (hk : ∀ l t s, kn l t s → kn' l t (wt_e H s)) (tag : Nat) (h : wt_ald H loc st s kn tag) : mj_ald mj_I loc st (wt_e H s) kn' False tag := by
  unfold wt_ald at h
  unfold mj_ald
  split at h
  · rename_i i a rest
    obtain ⟨n, e, k, h1, h2⟩ := h
    have e := wt_nth (s := s) e
    simp only [e, wt_c]
    rw [show Nat.beq tag tag = true by rw [Nat.beq_eq]]
    show (match mj_ix i.toInt n with
      | some k => kn' loc (.inl (s a k) :: rest) (wt_e H s)
      | none => False)
    rw [wq_ix h1]
    exact hk _ _ _ h2
  · exact h.elim
theorem wt_ast_ok (hk : ∀ l t s, kn l t s → kn' l t (wt_e H s)) (h : wt_ast H loc st s kn) : mj_ast mj_I loc st (wt_e H s) kn' False := by
  unfold wt_ast at h
  unfold mj_ast
  split at h
  · rename_i v i a rest
    obtain ⟨n, ⟨e, e4⟩, k, h1, h2⟩ := h
    have e' := wt_nth (s := s) e
    simp only [e', wt_c, e4]
    show (match mj_ix i.toInt n with
      | some k => kn' loc rest (mj_put (wt_e H s) a (.inl (0, n, mj_upd (s a) k v)))
      | none => False)
    rw [wq_ix h1]
    show kn' loc rest (mj_put (wt_e H s) a (.inl (0, n, mj_upd (s a) k v)))
    rw [← (show wt_e H (wt_u s a k v) = mj_put (wt_e H s) a (.inl (0, n, mj_upd (s a) k v)) from wt_put e rfl)]
    exact hk _ _ _ h2
  · exact h.elim
theorem wt_bst_ok (hk : ∀ l t s, kn l t s → kn' l t (wt_e H s)) (h : wt_bst H loc st s kn) : mj_bst mj_I loc st (wt_e H s) kn' False := by
  unfold wt_bst at h
  unfold mj_bst
  split at h
  · rename_i v i a rest
    obtain ⟨n, ⟨e, e4⟩, h0, k, h1, h2⟩ := h
    have e' := wt_nth (s := s) e
    have hb : mj_bit (mj_I.2.2.2 v) = true := wq_bit h0
    simp only [e', wt_c, e4, hb]
    show (match mj_ix i.toInt n with
      | some k => kn' loc rest (mj_put (wt_e H s) a (.inl (1, n, mj_upd (s a) k v)))
      | none => False)
    rw [wq_ix h1]
    show kn' loc rest (mj_put (wt_e H s) a (.inl (1, n, mj_upd (s a) k v)))
    rw [← (show wt_e H (wt_u s a k v) = mj_put (wt_e H s) a (.inl (1, n, mj_upd (s a) k v)) from wt_put e rfl)]
    exact hk _ _ _ h2
  · exact h.elim
theorem wt_aald_ok (hk : ∀ l t s, kn l t s → kn' l t (wt_e H s)) (h : wt_aald H loc st s kn) : mj_aald mj_I loc st (wt_e H s) kn' False := by
  unfold wt_aald at h
  unfold mj_aald
  split at h
  · rename_i i a rest
    obtain ⟨n, f, ⟨e, e4⟩, k, h1, b, h2, h3⟩ := h
    have e' := wt_nth (s := s) e
    simp only [e', wt_c, e4]
    show (match mj_ix i.toInt n with
      | some k => match f k with
        | some b => kn' loc (.inr (some b) :: rest) (wt_e H s)
        | none => False
      | none => False)
    rw [wq_ix h1]
    show (match f k with
        | some b => kn' loc (.inr (some b) :: rest) (wt_e H s)
        | none => False)
    rw [h2]
    exact hk _ _ _ h3
  · exact h.elim
theorem wt_alen_ok (hk : ∀ l t s, kn l t s → kn' l t (wt_e H s)) (h : wt_alen H loc st s kn) : mj_alen mj_I loc st (wt_e H s) kn' False := by
  unfold wt_alen at h
  unfold mj_alen
  split at h
  · rename_i a rest
    rcases h with ⟨t, n, e, h⟩ | ⟨n, f, ⟨e, e4⟩, h⟩
    · have e' := wt_nth (s := s) e
      simp only [e', wt_c]
      exact hk _ _ _ h
    · have e' := wt_nth (s := s) e
      simp only [e', wt_c, e4]
      exact hk _ _ _ h
  · exact h.elim
theorem wt_getf_ok (hk : ∀ l t s, kn l t s → kn' l t (wt_e H s)) (h : wt_getf H x xs loc st s kn) : mj_getf x xs loc st (wt_e H s) kn' False := by
  unfold wt_getf at h
  unfold mj_getf
  split at h
  · rename_i a rest ci ys
    obtain ⟨fs, ⟨e, e4⟩, h⟩ := h
    have e' := wt_nth (s := s) e
    have eb : Nat.beq ci ci = true := by rw [Nat.beq_eq]
    split at h
    · rename_i e5
      have e6 := wt_fs_nth (f := s a) (i := 0) e5
      rw [Nat.zero_add] at e6
      simp only [e', wt_c, e4, eb, e6]
      exact hk _ _ _ h
    · rename_i r e5
      have e6 := wt_fs_nth (f := s a) (i := 0) e5
      simp only [e', wt_c, e4, eb, e6]
      exact hk _ _ _ h
    · exact h.elim
  · exact h.elim
theorem wt_putf_ok (hk : ∀ l t s, kn l t s → kn' l t (wt_e H s)) (h : wt_putf H x xs loc st s kn) : mj_putf mj_I x xs loc st (wt_e H s) kn' False := by
  unfold wt_putf at h
  unfold mj_putf
  split at h
  · rename_i v a rest ci pw kind ys
    obtain ⟨fs, ⟨e, e4⟩, h⟩ := h
    have e' := wt_nth (s := s) e
    have eb : Nat.beq ci ci = true := by rw [Nat.beq_eq]
    have key : mj_nth fs x = some none → mj_put (wt_e H s) a (.inr (.inr (ci, mj_put (wt_fs (s a) fs 0) x (.inl v)))) = wt_e H (wt_u s a x v) := fun e5 => by
      have := wt_fs_put (f := s a) (v := v) (i := 0) e5
      rw [Nat.zero_add] at this
      exact (wt_put (s := s) (f := mj_upd (s a) x v) e (by show Sum.inr (Sum.inr (ci, wt_fs (mj_upd (s a) x v) fs 0)) = _; rw [this])).symm
    split at h
    · rename_i e5
      have e6 := wt_fs_nth (f := s a) (i := 0) e5
      simp only [e', wt_c, e4, eb, e6]
      show kn' loc rest _
      rw [key e5]
      exact hk _ _ _ h
    · rename_i e5
      have e6 := wt_fs_nth (f := s a) (i := 0) e5
      have hb : mj_fit mj_I 1 (.inl v) = true := wq_bit h.1
      simp only [e', wt_c, e4, eb, e6, hb]
      rw [key e5]
      exact hk _ _ _ h.2
    · exact h.elim
  · exact h.elim
theorem wt_acopy_ok (hk : ∀ l t s, kn l t s → kn' l t (wt_e H s)) (h : wt_acopy H loc st s kn) : mj_acopy mj_I loc st (wt_e H s) kn' False := by
  unfold wt_acopy at h
  unfold mj_acopy
  split at h
  · rename_i n dp b sp0 a rest
    obtain ⟨n0, n1, ea, ⟨eb, e4⟩, e5, ⟨p1, p2, p3, p4, p5⟩, h⟩ := h
    have ea' := wt_nth (s := s) ea
    have eb' := wt_nth (s := s) eb
    simp only [ea', eb', wt_c, e4]
    obtain ⟨N, hN⟩ := Int.eq_ofNat_of_zero_le p1
    obtain ⟨D, hD⟩ := Int.eq_ofNat_of_zero_le p2
    obtain ⟨S, hS⟩ := Int.eq_ofNat_of_zero_le p3
    have q1 : mj_I.2.2.2 n = some (.ofNat N) := congrArg some hN
    have q2 : mj_I.2.2.2 dp = some (.ofNat D) := congrArg some hD
    have q3 : mj_I.2.2.2 sp0 = some (.ofNat S) := congrArg some hS
    simp only [q1, q2, q3]
    rw [hN, hD, hS] at h
    rw [Nat.ble_eq_true_of_le (show S + N ≤ n0 by omega), Nat.ble_eq_true_of_le (show D + N ≤ n1 by omega), e5]
    show kn' loc rest (mj_put (wt_e H s) b (.inl (0, n1, mj_cpy (s a) (s b) S D N)))
    rw [← (show wt_e H (wt_uf s b (mj_cpy (s a) (s b) S D N)) = mj_put (wt_e H s) b (.inl (0, n1, mj_cpy (s a) (s b) S D N)) from wt_put eb rfl)]
    exact hk _ _ _ h
  · exact h.elim
theorem wt_call_ok {kc' : Nat → Nat → List (mj_v Int32) → mj_s Int32 → Prop} (hc : ∀ k ml as rest, kc k ml as rest → kc' k ml as rest) (h : wt_call H x xs st kc) : mj_call x xs st (wt_e H s) kc' False := by
  unfold wt_call at h
  unfold mj_call
  split at h
  · rename_i n ml recv ys
    split at h
    · rename_i as rest e1
      simp only [e1]
      split at h
      · rename_i e2
        simp only [e2]
        exact hc _ _ _ _ h
      · rename_i ci a as e2
        obtain ⟨fs, ⟨e, e4⟩, h⟩ := h
        have e' := wt_nth (s := s) e
        have : mj_isof (wt_e H s) ci (.inr (some a)) = true := by
          have eb : Nat.beq ci ci = true := by rw [Nat.beq_eq]
          unfold mj_isof
          simp only [e', wt_c, eb, e4, Bool.and_self]
        simp only [e2, this]
        exact hc _ _ _ _ h
      · exact h.elim
    · exact h.elim
  · exact h.elim
theorem wt_dv_ok (hk : ∀ l t s, kn l t s → kn' l t (wt_e H s)) (h : wt_dv loc st s kn 3) : mj_bin mj_I loc st (wt_e H s) kn' False 3 := by
  unfold wt_dv at h
  unfold mj_bin
  split at h
  · rename_i b a rest
    have : mj_I.2.1 3 a b = some (a / b) := by
      show (if b = 0 then none else some (a / b)) = some (a / b)
      rw [if_neg h.1]
    simp only [this]
    exact hk _ _ _ h.2
  · exact h.elim
theorem wt_rm_ok (hk : ∀ l t s, kn l t s → kn' l t (wt_e H s)) (h : wt_dv loc st s kn 4) : mj_bin mj_I loc st (wt_e H s) kn' False 4 := by
  unfold wt_dv at h
  unfold mj_bin
  split at h
  · rename_i b a rest
    have : mj_I.2.1 4 a b = some (a - a / b * b) := by
      show (if b = 0 then none else some (a - a / b * b)) = some (a - a / b * b)
      rw [if_neg h.1]
    simp only [this]
    exact hk _ _ _ h.2
  · exact h.elim
theorem wt_step_ok {kj' : Nat → mj_s Int32 → Prop} {kc' : Nat → Nat → List (mj_v Int32) → mj_s Int32 → Prop} {kr' : Option (mj_v Int32) → Prop} (hk : ∀ l t s, kn l t s → kn' l t (wt_e H s)) (hj : ∀ j t, kj j t → kj' j t) (hc : ∀ k ml as rest, kc k ml as rest → kc' k ml as rest) (hr : ∀ v, kr v → kr' v) (ins : Instr) (h : wt_step H x xs loc st s kn kj kc kr ins) : mj_step (α := Prop) mj_I x xs loc st (wt_e H s) kn' kj' kc' kr' False ins := by
  have tab : ∀ lo hi, wq_tab x xs st kj lo hi → mj_tab mj_I x xs st kj' False lo hi := fun lo hi q => by
    refine wq_tab_ok lo hi ?_
    unfold wq_tab at q ⊢
    split at q
    · refine ⟨fun e => hj _ _ (q.1 e), ?_⟩
      have : ∀ (xs : List Nat) (rest : mj_s Int32) (z lo : Int), wq_tabs kj rest z hi xs lo → wq_tabs kj' rest z hi xs lo := by
        intro xs rest z
        induction xs with
        | nil => intro lo q; exact q
        | cons t ts ih => intro lo q; exact ⟨fun e => hj _ _ (q.1 e), ih _ q.2⟩
      exact this _ _ _ _ q.2
    · exact q.elim
  have icmp : ∀ c, wt_icmp x loc st s kn kj c → mj_icmp mj_I x loc st (wt_e H s) kn' kj' False c := fun c q => by
    refine wq_icmp_ok (enc := wt_e H) (kn := kn) hk c ?_
    unfold wt_icmp at q
    unfold wq_icmp
    split at q
    · exact ⟨fun e => hj _ _ (q.1 e), q.2⟩
    · exact q.elim
  have ifc : ∀ c, wt_ifc x loc st s kn kj c → mj_ifc mj_I x loc st (wt_e H s) kn' kj' False c := fun c q => by
    refine wq_ifc_ok (enc := wt_e H) (kn := kn) hk c ?_
    unfold wt_ifc at q
    unfold wq_ifc
    split at q
    · exact ⟨fun e => hj _ _ (q.1 e), q.2⟩
    · exact q.elim
  cases ins with
  | iload i => exact wq_iload_ok (enc := wt_e H) hk _ h
  | iload_n i => exact wq_iload_ok (enc := wt_e H) hk _ h
  | aload i => exact wq_aload_ok (enc := wt_e H) hk _ h
  | aload_n i => exact wq_aload_ok (enc := wt_e H) hk _ h
  | istore i => exact wq_istore_ok (enc := wt_e H) hk _ h
  | istore_n i => exact wq_istore_ok (enc := wt_e H) hk _ h
  | astore i => exact wq_astore_ok (enc := wt_e H) hk _ h
  | astore_n i => exact wq_astore_ok (enc := wt_e H) hk _ h
  | iconst n => exact hk _ _ _ h
  | bipush n => exact hk _ _ _ h
  | sipush n => exact hk _ _ _ h
  | ldc i => exact hk _ _ _ h
  | ldc_w i => exact hk _ _ _ h
  | iadd => exact wq_bin_ok (enc := wt_e H) hk 0 h
  | isub => exact wq_bin_ok (enc := wt_e H) hk 1 h
  | imul => exact wq_bin_ok (enc := wt_e H) hk 2 h
  | idiv => exact wt_dv_ok hk h
  | irem => exact wt_rm_ok hk h
  | ishl => exact wq_bin_ok (enc := wt_e H) hk 5 h
  | ishr => exact wq_bin_ok (enc := wt_e H) hk 6 h
  | iand => exact wq_bin_ok (enc := wt_e H) hk 7 h
  | ior => exact wq_bin_ok (enc := wt_e H) hk 8 h
  | ineg => exact wq_neg_ok (enc := wt_e H) hk h
  | iinc i n => exact wq_iinc_ok (enc := wt_e H) hk _ _ h
  | if_icmp c o => exact icmp c h
  | ifCond c o => exact ifc c h
  | goto o => exact hj _ _ h
  | tableswitch _ lo hi _ => exact tab lo hi h
  | dup => exact wq_dup_ok (enc := wt_e H) hk h
  | dup2 => exact wq_dup2_ok (enc := wt_e H) hk h
  | pop => exact wq_pop_ok (enc := wt_e H) hk h
  | iaload => exact wt_ald_ok hk _ h
  | baload => exact wt_ald_ok hk _ h
  | iastore => exact wt_ast_ok hk h
  | bastore => exact wt_bst_ok hk h
  | aaload => exact wt_aald_ok hk h
  | arraylength => exact wt_alen_ok hk h
  | getfield i => exact wt_getf_ok hk h
  | putfield i => exact wt_putf_ok hk h
  | getstatic i => exact hk _ _ _ h
  | invokevirtual i => exact wt_call_ok hc h
  | invokespecial i =>
    change wt_spec H x xs st kc at h
    show mj_spec x xs loc st (wt_e H s) kn' kc' False
    unfold wt_spec at h
    unfold mj_spec
    split at h
    · exact h.elim
    · rename_i e
      simp only [e]
      exact wt_call_ok hc h
  | invokestatic i =>
    change wt_stat H x xs loc st s kn kc at h
    show mj_stat mj_I x xs loc st (wt_e H s) kn' kc' False
    unfold wt_stat at h
    unfold mj_stat
    split at h
    · rename_i e
      simp only [e]
      exact wt_acopy_ok hk h
    · rename_i e
      simp only [e]
      exact wt_call_ok hc h
  | ireturn =>
    change wq_iret x st kr at h
    show mj_iret mj_I x st kr' False
    unfold wq_iret at h
    unfold mj_iret
    split at h
    · rename_i v
      cases x with
      | zero => exact hr _ h
      | succ n =>
        have hb : mj_bit (mj_I.2.2.2 v) = true := wq_bit h.1
        show (match mj_bit (mj_I.2.2.2 v) with
          | true => kr' (some (.inl v))
          | false => False)
        rw [hb]
        exact hr _ h.2
    · exact h.elim
  | areturn =>
    change mj_aret st kr False at h
    show mj_aret st kr' False
    unfold mj_aret at h ⊢
    split at h
    · exact hr _ h
    · exact h.elim
  | return_ =>
    change mj_vret st kr False at h
    show mj_vret st kr' False
    unfold mj_vret at h ⊢
    split at h
    · exact hr _ h
    · exact h.elim
  | _ => exact h.elim
end
/-! ### a method's run over the store, and what a function of the store says of it -/
def wt_W (H : List wt_p) (d : Nat) (cd suf : List mj_r) (loc : mj_l Int32) (st : mj_s Int32) (s : wt_S) (Q : Option (mj_v Int32) → wt_S → Prop) : Prop := mj_W d cd suf loc st (wt_e H s) (fun v h => ∃ s', h = wt_e H s' ∧ Q v s')
theorem wt_W.mono {H : List wt_p} {d : Nat} {cd suf : List mj_r} {loc : mj_l Int32} {st : mj_s Int32} {s : wt_S} {Q Q' : Option (mj_v Int32) → wt_S → Prop} (h : wt_W H d cd suf loc st s Q) (hq : ∀ v s', Q v s' → Q' v s') : wt_W H d cd suf loc st s Q' :=
  mj_W.mono h fun v h ⟨s', e, q⟩ => ⟨s', e, hq _ _ q⟩
theorem wt_W.step {H : List wt_p} {d : Nat} {cd tl : List mj_r} {r : mj_r} {loc : mj_l Int32} {st : mj_s Int32} {s : wt_S} {Q : Option (mj_v Int32) → wt_S → Prop} {kn : mj_l Int32 → mj_s Int32 → wt_S → Prop} {kj : Nat → mj_s Int32 → Prop} {kf : mj_s Int32 → wt_S → Prop}
    (hk : ∀ l t s, kn l t s → wt_W H d cd tl l t s Q) (hj : ∀ j t, kj j t → wt_W H d cd (mj_drop j cd) loc t s Q) (hf : ∀ t s, kf t s → wt_W H d cd tl loc t s Q)
    (h : wt_step H r.2.2.1 r.2.2.2 loc st s kn kj
      (fun k ml as rest => ∃ d' cd', d = d' + 1 ∧ mj_cds[k]? = some cd' ∧ wt_W H d' cd' cd' (mj_ent ml as) [] s (fun v s' => kf (v.toList ++ rest) s')) (fun v => Q v s) r.2.1) : wt_W H d cd (r :: tl) loc st s Q := by
  refine mj_W.step (wt_step_ok hk hj ?_ ?_ _ h)
  · rintro k ml as rest ⟨d', cd', e1, e2, e3⟩
    refine ⟨d', cd', e1, e2, mj_W.mono e3 ?_⟩
    rintro v h1 ⟨s', rfl, q⟩
    exact hf _ _ q
  · exact fun v q => ⟨s, rfl, q⟩
section
variable (H : List wt_p) (stops : List Nat) (d : Nat) (cd : List mj_r) (Q : Option (mj_v Int32) → wt_S → Prop)
/-- many instructions: up to the places that are named, or to the end -/
noncomputable def wt (n : Nat) : List mj_r → mj_l Int32 → mj_s Int32 → wt_S → Prop :=
  Nat.rec (motive := fun _ => List mj_r → mj_l Int32 → mj_s Int32 → wt_S → Prop) (fun suf loc st s => wt_W H d cd suf loc st s Q)
    (fun _ ih suf loc st s => match suf with
      | [] => False
      | r :: tl => match wq_mem r.1 stops with
        | true => True ∧ wt_W H d cd (r :: tl) loc st s Q
        | false => wt_step H r.2.2.1 r.2.2.2 loc st s (fun l t s => ih tl l t s) (fun j t => ih (mj_drop j cd) loc t s)
          (fun k ml as rest => ∃ d' cd', d = d' + 1 ∧ mj_cds[k]? = some cd' ∧ wt_W H d' cd' cd' (mj_ent ml as) [] s (fun v s' => ih tl loc (v.toList ++ rest) s')) (fun v => Q v s) r.2.1) n
/-- the same, the first one even at a place that is named -/
noncomputable def wt1 (n : Nat) (suf : List mj_r) (loc : mj_l Int32) (st : mj_s Int32) (s : wt_S) : Prop := match suf with
  | [] => False
  | r :: tl => wt_step H r.2.2.1 r.2.2.2 loc st s (fun l t s => wt H stops d cd Q n tl l t s) (fun j t => wt H stops d cd Q n (mj_drop j cd) loc t s)
          (fun k ml as rest => ∃ d' cd', d = d' + 1 ∧ mj_cds[k]? = some cd' ∧ wt_W H d' cd' cd' (mj_ent ml as) [] s (fun v s' => wt H stops d cd Q n tl loc (v.toList ++ rest) s')) (fun v => Q v s) r.2.1
end
section
variable {H : List wt_p} {d : Nat} {cd : List mj_r} {Q : Option (mj_v Int32) → wt_S → Prop}
theorem wt_sound {stops : List Nat} : ∀ (n : Nat) {suf : List mj_r} {loc : mj_l Int32} {st : mj_s Int32} {s : wt_S}, wt H stops d cd Q n suf loc st s → wt_W H d cd suf loc st s Q := by
  intro n
  induction n with
  | zero => intro suf loc st s h; exact h
  | succ n ih =>
    intro suf loc st s h
    cases suf with
    | nil => exact h.elim
    | cons r tl =>
      change (match wq_mem r.1 stops with
        | true => True ∧ wt_W H d cd (r :: tl) loc st s Q
        | false => wt_step H r.2.2.1 r.2.2.2 loc st s (fun l t s => wt H stops d cd Q n tl l t s) (fun j t => wt H stops d cd Q n (mj_drop j cd) loc t s)
          (fun k ml as rest => ∃ d' cd', d = d' + 1 ∧ mj_cds[k]? = some cd' ∧ wt_W H d' cd' cd' (mj_ent ml as) [] s (fun v s' => wt H stops d cd Q n tl loc (v.toList ++ rest) s')) (fun v => Q v s) r.2.1) at h
      split at h
      · exact h.2
      · exact wt_W.step (kf := fun t s => wt H stops d cd Q n tl loc t s) (fun l t s q => ih q) (fun j t q => ih q) (fun t s q => ih q) h
theorem wt1_sound {stops : List Nat} (n : Nat) {suf : List mj_r} {loc : mj_l Int32} {st : mj_s Int32} {s : wt_S} (h : wt1 H stops d cd Q n suf loc st s) : wt_W H d cd suf loc st s Q := by
  cases suf with
  | nil => exact h.elim
  | cons r tl => exact wt_W.step (kf := fun t s => wt H stops d cd Q n tl loc t s) (fun l t s q => wt_sound n q) (fun j t q => wt_sound n q) (fun t s q => wt_sound n q) h
end
/-! ### functions of the store: what they are made of -/
def wt_ix {α : Type} (i : Int32) (n : Nat) (F : Nat → Option α) : Option α := if 0 ≤ i.toInt ∧ i.toInt < n then F i.toInt.toNat else none
def wt_wr {α : Type} (s : wt_S) (a k : Nat) (v : Int32) (F : wt_S → Option α) : Option α := F (wt_u s a k v)
def wt_cl {α β : Type} (r : Option (β × wt_S)) (F : β → wt_S → Option α) : Option α := match r with
  | some (v, s) => F v s
  | none => none
def wt_ac {α : Type} (s : wt_S) (a : Nat) (p : Int32) (b : Nat) (q n : Int32) (n0 n1 : Nat) (F : wt_S → Option α) : Option α := if 0 ≤ n.toInt ∧ 0 ≤ q.toInt ∧ 0 ≤ p.toInt ∧ p.toInt + n.toInt ≤ n0 ∧ q.toInt + n.toInt ≤ n1 then F (wt_uf s b (mj_cpy (s a) (s b) p.toInt.toNat q.toInt.toNat n.toInt.toNat)) else none
/-- a boolean -/
def wt_rz {α : Type} (v : Int32) (F : Option α) : Option α := if v = 0 ∨ v = 1 then F else none
def wt_iv (v : Int32) : Option (mj_v Int32) := some (.inl v)
def wt_uv (_ : Unit) : Option (mj_v Int32) := none
def wt_av (a : Nat) : Option (mj_v Int32) := some (.inr (some a))
/-- where the function has an answer, the method runs, and answers so -/
def wt_sd {β : Type} (H : List wt_p) (m : β → Option (mj_v Int32)) (d : Nat) (cd suf : List mj_r) (loc : mj_l Int32) (st : mj_s Int32) (s : wt_S) (F : Option (β × wt_S)) : Prop := ∀ R, F = some R → wt_W H d cd suf loc st s (fun r t => r = m R.1 ∧ t = R.2)
section
variable {α β : Type} {H : List wt_p} {m : β → Option (mj_v Int32)} {d : Nat} {cd suf : List mj_r} {loc : mj_l Int32} {st : mj_s Int32} {s : wt_S} {F : Option (β × wt_S)}
theorem wt_go (stops : List Nat) (n : Nat) (h : ∀ R, F = some R → wt H stops d cd (fun r t => r = m R.1 ∧ t = R.2) n suf loc st s) : wt_sd H m d cd suf loc st s F := fun R e => wt_sound n (h R e)
theorem wt_go1 (stops : List Nat) (n : Nat) (h : ∀ R, F = some R → wt1 H stops d cd (fun r t => r = m R.1 ∧ t = R.2) n suf loc st s) : wt_sd H m d cd suf loc st s F := fun R e => wt1_sound n (h R e)
theorem wt_tn {R : α} {P : Prop} (h : none = some R) : P := by cases h
theorem wt_tb {c G1 G2 : Prop} {_i : Decidable c} {F1 F2 : Option α} {R : α} (h : (if c then F1 else F2) = some R) (h1 : F1 = some R → G1) (h2 : F2 = some R → G2) : (c → G1) ∧ (¬ c → G2) := by
  constructor
  · intro hc
    rw [if_pos hc] at h
    exact h1 h
  · intro hc
    rw [if_neg hc] at h
    exact h2 h
theorem wt_tx {i : Int32} {n : Nat} {F : Nat → Option α} {R : α} {G : Nat → Prop} (h : wt_ix i n F = some R) (h1 : ∀ k, F k = some R → G k) : ∃ k : Nat, (i.toInt = k ∧ k < n) ∧ G k := by
  unfold wt_ix at h
  split at h
  · rename_i hc
    exact ⟨i.toInt.toNat, by omega, h1 _ h⟩
  · cases h
theorem wt_tc {γ : Type} {e : γ → Option (mj_v Int32)} {r : Option (γ × wt_S)} {F : γ → wt_S → Option α} {R : α} {G : Option (mj_v Int32) → wt_S → Prop} (h : wt_cl r F = some R) (h0 : wt_sd H e d cd suf loc st s r) (h1 : ∀ v t, F v t = some R → G (e v) t) : wt_W H d cd suf loc st s (fun v t => G v t) := by
  cases r with
  | none => cases h
  | some p =>
    refine (h0 p rfl).mono ?_
    rintro v t ⟨rfl, rfl⟩
    exact h1 _ _ h
theorem wt_ta {a b : Nat} {p q n : Int32} {n0 n1 : Nat} {F : wt_S → Option α} {R : α} {G : wt_S → Prop} (h : wt_ac s a p b q n n0 n1 F = some R) (h1 : ∀ t, F t = some R → G t) : (0 ≤ n.toInt ∧ 0 ≤ q.toInt ∧ 0 ≤ p.toInt ∧ p.toInt + n.toInt ≤ n0 ∧ q.toInt + n.toInt ≤ n1) ∧ G (wt_uf s b (mj_cpy (s a) (s b) p.toInt.toNat q.toInt.toNat n.toInt.toNat)) := by
  unfold wt_ac at h
  split at h
  · rename_i hc
    exact ⟨hc, h1 _ h⟩
  · cases h
theorem wt_tz {v : Int32} {F : Option α} {R : α} {G : Prop} (h : wt_rz v F = some R) (h1 : F = some R → G) : (v = 0 ∨ v = 1) ∧ G := by
  unfold wt_rz at h
  split at h
  · rename_i hc
    exact ⟨hc, h1 h⟩
  · cases h
theorem wt_tr {γ : Type} {e : γ → Option (mj_v Int32)} {v : γ} {t : wt_S} {R : γ × wt_S} (h : some (v, t) = some R) : e v = e R.1 ∧ t = R.2 := by
  cases h
  exact ⟨rfl, rfl⟩
theorem wt_tw {a k : Nat} {v : Int32} {F : wt_S → Option α} {R : α} (h : wt_wr s a k v F = some R) : F (wt_u s a k v) = some R := h
theorem wt_ty {i : Int32} {n : Nat} {F : Nat → Option α} {R : α} {G : Nat → Prop} (h : wt_ix i n F = some R) (h1 : ∀ k, k < n → F k = some R → G k) : ∃ k : Nat, (i.toInt = k ∧ k < n) ∧ G k := by
  unfold wt_ix at h
  split at h
  · rename_i hc
    exact ⟨i.toInt.toNat, by omega, h1 _ (by omega) h⟩
  · cases h
theorem wt_s0 {c G1 G2 : Prop} {_i : Decidable c} {F1 F2 : Option α} {R : α} (h : (if c then F1 else F2) = some R) (h1 : F1 = some R → G1) (h2 : (¬ c → F2 = some R) → G2) : (c → G1) ∧ G2 :=
  ⟨fun hc => h1 (by rw [if_pos hc] at h; exact h), h2 (fun hc => by rw [if_neg hc] at h; exact h)⟩
theorem wt_s1 {P c G1 G2 : Prop} {_i : Decidable c} {F1 F2 : Option α} {R : α} (h : P → (if c then F1 else F2) = some R) (hP : c → P) (h1 : F1 = some R → G1) (h2 : (P ∧ ¬ c → F2 = some R) → G2) : (c → G1) ∧ G2 :=
  ⟨fun hc => h1 (by have h := h (hP hc); rw [if_pos hc] at h; exact h), h2 (fun q => by have h := h q.1; rw [if_neg q.2] at h; exact h)⟩
end
