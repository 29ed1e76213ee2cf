section
/-! ===== runs over a store by cells and places: shapes stay, ints change ===== -/
abbrev wt_S : Type := Nat → Nat → Int32
/-- a cell's shape: a row of ints or booleans (tag, how many); a row of references; an object by its class's number, its fields (none: an int) -/
abbrev wt_p : Type := (Nat × Nat) ⊕ ((Nat × (Nat → Option Nat)) ⊕ (Nat × List (Option (Option Nat))))
def wt_fs (f : Nat → Int32) : List (Option (Option Nat)) → Nat → List (mj_v Int32)
  | [], _ => []
  | none :: l, i => .inl (f i) :: wt_fs f l (i + 1)
  | some r :: l, i => .inr r :: wt_fs f l (i + 1)
def wt_c (p : wt_p) (f : Nat → Int32) : mj_c Int32 := match p with
  | .inl (t, n) => .inl (t, n, f)
  | .inr (.inl (n, g)) => .inr (.inl (n, g))
  | .inr (.inr (c, fs)) => .inr (.inr (c, wt_fs f fs 0))
def wt_es (s : wt_S) : List wt_p → Nat → mj_h Int32
  | [], _ => []
  | p :: H, i => wt_c p (s i) :: wt_es s H (i + 1)
def wt_e (H : List wt_p) (s : wt_S) : mj_h Int32 := wt_es s H 0
/-- a cell is written whole; one place of it -/
def wt_uf (s : wt_S) (a : Nat) (f : Nat → Int32) : wt_S := fun b => if b = a then f else s b
def wt_u (s : wt_S) (a k : Nat) (v : Int32) : wt_S := wt_uf s a (mj_upd (s a) k v)
theorem wt_es_nth {s : wt_S} : ∀ {H : List wt_p} {i a : Nat} {p : wt_p}, mj_nth H a = some p → mj_nth (wt_es s H i) a = some (wt_c p (s (i + a))) := by
  intro H
  induction H with
  | nil => intro i a p h; rw [mj_nth_eq] at h; simp at h
  | cons q H ih =>
    intro i a p h
    cases a with
    | zero =>
      have h : some q = some p := h
      cases h
      rfl
    | succ a =>
      have h : mj_nth H a = some p := h
      show mj_nth (wt_es s H (i + 1)) a = _
      rw [ih h, show i + 1 + a = i + (a + 1) by omega]
theorem wt_nth {H : List wt_p} {s : wt_S} {a : Nat} {p : wt_p} (h : mj_nth H a = some p) : mj_nth (wt_e H s) a = some (wt_c p (s a)) := by
  have := wt_es_nth (s := s) (i := 0) h
  rw [Nat.zero_add] at this
  exact this
theorem wt_es_ne {s : wt_S} {f : Nat → Int32} {a : Nat} : ∀ {H : List wt_p} {i : Nat}, a < i → wt_es (wt_uf s a f) H i = wt_es s H i := by
  intro H
  induction H with
  | nil => intro i h; rfl
  | cons q H ih =>
    intro i h
    show wt_c q (wt_uf s a f i) :: _ = wt_c q (s i) :: _
    rw [ih (by omega)]
    unfold wt_uf
    rw [if_neg (by omega)]
theorem wt_es_put {s : wt_S} {f : Nat → Int32} {c : mj_c Int32} : ∀ {H : List wt_p} {i a : Nat} {p : wt_p}, mj_nth H a = some p → wt_c p f = c → wt_es (wt_uf s (i + a) f) H i = mj_put (wt_es s H i) a c := by
  intro H
  induction H with
  | nil => intro i a p h; rw [mj_nth_eq] at h; simp at h
  | cons q H ih =>
    intro i a p h hc
    cases a with
    | zero =>
      have h : some q = some p := h
      cases h
      show wt_c q (wt_uf s i f i) :: wt_es (wt_uf s i f) H (i + 1) = c :: wt_es s H (i + 1)
      rw [wt_es_ne (by omega)]
      unfold wt_uf
      rw [if_pos rfl, hc]
    | succ a =>
      have h : mj_nth H a = some p := h
      show wt_c q (wt_uf s (i + (a + 1)) f i) :: wt_es (wt_uf s (i + (a + 1)) f) H (i + 1) = wt_c q (s i) :: mj_put (wt_es s H (i + 1)) a c
      rw [← ih h hc, show i + 1 + a = i + (a + 1) by omega]
      congr 1
      unfold wt_uf
      rw [if_neg (by omega)]
theorem wt_put {H : List wt_p} {s : wt_S} {f : Nat → Int32} {a : Nat} {p : wt_p} {c : mj_c Int32} (h : mj_nth H a = some p) (hc : wt_c p f = c) : wt_e H (wt_uf s a f) = mj_put (wt_e H s) a c := by
  have := wt_es_put (s := s) (i := 0) h hc
  rw [Nat.zero_add] at this
  exact this
theorem wt_fs_nth {f : Nat → Int32} : ∀ {fs : List (Option (Option Nat))} {i x : Nat} {q : Option (Option Nat)}, mj_nth fs x = some q → mj_nth (wt_fs f fs i) x = some (match q with
    | none => .inl (f (i + x))
    | some r => .inr r) := by
  intro fs
  induction fs with
  | nil => intro i x q h; rw [mj_nth_eq] at h; simp at h
  | cons q0 fs ih =>
    intro i x q h
    cases x with
    | zero =>
      have h : some q0 = some q := h
      cases h
      cases q0 <;> rfl
    | succ x =>
      have h : mj_nth fs x = some q := h
      have := ih (i := i + 1) h
      rw [show i + 1 + x = i + (x + 1) by omega] at this
      cases q0 <;> exact this
theorem wt_fs_ne {f : Nat → Int32} {v : Int32} {j : Nat} : ∀ {fs : List (Option (Option Nat))} {i : Nat}, j < i → wt_fs (mj_upd f j v) fs i = wt_fs f fs i := by
  intro fs
  induction fs with
  | nil => intro i h; rfl
  | cons q0 fs ih =>
    intro i h
    cases q0 with
    | none =>
      show _ :: _ = _ :: _
      rw [ih (by omega)]
      congr 2
      unfold mj_upd
      rw [show Nat.beq i j = false by rw [← Bool.not_eq_true, Nat.beq_eq]; omega]
    | some r =>
      show _ :: _ = _ :: _
      rw [ih (by omega)]
theorem wt_fs_put {f : Nat → Int32} {v : Int32} : ∀ {fs : List (Option (Option Nat))} {i x : Nat}, mj_nth fs x = some none → wt_fs (mj_upd f (i + x) v) fs i = mj_put (wt_fs f fs i) x (.inl v) := by
  intro fs
  induction fs with
  | nil => intro i x h; rw [mj_nth_eq] at h; simp at h
  | cons q0 fs ih =>
    intro i x h
    cases x with
    | zero =>
      have h : some q0 = some none := h
      cases h
      show _ :: _ = Sum.inl v :: wt_fs f fs (i + 1)
      rw [Nat.add_zero, wt_fs_ne (by omega)]
      congr 2
      unfold mj_upd
      rw [show Nat.beq i i = true by rw [Nat.beq_eq]]
    | succ x =>
      have h : mj_nth fs x = some none := h
      have := ih (i := i + 1) h
      rw [show i + 1 + x = i + (x + 1) by omega] at this
      cases q0 with
      | none =>
        show _ :: _ = _ :: mj_put (wt_fs f fs (i + 1)) x (.inl v)
        rw [← this]
        congr 2
        unfold mj_upd
        rw [show Nat.beq i (i + (x + 1)) = false by rw [← Bool.not_eq_true, Nat.beq_eq]; omega]
      | some r =>
        show _ :: _ = _ :: mj_put (wt_fs f fs (i + 1)) x (.inl v)
        rw [← this]
/-- a cell that may be written -/
def wt_at (H : List wt_p) (a : Nat) (p : wt_p) : Prop := mj_nth H a = some p ∧ Nat.ble 4 a = true
section
variable (H : List wt_p) (x : Nat) (xs : List Nat) (loc : mj_l Int32) (st : mj_s Int32) (s : wt_S) (kn : mj_l Int32 → mj_s Int32 → wt_S → Prop) (kj : Nat → mj_s Int32 → Prop) (kc : Nat → Nat → List (mj_v Int32) → mj_s Int32 → Prop) (kr : Option (mj_v Int32) → Prop)
def wt_dv (op : Nat) : Prop := match st with
  | .inl b :: .inl a :: rest => b ≠ 0 ∧ match op with
    | 3 => kn loc (.inl (a / b) :: rest) s
    | _ => kn loc (.inl (a - a / b * b) :: rest) s
  | _ => False
def wt_icmp (c : Jvm.ClassFile.Cond) : Prop := match st with
  | .inl b :: .inl a :: rest => (wq_cm c a b → kj x rest) ∧ (¬ wq_cm c a b → kn loc rest s)
  | _ => False
def wt_ifc (c : Jvm.ClassFile.Cond) : Prop := match st with
  | .inl a :: rest => (wq_cm c a 0 → kj x rest) ∧ (¬ wq_cm c a 0 → kn loc rest s)
  | _ => False
def wt_ald (tag : Nat) : Prop := match st with
  | .inl i :: .inr (some a) :: rest => ∃ n, mj_nth H a = some (.inl (tag, n)) ∧ ∃ k : Nat, (i.toInt = k ∧ k < n) ∧ kn loc (.inl (s a k) :: rest) s
  | _ => False
def wt_ast : Prop := match st with
  | .inl v :: .inl i :: .inr (some a) :: rest => ∃ n, wt_at H a (.inl (0, n)) ∧ ∃ k : Nat, (i.toInt = k ∧ k < n) ∧ kn loc rest (wt_u s a k v)
  | _ => False
def wt_bst : Prop := match st with
  | .inl v :: .inl i :: .inr (some a) :: rest => ∃ n, wt_at H a (.inl (1, n)) ∧ (v = 0 ∨ v = 1) ∧ ∃ k : Nat, (i.toInt = k ∧ k < n) ∧ kn loc rest (wt_u s a k v)
  | _ => False
def wt_aald : Prop := match st with
  | .inl i :: .inr (some a) :: rest => ∃ n f, wt_at H a (.inr (.inl (n, f))) ∧ ∃ k : Nat, (i.toInt = k ∧ k < n) ∧ ∃ b, f k = some b ∧ kn loc (.inr (some b) :: rest) s
  | _ => False
def wt_alen : Prop := match st with
  | .inr (some a) :: rest => (∃ t n, mj_nth H a = some (.inl (t, n)) ∧ kn loc (.inl (Int32.ofInt (Int.ofNat n)) :: rest) s) ∨ (∃ n f, wt_at H a (.inr (.inl (n, f))) ∧ kn loc (.inl (Int32.ofInt (Int.ofNat n)) :: rest) s)
  | _ => False
noncomputable def wt_getf : Prop := match st, xs with
  | .inr (some a) :: rest, ci :: _ => ∃ fs, wt_at H a (.inr (.inr (ci, fs))) ∧ match mj_nth fs x with
    | some none => kn loc (.inl (s a x) :: rest) s
    | some (some r) => kn loc (.inr r :: rest) s
    | none => False
  | _, _ => False
noncomputable def wt_putf : Prop := match st, xs with
  | .inl v :: .inr (some a) :: rest, ci :: _ :: kind :: _ => ∃ fs, wt_at H a (.inr (.inr (ci, fs))) ∧ match mj_nth fs x, kind with
    | some none, 0 => kn loc rest (wt_u s a x v)
    | some none, 1 => (v = 0 ∨ v = 1) ∧ kn loc rest (wt_u s a x v)
    | _, _ => False
  | _, _ => False
noncomputable def wt_acopy : Prop := match st with
  | .inl n :: .inl dp :: .inr (some b) :: .inl sp0 :: .inr (some a) :: rest => ∃ n0 n1, mj_nth H a = some (.inl (0, n0)) ∧ wt_at H b (.inl (0, n1)) ∧ Nat.ble (mj_len rest) 8 = true ∧ (0 ≤ n.toInt ∧ 0 ≤ dp.toInt ∧ 0 ≤ sp0.toInt ∧ sp0.toInt + n.toInt ≤ n0 ∧ dp.toInt + n.toInt ≤ n1) ∧ kn loc rest (wt_uf s b (mj_cpy (s a) (s b) sp0.toInt.toNat dp.toInt.toNat n.toInt.toNat))
  | _ => False
noncomputable def wt_call : Prop := match xs with
  | n :: ml :: recv :: _ => match mj_args n st [] with
    | some (as, rest) => match Nat.ble (mj_len rest) 8, recv, as with
      | true, 0, as => kc x ml as rest
      | true, ci + 1, .inr (some a) :: as => ∃ fs, wt_at H a (.inr (.inr (ci, fs))) ∧ kc x ml (.inr (some a) :: as) rest
      | _, _, _ => False
    | none => False
  | _ => False
noncomputable def wt_spec : Prop := match Nat.beq x 100000 with
  | true => False
  | false => wt_call H x xs st kc
noncomputable def wt_stat : Prop := match Nat.beq x 100001 with
  | true => wt_acopy H loc st s kn
  | false => wt_call H x xs st kc
/-- one instruction -/
noncomputable def wt_step (ins : Instr) : Prop := match ins with
  | .iload i => mj_iload loc st [] (fun l t _ => kn l t s) False i
  | .iload_n i => mj_iload loc st [] (fun l t _ => kn l t s) False i.val
  | .aload i => mj_aload loc st [] (fun l t _ => kn l t s) False i
  | .aload_n i => mj_aload loc st [] (fun l t _ => kn l t s) False i.val
  | .istore i => mj_istore loc st [] (fun l t _ => kn l t s) False i
  | .istore_n i => mj_istore loc st [] (fun l t _ => kn l t s) False i.val
  | .astore i => mj_astore loc st [] (fun l t _ => kn l t s) False i
  | .astore_n i => mj_astore loc st [] (fun l t _ => kn l t s) False i.val
  | .iconst n => kn loc (.inl (Int32.ofInt n) :: st) s
  | .bipush n => kn loc (.inl (Int32.ofInt n) :: st) s
  | .sipush n => kn loc (.inl (Int32.ofInt n) :: st) s
  | .ldc _ => kn loc (.inl (Int32.ofInt (Int.ofNat x - 2147483648)) :: st) s
  | .ldc_w _ => kn loc (.inl (Int32.ofInt (Int.ofNat x - 2147483648)) :: st) s
  | .iadd => mj_bin mj_I loc st [] (fun l t _ => kn l t s) False 0
  | .isub => mj_bin mj_I loc st [] (fun l t _ => kn l t s) False 1
  | .imul => mj_bin mj_I loc st [] (fun l t _ => kn l t s) False 2
  | .idiv => wt_dv loc st s kn 3
  | .irem => wt_dv loc st s kn 4
  | .ishl => mj_bin mj_I loc st [] (fun l t _ => kn l t s) False 5
  | .ishr => mj_bin mj_I loc st [] (fun l t _ => kn l t s) False 6
  | .iand => mj_bin mj_I loc st [] (fun l t _ => kn l t s) False 7
  | .ior => mj_bin mj_I loc st [] (fun l t _ => kn l t s) False 8
  | .ineg => mj_neg mj_I loc st [] (fun l t _ => kn l t s) False
  | .iinc i n => mj_iinc mj_I loc st [] (fun l t _ => kn l t s) False i n
  | .if_icmp c _ => wt_icmp x loc st s kn kj c
  | .ifCond c _ => wt_ifc x loc st s kn kj c
  | .goto _ => kj x st
  | .tableswitch _ lo hi _ => wq_tab x xs st kj lo hi
  | .dup => mj_dup loc st [] (fun l t _ => kn l t s) False
  | .dup2 => mj_dup2 loc st [] (fun l t _ => kn l t s) False
  | .pop => mj_pop loc st [] (fun l t _ => kn l t s) False
  | .iaload => wt_ald H loc st s kn 0
  | .baload => wt_ald H loc st s kn 1
  | .iastore => wt_ast H loc st s kn
  | .bastore => wt_bst H loc st s kn
  | .aaload => wt_aald H loc st s kn
  | .arraylength => wt_alen H loc st s kn
  | .getfield _ => wt_getf H x xs loc st s kn
  | .putfield _ => wt_putf H x xs loc st s kn
  | .getstatic _ => kn loc (.inr (some x) :: st) s
  | .invokevirtual _ => wt_call H x xs st kc
  | .invokespecial _ => wt_spec H x xs st kc
  | .invokestatic _ => wt_stat H x xs loc st s kn kc
  | .ireturn => wq_iret x st kr
  | .areturn => mj_aret st kr False
  | .return_ => mj_vret st kr False
  | _ => False
end
section
variable {H : List wt_p} {x : Nat} {xs : List Nat} {loc : mj_l Int32} {st : mj_s Int32} {s : wt_S} {kn : mj_l Int32 → mj_s Int32 → wt_S → Prop} {kn' : mj_l Int32 → mj_s Int32 → mj_h Int32 → Prop} {kj : Nat → mj_s Int32 → Prop} {kc : Nat → Nat → List (mj_v Int32) → mj_s Int32 → Prop} {kr : Option (mj_v Int32) → Prop}
theorem wt_ald_ok (hk : ∀ l t s, kn l t s → kn' l t (wt_e H s)) (tag : Nat) (h : wt_ald H loc st s kn tag) : mj_ald mj_I loc st (wt_e H s) kn' False tag := by
  unfold wt_ald at h
  unfold mj_ald
  split at h
  · rename_i i a rest
    obtain ⟨n, e, k, h1, h2⟩ := h
    have e := wt_nth (s := s) e
    simp only [e, wt_c]
    rw [show Nat.beq tag tag = true by rw [Nat.beq_eq]]
    show (match mj_ix i.toInt n with
      | some k => kn' loc (.inl (s a k) :: rest) (wt_e H s)
      | none => False)
    rw [wq_ix h1]
    exact hk _ _ _ h2
  · exact h.elim
theorem wt_ast_ok (hk : ∀ l t s, kn l t s → kn' l t (wt_e H s)) (h : wt_ast H loc st s kn) : mj_ast mj_I loc st (wt_e H s) kn' False := by
  unfold wt_ast at h
  unfold mj_ast
  split at h
  · rename_i v i a rest
    obtain ⟨n, ⟨e, e4⟩, k, h1, h2⟩ := h
    have e' := wt_nth (s := s) e
    simp only [e', wt_c, e4]
    show (match mj_ix i.toInt n with
      | some k => kn' loc rest (mj_put (wt_e H s) a (.inl (0, n, mj_upd (s a) k v)))
      | none => False)
    rw [wq_ix h1]
    show kn' loc rest (mj_put (wt_e H s) a (.inl (0, n, mj_upd (s a) k v)))
    rw [← (show wt_e H (wt_u s a k v) = mj_put (wt_e H s) a (.inl (0, n, mj_upd (s a) k v)) from wt_put e rfl)]
    exact hk _ _ _ h2
  · exact h.elim
theorem wt_bst_ok (hk : ∀ l t s, kn l t s → kn' l t (wt_e H s)) (h : wt_bst H loc st s kn) : mj_bst mj_I loc st (wt_e H s) kn' False := by
  unfold wt_bst at h
  unfold mj_bst
  split at h
  · rename_i v i a rest
    obtain ⟨n, ⟨e, e4⟩, h0, k, h1, h2⟩ := h
    have e' := wt_nth (s := s) e
    have hb : mj_bit (mj_I.2.2.2 v) = true := wq_bit h0
    simp only [e', wt_c, e4, hb]
    show (match mj_ix i.toInt n with
      | some k => kn' loc rest (mj_put (wt_e H s) a (.inl (1, n, mj_upd (s a) k v)))
      | none => False)
    rw [wq_ix h1]
    show kn' loc rest (mj_put (wt_e H s) a (.inl (1, n, mj_upd (s a) k v)))
    rw [← (show wt_e H (wt_u s a k v) = mj_put (wt_e H s) a (.inl (1, n, mj_upd (s a) k v)) from wt_put e rfl)]
    exact hk _ _ _ h2
  · exact h.elim
theorem wt_aald_ok (hk : ∀ l t s, kn l t s → kn' l t (wt_e H s)) (h : wt_aald H loc st s kn) : mj_aald mj_I loc st (wt_e H s) kn' False := by
  unfold wt_aald at h
  unfold mj_aald
  split at h
  · rename_i i a rest
    obtain ⟨n, f, ⟨e, e4⟩, k, h1, b, h2, h3⟩ := h
    have e' := wt_nth (s := s) e
    simp only [e', wt_c, e4]
    show (match mj_ix i.toInt n with
      | some k => match f k with
        | some b => kn' loc (.inr (some b) :: rest) (wt_e H s)
        | none => False
      | none => False)
    rw [wq_ix h1]
    show (match f k with
        | some b => kn' loc (.inr (some b) :: rest) (wt_e H s)
        | none => False)
    rw [h2]
    exact hk _ _ _ h3
  · exact h.elim
theorem wt_alen_ok (hk : ∀ l t s, kn l t s → kn' l t (wt_e H s)) (h : wt_alen H loc st s kn) : mj_alen mj_I loc st (wt_e H s) kn' False := by
  unfold wt_alen at h
  unfold mj_alen
  split at h
  · rename_i a rest
    rcases h with ⟨t, n, e, h⟩ | ⟨n, f, ⟨e, e4⟩, h⟩
    · have e' := wt_nth (s := s) e
      simp only [e', wt_c]
      exact hk _ _ _ h
    · have e' := wt_nth (s := s) e
      simp only [e', wt_c, e4]
      exact hk _ _ _ h
  · exact h.elim
theorem wt_getf_ok (hk : ∀ l t s, kn l t s → kn' l t (wt_e H s)) (h : wt_getf H x xs loc st s kn) : mj_getf x xs loc st (wt_e H s) kn' False := by
  unfold wt_getf at h
  unfold mj_getf
  split at h
  · rename_i a rest ci ys
    obtain ⟨fs, ⟨e, e4⟩, h⟩ := h
    have e' := wt_nth (s := s) e
    have eb : Nat.beq ci ci = true := by rw [Nat.beq_eq]
    split at h
    · rename_i e5
      have e6 := wt_fs_nth (f := s a) (i := 0) e5
      rw [Nat.zero_add] at e6
      simp only [e', wt_c, e4, eb, e6]
      exact hk _ _ _ h
    · rename_i r e5
      have e6 := wt_fs_nth (f := s a) (i := 0) e5
      simp only [e', wt_c, e4, eb, e6]
      exact hk _ _ _ h
    · exact h.elim
  · exact h.elim
theorem wt_putf_ok (hk : ∀ l t s, kn l t s → kn' l t (wt_e H s)) (h : wt_putf H x xs loc st s kn) : mj_putf mj_I x xs loc st (wt_e H s) kn' False := by
  unfold wt_putf at h
  unfold mj_putf
  split at h
  · rename_i v a rest ci pw kind ys
    obtain ⟨fs, ⟨e, e4⟩, h⟩ := h
    have e' := wt_nth (s := s) e
    have eb : Nat.beq ci ci = true := by rw [Nat.beq_eq]
    have key : mj_nth fs x = some none → mj_put (wt_e H s) a (.inr (.inr (ci, mj_put (wt_fs (s a) fs 0) x (.inl v)))) = wt_e H (wt_u s a x v) := fun e5 => by
      have := wt_fs_put (f := s a) (v := v) (i := 0) e5
      rw [Nat.zero_add] at this
      exact (wt_put (s := s) (f := mj_upd (s a) x v) e (by show Sum.inr (Sum.inr (ci, wt_fs (mj_upd (s a) x v) fs 0)) = _; rw [this])).symm
    split at h
    · rename_i e5
      have e6 := wt_fs_nth (f := s a) (i := 0) e5
      simp only [e', wt_c, e4, eb, e6]
      show kn' loc rest _
      rw [key e5]
      exact hk _ _ _ h
    · rename_i e5
      have e6 := wt_fs_nth (f := s a) (i := 0) e5
      have hb : mj_fit mj_I 1 (.inl v) = true := wq_bit h.1
      simp only [e', wt_c, e4, eb, e6, hb]
      rw [key e5]
      exact hk _ _ _ h.2
    · exact h.elim
  · exact h.elim
theorem wt_acopy_ok (hk : ∀ l t s, kn l t s → kn' l t (wt_e H s)) (h : wt_acopy H loc st s kn) : mj_acopy mj_I loc st (wt_e H s) kn' False := by
  unfold wt_acopy at h
  unfold mj_acopy
  split at h
  · rename_i n dp b sp0 a rest
    obtain ⟨n0, n1, ea, ⟨eb, e4⟩, e5, ⟨p1, p2, p3, p4, p5⟩, h⟩ := h
    have ea' := wt_nth (s := s) ea
    have eb' := wt_nth (s := s) eb
    simp only [ea', eb', wt_c, e4]
    obtain ⟨N, hN⟩ := Int.eq_ofNat_of_zero_le p1
    obtain ⟨D, hD⟩ := Int.eq_ofNat_of_zero_le p2
    obtain ⟨S, hS⟩ := Int.eq_ofNat_of_zero_le p3
    have q1 : mj_I.2.2.2 n = some (.ofNat N) := congrArg some hN
    have q2 : mj_I.2.2.2 dp = some (.ofNat D) := congrArg some hD
    have q3 : mj_I.2.2.2 sp0 = some (.ofNat S) := congrArg some hS
    simp only [q1, q2, q3]
    rw [hN, hD, hS] at h
    rw [Nat.ble_eq_true_of_le (show S + N ≤ n0 by omega), Nat.ble_eq_true_of_le (show D + N ≤ n1 by omega), e5]
    show kn' loc rest (mj_put (wt_e H s) b (.inl (0, n1, mj_cpy (s a) (s b) S D N)))
    rw [← (show wt_e H (wt_uf s b (mj_cpy (s a) (s b) S D N)) = mj_put (wt_e H s) b (.inl (0, n1, mj_cpy (s a) (s b) S D N)) from wt_put eb rfl)]
    exact hk _ _ _ h
  · exact h.elim
theorem wt_call_ok {kc' : Nat → Nat → List (mj_v Int32) → mj_s Int32 → Prop} (hc : ∀ k ml as rest, kc k ml as rest → kc' k ml as rest) (h : wt_call H x xs st kc) : mj_call x xs st (wt_e H s) kc' False := by
  unfold wt_call at h
  unfold mj_call
  split at h
  · rename_i n ml recv ys
    split at h
    · rename_i as rest e1
      simp only [e1]
      split at h
      · rename_i e2
        simp only [e2]
        exact hc _ _ _ _ h
      · rename_i ci a as e2
        obtain ⟨fs, ⟨e, e4⟩, h⟩ := h
        have e' := wt_nth (s := s) e
        have : mj_isof (wt_e H s) ci (.inr (some a)) = true := by
          have eb : Nat.beq ci ci = true := by rw [Nat.beq_eq]
          unfold mj_isof
          simp only [e', wt_c, eb, e4, Bool.and_self]
        simp only [e2, this]
        exact hc _ _ _ _ h
      · exact h.elim
    · exact h.elim
  · exact h.elim
theorem wt_dv_ok (hk : ∀ l t s, kn l t s → kn' l t (wt_e H s)) (h : wt_dv loc st s kn 3) : mj_bin mj_I loc st (wt_e H s) kn' False 3 := by
  unfold wt_dv at h
  unfold mj_bin
  split at h
  · rename_i b a rest
    have : mj_I.2.1 3 a b = some (a / b) := by
      show (if b = 0 then none else some (a / b)) = some (a / b)
      rw [if_neg h.1]
    simp only [this]
    exact hk _ _ _ h.2
  · exact h.elim
theorem wt_rm_ok (hk : ∀ l t s, kn l t s → kn' l t (wt_e H s)) (h : wt_dv loc st s kn 4) : mj_bin mj_I loc st (wt_e H s) kn' False 4 := by
  unfold wt_dv at h
  unfold mj_bin
  split at h
  · rename_i b a rest
    have : mj_I.2.1 4 a b = some (a - a / b * b) := by
      show (if b = 0 then none else some (a - a / b * b)) = some (a - a / b * b)
      rw [if_neg h.1]
    simp only [this]
    exact hk _ _ _ h.2
  · exact h.elim
theorem wt_step_ok {kj' : Nat → mj_s Int32 → Prop} {kc' : Nat → Nat → List (mj_v Int32) → mj_s Int32 → Prop} {kr' : Option (mj_v Int32) → Prop} (hk : ∀ l t s, kn l t s → kn' l t (wt_e H s)) (hj : ∀ j t, kj j t → kj' j t) (hc : ∀ k ml as rest, kc k ml as rest → kc' k ml as rest) (hr : ∀ v, kr v → kr' v) (ins : Instr) (h : wt_step H x xs loc st s kn kj kc kr ins) : mj_step (α := Prop) mj_I x xs loc st (wt_e H s) kn' kj' kc' kr' False ins := by
  have tab : ∀ lo hi, wq_tab x xs st kj lo hi → mj_tab mj_I x xs st kj' False lo hi := fun lo hi q => by
    refine wq_tab_ok lo hi ?_
    unfold wq_tab at q ⊢
    split at q
    · refine ⟨fun e => hj _ _ (q.1 e), ?_⟩
      have : ∀ (xs : List Nat) (rest : mj_s Int32) (z lo : Int), wq_tabs kj rest z hi xs lo → wq_tabs kj' rest z hi xs lo := by
        intro xs rest z
        induction xs with
        | nil => intro lo q; exact q
        | cons t ts ih => intro lo q; exact ⟨fun e => hj _ _ (q.1 e), ih _ q.2⟩
      exact this _ _ _ _ q.2
    · exact q.elim
  have icmp : ∀ c, wt_icmp x loc st s kn kj c → mj_icmp mj_I x loc st (wt_e H s) kn' kj' False c := fun c q => by
    refine wq_icmp_ok (enc := wt_e H) (kn := kn) hk c ?_
    unfold wt_icmp at q
    unfold wq_icmp
    split at q
    · exact ⟨fun e => hj _ _ (q.1 e), q.2⟩
    · exact q.elim
  have ifc : ∀ c, wt_ifc x loc st s kn kj c → mj_ifc mj_I x loc st (wt_e H s) kn' kj' False c := fun c q => by
    refine wq_ifc_ok (enc := wt_e H) (kn := kn) hk c ?_
    unfold wt_ifc at q
    unfold wq_ifc
    split at q
    · exact ⟨fun e => hj _ _ (q.1 e), q.2⟩
    · exact q.elim
  cases ins with
  | iload i => exact wq_iload_ok (enc := wt_e H) hk _ h
  | iload_n i => exact wq_iload_ok (enc := wt_e H) hk _ h
  | aload i => exact wq_aload_ok (enc := wt_e H) hk _ h
  | aload_n i => exact wq_aload_ok (enc := wt_e H) hk _ h
  | istore i => exact wq_istore_ok (enc := wt_e H) hk _ h
  | istore_n i => exact wq_istore_ok (enc := wt_e H) hk _ h
  | astore i => exact wq_astore_ok (enc := wt_e H) hk _ h
  | astore_n i => exact wq_astore_ok (enc := wt_e H) hk _ h
  | iconst n => exact hk _ _ _ h
  | bipush n => exact hk _ _ _ h
  | sipush n => exact hk _ _ _ h
  | ldc i => exact hk _ _ _ h
  | ldc_w i => exact hk _ _ _ h
  | iadd => exact wq_bin_ok (enc := wt_e H) hk 0 h
  | isub => exact wq_bin_ok (enc := wt_e H) hk 1 h
  | imul => exact wq_bin_ok (enc := wt_e H) hk 2 h
  | idiv => exact wt_dv_ok hk h
  | irem => exact wt_rm_ok hk h
  | ishl => exact wq_bin_ok (enc := wt_e H) hk 5 h
  | ishr => exact wq_bin_ok (enc := wt_e H) hk 6 h
  | iand => exact wq_bin_ok (enc := wt_e H) hk 7 h
  | ior => exact wq_bin_ok (enc := wt_e H) hk 8 h
  | ineg => exact wq_neg_ok (enc := wt_e H) hk h
  | iinc i n => exact wq_iinc_ok (enc := wt_e H) hk _ _ h
  | if_icmp c o => exact icmp c h
  | ifCond c o => exact ifc c h
  | goto o => exact hj _ _ h
  | tableswitch _ lo hi _ => exact tab lo hi h
  | dup => exact wq_dup_ok (enc := wt_e H) hk h
  | dup2 => exact wq_dup2_ok (enc := wt_e H) hk h
  | pop => exact wq_pop_ok (enc := wt_e H) hk h
  | iaload => exact wt_ald_ok hk _ h
  | baload => exact wt_ald_ok hk _ h
  | iastore => exact wt_ast_ok hk h
  | bastore => exact wt_bst_ok hk h
  | aaload => exact wt_aald_ok hk h
  | arraylength => exact wt_alen_ok hk h
  | getfield i => exact wt_getf_ok hk h
  | putfield i => exact wt_putf_ok hk h
  | getstatic i => exact hk _ _ _ h
  | invokevirtual i => exact wt_call_ok hc h
  | invokespecial i =>
    change wt_spec H x xs st kc at h
    show mj_spec x xs loc st (wt_e H s) kn' kc' False
    unfold wt_spec at h
    unfold mj_spec
    split at h
    · exact h.elim
    · rename_i e
      simp only [e]
      exact wt_call_ok hc h
  | invokestatic i =>
    change wt_stat H x xs loc st s kn kc at h
    show mj_stat mj_I x xs loc st (wt_e H s) kn' kc' False
    unfold wt_stat at h
    unfold mj_stat
    split at h
    · rename_i e
      simp only [e]
      exact wt_acopy_ok hk h
    · rename_i e
      simp only [e]
      exact wt_call_ok hc h
  | ireturn =>
    change wq_iret x st kr at h
    show mj_iret mj_I x st kr' False
    unfold wq_iret at h
    unfold mj_iret
    split at h
    · rename_i v
      cases x with
      | zero => exact hr _ h
      | succ n =>
        have hb : mj_bit (mj_I.2.2.2 v) = true := wq_bit h.1
        show (match mj_bit (mj_I.2.2.2 v) with
          | true => kr' (some (.inl v))
          | false => False)
        rw [hb]
        exact hr _ h.2
    · exact h.elim
  | areturn =>
    change mj_aret st kr False at h
    show mj_aret st kr' False
    unfold mj_aret at h ⊢
    split at h
    · exact hr _ h
    · exact h.elim
  | return_ =>
    change mj_vret st kr False at h
    show mj_vret st kr' False
    unfold mj_vret at h ⊢
    split at h
    · exact hr _ h
    · exact h.elim
  | _ => exact h.elim
end
/-! ### a method's run over the store, and what a function of the store says of it -/
def wt_W (H : List wt_p) (d : Nat) (cd suf : List mj_r) (loc : mj_l Int32) (st : mj_s Int32) (s : wt_S) (Q : Option (mj_v Int32) → wt_S → Prop) : Prop := mj_W d cd suf loc st (wt_e H s) (fun v h => ∃ s', h = wt_e H s' ∧ Q v s')
theorem wt_W.mono {H : List wt_p} {d : Nat} {cd suf : List mj_r} {loc : mj_l Int32} {st : mj_s Int32} {s : wt_S} {Q Q' : Option (mj_v Int32) → wt_S → Prop} (h : wt_W H d cd suf loc st s Q) (hq : ∀ v s', Q v s' → Q' v s') : wt_W H d cd suf loc st s Q' :=
  mj_W.mono h fun v h ⟨s', e, q⟩ => ⟨s', e, hq _ _ q⟩
theorem wt_W.step {H : List wt_p} {d : Nat} {cd tl : List mj_r} {r : mj_r} {loc : mj_l Int32} {st : mj_s Int32} {s : wt_S} {Q : Option (mj_v Int32) → wt_S → Prop} {kn : mj_l Int32 → mj_s Int32 → wt_S → Prop} {kj : Nat → mj_s Int32 → Prop} {kf : mj_s Int32 → wt_S → Prop}
    (hk : ∀ l t s, kn l t s → wt_W H d cd tl l t s Q) (hj : ∀ j t, kj j t → wt_W H d cd (mj_drop j cd) loc t s Q) (hf : ∀ t s, kf t s → wt_W H d cd tl loc t s Q)
    (h : wt_step H r.2.2.1 r.2.2.2 loc st s kn kj
      (fun k ml as rest => ∃ d' cd', d = d' + 1 ∧ mj_cds[k]? = some cd' ∧ wt_W H d' cd' cd' (mj_ent ml as) [] s (fun v s' => kf (v.toList ++ rest) s')) (fun v => Q v s) r.2.1) : wt_W H d cd (r :: tl) loc st s Q := by
  refine mj_W.step (wt_step_ok hk hj ?_ ?_ _ h)
  · rintro k ml as rest ⟨d', cd', e1, e2, e3⟩
    refine ⟨d', cd', e1, e2, mj_W.mono e3 ?_⟩
    rintro v h1 ⟨s', rfl, q⟩
    exact hf _ _ q
  · exact fun v q => ⟨s, rfl, q⟩
section
variable (H : List wt_p) (stops : List Nat) (d : Nat) (cd : List mj_r) (Q : Option (mj_v Int32) → wt_S → Prop)
/-- many instructions: up to the places that are named, or to the end -/
noncomputable def wt (n : Nat) : List mj_r → mj_l Int32 → mj_s Int32 → wt_S → Prop :=
  Nat.rec (motive := fun _ => List mj_r → mj_l Int32 → mj_s Int32 → wt_S → Prop) (fun suf loc st s => wt_W H d cd suf loc st s Q)
    (fun _ ih suf loc st s => match suf with
      | [] => False
      | r :: tl => match wq_mem r.1 stops with
        | true => True ∧ wt_W H d cd (r :: tl) loc st s Q
        | false => wt_step H r.2.2.1 r.2.2.2 loc st s (fun l t s => ih tl l t s) (fun j t => ih (mj_drop j cd) loc t s)
          (fun k ml as rest => ∃ d' cd', d = d' + 1 ∧ mj_cds[k]? = some cd' ∧ wt_W H d' cd' cd' (mj_ent ml as) [] s (fun v s' => ih tl loc (v.toList ++ rest) s')) (fun v => Q v s) r.2.1) n
/-- the same, the first one even at a place that is named -/
noncomputable def wt1 (n : Nat) (suf : List mj_r) (loc : mj_l Int32) (st : mj_s Int32) (s : wt_S) : Prop := match suf with
  | [] => False
  | r :: tl => wt_step H r.2.2.1 r.2.2.2 loc st s (fun l t s => wt H stops d cd Q n tl l t s) (fun j t => wt H stops d cd Q n (mj_drop j cd) loc t s)
          (fun k ml as rest => ∃ d' cd', d = d' + 1 ∧ mj_cds[k]? = some cd' ∧ wt_W H d' cd' cd' (mj_ent ml as) [] s (fun v s' => wt H stops d cd Q n tl loc (v.toList ++ rest) s')) (fun v => Q v s) r.2.1
end
section
variable {H : List wt_p} {d : Nat} {cd : List mj_r} {Q : Option (mj_v Int32) → wt_S → Prop}
theorem wt_sound {stops : List Nat} : ∀ (n : Nat) {suf : List mj_r} {loc : mj_l Int32} {st : mj_s Int32} {s : wt_S}, wt H stops d cd Q n suf loc st s → wt_W H d cd suf loc st s Q := by
  intro n
  induction n with
  | zero => intro suf loc st s h; exact h
  | succ n ih =>
    intro suf loc st s h
    cases suf with
    | nil => exact h.elim
    | cons r tl =>
      change (match wq_mem r.1 stops with
        | true => True ∧ wt_W H d cd (r :: tl) loc st s Q
        | false => wt_step H r.2.2.1 r.2.2.2 loc st s (fun l t s => wt H stops d cd Q n tl l t s) (fun j t => wt H stops d cd Q n (mj_drop j cd) loc t s)
          (fun k ml as rest => ∃ d' cd', d = d' + 1 ∧ mj_cds[k]? = some cd' ∧ wt_W H d' cd' cd' (mj_ent ml as) [] s (fun v s' => wt H stops d cd Q n tl loc (v.toList ++ rest) s')) (fun v => Q v s) r.2.1) at h
      split at h
      · exact h.2
      · exact wt_W.step (kf := fun t s => wt H stops d cd Q n tl loc t s) (fun l t s q => ih q) (fun j t q => ih q) (fun t s q => ih q) h
theorem wt1_sound {stops : List Nat} (n : Nat) {suf : List mj_r} {loc : mj_l Int32} {st : mj_s Int32} {s : wt_S} (h : wt1 H stops d cd Q n suf loc st s) : wt_W H d cd suf loc st s Q := by
  cases suf with
  | nil => exact h.elim
  | cons r tl => exact wt_W.step (kf := fun t s => wt H stops d cd Q n tl loc t s) (fun l t s q => wt_sound n q) (fun j t q => wt_sound n q) (fun t s q => wt_sound n q) h
end
/-! ### functions of the store: what they are made of -/
def wt_ix {α : Type} (i : Int32) (n : Nat) (F : Nat → Option α) : Option α := if 0 ≤ i.toInt ∧ i.toInt < n then F i.toInt.toNat else none
def wt_wr {α : Type} (s : wt_S) (a k : Nat) (v : Int32) (F : wt_S → Option α) : Option α := F (wt_u s a k v)
def wt_cl {α β : Type} (r : Option (β × wt_S)) (F : β → wt_S → Option α) : Option α := match r with
  | some (v, s) => F v s
  | none => none
def wt_ac {α : Type} (s : wt_S) (a : Nat) (p : Int32) (b : Nat) (q n : Int32) (n0 n1 : Nat) (F : wt_S → Option α) : Option α := if 0 ≤ n.toInt ∧ 0 ≤ q.toInt ∧ 0 ≤ p.toInt ∧ p.toInt + n.toInt ≤ n0 ∧ q.toInt + n.toInt ≤ n1 then F (wt_uf s b (mj_cpy (s a) (s b) p.toInt.toNat q.toInt.toNat n.toInt.toNat)) else none
/-- a boolean -/
def wt_rz {α : Type} (v : Int32) (F : Option α) : Option α := if v = 0 ∨ v = 1 then F else none
def wt_iv (v : Int32) : Option (mj_v Int32) := some (.inl v)
def wt_uv (_ : Unit) : Option (mj_v Int32) := none
def wt_av (a : Nat) : Option (mj_v Int32) := some (.inr (some a))
/-- where the function has an answer, the method runs, and answers so -/
def wt_sd {β : Type} (H : List wt_p) (m : β → Option (mj_v Int32)) (d : Nat) (cd suf : List mj_r) (loc : mj_l Int32) (st : mj_s Int32) (s : wt_S) (F : Option (β × wt_S)) : Prop := ∀ R, F = some R → wt_W H d cd suf loc st s (fun r t => r = m R.1 ∧ t = R.2)
section
variable {α β : Type} {H : List wt_p} {m : β → Option (mj_v Int32)} {d : Nat} {cd suf : List mj_r} {loc : mj_l Int32} {st : mj_s Int32} {s : wt_S} {F : Option (β × wt_S)}
theorem wt_go (stops : List Nat) (n : Nat) (h : ∀ R, F = some R → wt H stops d cd (fun r t => r = m R.1 ∧ t = R.2) n suf loc st s) : wt_sd H m d cd suf loc st s F := fun R e => wt_sound n (h R e)
theorem wt_go1 (stops : List Nat) (n : Nat) (h : ∀ R, F = some R → wt1 H stops d cd (fun r t => r = m R.1 ∧ t = R.2) n suf loc st s) : wt_sd H m d cd suf loc st s F := fun R e => wt1_sound n (h R e)
theorem wt_tn {R : α} {P : Prop} (h : none = some R) : P := by cases h
theorem wt_tb {c G1 G2 : Prop} {_i : Decidable c} {F1 F2 : Option α} {R : α} (h : (if c then F1 else F2) = some R) (h1 : F1 = some R → G1) (h2 : F2 = some R → G2) : (c → G1) ∧ (¬ c → G2) := by
  constructor
  · intro hc
    rw [if_pos hc] at h
    exact h1 h
  · intro hc
    rw [if_neg hc] at h
    exact h2 h
theorem wt_tx {i : Int32} {n : Nat} {F : Nat → Option α} {R : α} {G : Nat → Prop} (h : wt_ix i n F = some R) (h1 : ∀ k, F k = some R → G k) : ∃ k : Nat, (i.toInt = k ∧ k < n) ∧ G k := by
  unfold wt_ix at h
  split at h
  · rename_i hc
    exact ⟨i.toInt.toNat, by omega, h1 _ h⟩
  · cases h
theorem wt_tc {γ : Type} {e : γ → Option (mj_v Int32)} {r : Option (γ × wt_S)} {F : γ → wt_S → Option α} {R : α} {G : Option (mj_v Int32) → wt_S → Prop} (h : wt_cl r F = some R) (h0 : wt_sd H e d cd suf loc st s r) (h1 : ∀ v t, F v t = some R → G (e v) t) : wt_W H d cd suf loc st s (fun v t => G v t) := by
  cases r with
  | none => cases h
  | some p =>
    refine (h0 p rfl).mono ?_
    rintro v t ⟨rfl, rfl⟩
    exact h1 _ _ h
theorem wt_ta {a b : Nat} {p q n : Int32} {n0 n1 : Nat} {F : wt_S → Option α} {R : α} {G : wt_S → Prop} (h : wt_ac s a p b q n n0 n1 F = some R) (h1 : ∀ t, F t = some R → G t) : (0 ≤ n.toInt ∧ 0 ≤ q.toInt ∧ 0 ≤ p.toInt ∧ p.toInt + n.toInt ≤ n0 ∧ q.toInt + n.toInt ≤ n1) ∧ G (wt_uf s b (mj_cpy (s a) (s b) p.toInt.toNat q.toInt.toNat n.toInt.toNat)) := by
  unfold wt_ac at h
  split at h
  · rename_i hc
    exact ⟨hc, h1 _ h⟩
  · cases h
theorem wt_tz {v : Int32} {F : Option α} {R : α} {G : Prop} (h : wt_rz v F = some R) (h1 : F = some R → G) : (v = 0 ∨ v = 1) ∧ G := by
  unfold wt_rz at h
  split at h
  · rename_i hc
    exact ⟨hc, h1 h⟩
  · cases h
theorem wt_tr {γ : Type} {e : γ → Option (mj_v Int32)} {v : γ} {t : wt_S} {R : γ × wt_S} (h : some (v, t) = some R) : e v = e R.1 ∧ t = R.2 := by
  cases h
  exact ⟨rfl, rfl⟩
theorem wt_tw {a k : Nat} {v : Int32} {F : wt_S → Option α} {R : α} (h : wt_wr s a k v F = some R) : F (wt_u s a k v) = some R := h
theorem wt_ty {i : Int32} {n : Nat} {F : Nat → Option α} {R : α} {G : Nat → Prop} (h : wt_ix i n F = some R) (h1 : ∀ k, k < n → F k = some R → G k) : ∃ k : Nat, (i.toInt = k ∧ k < n) ∧ G k := by
  unfold wt_ix at h
  split at h
  · rename_i hc
    exact ⟨i.toInt.toNat, by omega, h1 _ (by omega) h⟩
  · cases h
theorem wt_s0 {c G1 G2 : Prop} {_i : Decidable c} {F1 F2 : Option α} {R : α} (h : (if c then F1 else F2) = some R) (h1 : F1 = some R → G1) (h2 : (¬ c → F2 = some R) → G2) : (c → G1) ∧ G2 :=
  ⟨fun hc => h1 (by rw [if_pos hc] at h; exact h), h2 (fun hc => by rw [if_neg hc] at h; exact h)⟩
theorem wt_s1 {P c G1 G2 : Prop} {_i : Decidable c} {F1 F2 : Option α} {R : α} (h : P → (if c then F1 else F2) = some R) (hP : c → P) (h1 : F1 = some R → G1) (h2 : (P ∧ ¬ c → F2 = some R) → G2) : (c → G1) ∧ G2 :=
  ⟨fun hc => h1 (by have h := h (hP hc); rw [if_pos hc] at h; exact h), h2 (fun q => by have h := h q.1; rw [if_neg q.2] at h; exact h)⟩
end
end
section
/-! ===== the cells behind the two constructors ===== -/
def wt_H (L : Nat) : List wt_p := [.inl (0, L),
  .inl (0, 6),
  .inl (0, 6),
  .inl (0, 6),
  .inr (.inr (10, [some (some 11), some (some 69), some (some 71), some (some 40), some (some 73), some (some 75), none])),
  .inr (.inr (6, [some (some 6), some (some 7), some (some 8), some (some 9), some (some 10)])),
  .inl (0, 10),
  .inl (0, 10),
  .inl (0, 10),
  .inl (0, 640),
  .inl (0, 10),
  .inr (.inr (9, [some (some 5), some (some 12), some (some 25), some (some 13), some (some 21), some (some 22), some (some 24), some (some 27), none])),
  .inl (0, 6),
  .inr (.inr (5, [some (some 14), some (some 15), some (some 16), some (some 17), some (some 18), some (some 19), some (some 20), none, none, none])),
  .inl (0, 256),
  .inl (0, 256),
  .inl (0, 256),
  .inl (0, 256),
  .inl (0, 256),
  .inl (0, 256),
  .inl (0, 256),
  .inr (.inl (6, fun k => if k < 6 then some (11 + 17 + 2 * k) else none)),
  .inr (.inr (1, [some (some 23), none])),
  .inl (0, 160),
  .inl (0, 12),
  .inr (.inr (3, [some (some 26)])),
  .inl (0, 2048),
  .inr (.inr (8, [some (some 25), none, none, none])),
  .inr (.inr (7, [none, none, none, none, none, none, none, none, none, none, none, none, none, none, none, none, none, some (some 29)])),
  .inl (0, 12),
  .inr (.inr (7, [none, none, none, none, none, none, none, none, none, none, none, none, none, none, none, none, none, some (some 31)])),
  .inl (0, 12),
  .inr (.inr (7, [none, none, none, none, none, none, none, none, none, none, none, none, none, none, none, none, none, some (some 33)])),
  .inl (0, 12),
  .inr (.inr (7, [none, none, none, none, none, none, none, none, none, none, none, none, none, none, none, none, none, some (some 35)])),
  .inl (0, 12),
  .inr (.inr (7, [none, none, none, none, none, none, none, none, none, none, none, none, none, none, none, none, none, some (some 37)])),
  .inl (0, 12),
  .inr (.inr (7, [none, none, none, none, none, none, none, none, none, none, none, none, none, none, none, none, none, some (some 39)])),
  .inl (0, 12),
  .inr (.inr (9, [some (some 5), some (some 41), some (some 54), some (some 42), some (some 50), some (some 51), some (some 53), some (some 56), none])),
  .inl (0, 6),
  .inr (.inr (5, [some (some 43), some (some 44), some (some 45), some (some 46), some (some 47), some (some 48), some (some 49), none, none, none])),
  .inl (0, 256),
  .inl (0, 256),
  .inl (0, 256),
  .inl (0, 256),
  .inl (0, 256),
  .inl (0, 256),
  .inl (0, 256),
  .inr (.inl (6, fun k => if k < 6 then some (40 + 17 + 2 * k) else none)),
  .inr (.inr (1, [some (some 52), none])),
  .inl (0, 160),
  .inl (0, 12),
  .inr (.inr (3, [some (some 55)])),
  .inl (0, 10000),
  .inr (.inr (8, [some (some 54), none, none, none])),
  .inr (.inr (7, [none, none, none, none, none, none, none, none, none, none, none, none, none, none, none, none, none, some (some 58)])),
  .inl (0, 12),
  .inr (.inr (7, [none, none, none, none, none, none, none, none, none, none, none, none, none, none, none, none, none, some (some 60)])),
  .inl (0, 12),
  .inr (.inr (7, [none, none, none, none, none, none, none, none, none, none, none, none, none, none, none, none, none, some (some 62)])),
  .inl (0, 12),
  .inr (.inr (7, [none, none, none, none, none, none, none, none, none, none, none, none, none, none, none, none, none, some (some 64)])),
  .inl (0, 12),
  .inr (.inr (7, [none, none, none, none, none, none, none, none, none, none, none, none, none, none, none, none, none, some (some 66)])),
  .inl (0, 12),
  .inr (.inr (7, [none, none, none, none, none, none, none, none, none, none, none, none, none, none, none, none, none, some (some 68)])),
  .inl (0, 12),
  .inr (.inr (2, [some (some 11), some (some 70), some (some 5), some (some 13), some (some 25)])),
  .inr (.inr (4, [some (some 11), some (some 13), some (some 25)])),
  .inr (.inr (0, [some (some 11), some (some 72), none, none, none])),
  .inl (0, 2048),
  .inr (.inr (2, [some (some 40), some (some 74), some (some 5), some (some 42), some (some 54)])),
  .inr (.inr (4, [some (some 40), some (some 42), some (some 54)])),
  .inr (.inr (9, [some (some 76), some (some 82), some (some 95), some (some 83), some (some 91), some (some 92), some (some 94), some (some 97), none])),
  .inr (.inr (6, [some (some 77), some (some 78), some (some 79), some (some 80), some (some 81)])),
  .inl (0, 10),
  .inl (0, 10),
  .inl (0, 10),
  .inl (0, 640),
  .inl (0, 10),
  .inl (0, 6),
  .inr (.inr (5, [some (some 84), some (some 85), some (some 86), some (some 87), some (some 88), some (some 89), some (some 90), none, none, none])),
  .inl (0, 256),
  .inl (0, 256),
  .inl (0, 256),
  .inl (0, 256),
  .inl (0, 256),
  .inl (0, 256),
  .inl (0, 256),
  .inr (.inl (6, fun k => if k < 6 then some (81 + 17 + 2 * k) else none)),
  .inr (.inr (1, [some (some 93), none])),
  .inl (0, 160),
  .inl (0, 12),
  .inr (.inr (3, [some (some 96)])),
  .inl (0, 2048),
  .inr (.inr (8, [some (some 95), none, none, none])),
  .inr (.inr (7, [none, none, none, none, none, none, none, none, none, none, none, none, none, none, none, none, none, some (some 99)])),
  .inl (0, 12),
  .inr (.inr (7, [none, none, none, none, none, none, none, none, none, none, none, none, none, none, none, none, none, some (some 101)])),
  .inl (0, 12),
  .inr (.inr (7, [none, none, none, none, none, none, none, none, none, none, none, none, none, none, none, none, none, some (some 103)])),
  .inl (0, 12),
  .inr (.inr (7, [none, none, none, none, none, none, none, none, none, none, none, none, none, none, none, none, none, some (some 105)])),
  .inl (0, 12),
  .inr (.inr (7, [none, none, none, none, none, none, none, none, none, none, none, none, none, none, none, none, none, some (some 107)])),
  .inl (0, 12),
  .inr (.inr (7, [none, none, none, none, none, none, none, none, none, none, none, none, none, none, none, none, none, some (some 109)])),
  .inl (0, 12),
  .inr (.inr (11, [some (some 111), some (some 112), some (some 113), some (some 114), none, none, some (some 115), some (some 116), some (some 117), none, none, none, none, none, some (some 118)])),
  .inl (0, 4073),
  .inl (0, 4073),
  .inl (0, 4073),
  .inl (0, 20200),
  .inl (0, 256),
  .inl (0, 256),
  .inl (0, 256),
  .inl (1, 2048)]
def wt_B (b : Nat) : Prop := b = 11 ∨ b = 40
def wt_C (b : Nat) : Prop := b = 11 ∨ b = 40 ∨ b = 81
def wt_T (t : Nat) : Prop := ∃ b k, wt_C b ∧ k < 6 ∧ t = b + 17 + 2 * k
def wt_Q (q : Nat) : Prop := q = 5 ∨ q = 76
def wt_mc (b : Nat) : Nat := if b = 11 then 69 else 73
def wt_mv (b : Nat) : Nat := if b = 11 then 70 else 74
def wt_wo (b : Nat) : Nat := if b = 81 then 75 else b
def wt_mz (b : Nat) : Nat := if b = 40 then 10000 else 2048
def wt_N : Nat := 2100000000
theorem wt_BC {b : Nat} (h : wt_B b) : wt_C b := h.elim Or.inl (fun q => Or.inr (Or.inl q))
theorem wt_B11 : wt_B 11 := Or.inl rfl
theorem wt_B40 : wt_B 40 := Or.inr rfl
theorem wt_C11 : wt_C 11 := Or.inl rfl
theorem wt_C40 : wt_C 40 := Or.inr (Or.inl rfl)
theorem wt_C81 : wt_C 81 := Or.inr (Or.inr rfl)
theorem wt_Q5 : wt_Q 5 := Or.inl rfl
theorem wt_Q76 : wt_Q 76 := Or.inr rfl
theorem wt_Tk {b k : Nat} (hb : wt_C b) (hk : k < 6) : wt_T (b + 17 + 2 * k) := ⟨b, k, hb, hk, rfl⟩
theorem wt_sWorldB {L b : Nat} (h : wt_B b) : wt_at (wt_H L) (wt_wo b) (.inr (.inr (9, [some (some 5), some (some (b + 1)), some (some (b + 14)), some (some (b + 2)), some (some (b + 10)), some (some (b + 11)), some (some (b + 13)), some (some (b + 16)), none]))) := by
  rcases h with rfl | rfl <;> exact ⟨rfl, rfl⟩
theorem wt_sWorld {L b : Nat} (h : wt_C b) : wt_at (wt_H L) (wt_wo b) (.inr (.inr (9, [some (some (if b = 81 then 76 else 5)), some (some (b + 1)), some (some (b + 14)), some (some (b + 2)), some (some (b + 10)), some (some (b + 11)), some (some (b + 13)), some (some (b + 16)), none]))) := by
  rcases h with rfl | rfl | rfl <;> exact ⟨rfl, rfl⟩
theorem wt_sMachine {L b : Nat} (h : wt_B b) : wt_at (wt_H L) (wt_mc b) (.inr (.inr (2, [some (some (wt_wo b)), some (some (wt_mv b)), some (some 5), some (some (b + 2)), some (some (b + 14))]))) := by
  rcases h with rfl | rfl <;> exact ⟨rfl, rfl⟩
theorem wt_sMover {L b : Nat} (h : wt_B b) : wt_at (wt_H L) (wt_mv b) (.inr (.inr (4, [some (some (wt_wo b)), some (some (b + 2)), some (some (b + 14))]))) := by
  rcases h with rfl | rfl <;> exact ⟨rfl, rfl⟩
theorem wt_sPieces {L b : Nat} (h : wt_C b) : wt_at (wt_H L) (b + 2) (.inr (.inr (5, [some (some (b + 3)), some (some (b + 4)), some (some (b + 5)), some (some (b + 6)), some (some (b + 7)), some (some (b + 8)), some (some (b + 9)), none, none, none]))) := by
  rcases h with rfl | rfl | rfl <;> exact ⟨rfl, rfl⟩
theorem wt_sMemory {L b : Nat} (h : wt_C b) : wt_at (wt_H L) (b + 14) (.inr (.inr (3, [some (some (b + 15))]))) := by
  rcases h with rfl | rfl | rfl <;> exact ⟨rfl, rfl⟩
theorem wt_sLog {L b : Nat} (h : wt_C b) : wt_at (wt_H L) (b + 11) (.inr (.inr (1, [some (some (b + 12)), none]))) := by
  rcases h with rfl | rfl | rfl <;> exact ⟨rfl, rfl⟩
theorem wt_sWalk {L b : Nat} (h : wt_C b) : wt_at (wt_H L) (b + 16) (.inr (.inr (8, [some (some (b + 14)), none, none, none]))) := by
  rcases h with rfl | rfl | rfl <;> exact ⟨rfl, rfl⟩
theorem wt_r3 {L b : Nat} (h : wt_C b) : wt_at (wt_H L) (b + 3) (.inl (0, 256)) := by
  rcases h with rfl | rfl | rfl <;> exact ⟨rfl, rfl⟩
theorem wt_r4 {L b : Nat} (h : wt_C b) : wt_at (wt_H L) (b + 4) (.inl (0, 256)) := by
  rcases h with rfl | rfl | rfl <;> exact ⟨rfl, rfl⟩
theorem wt_r5 {L b : Nat} (h : wt_C b) : wt_at (wt_H L) (b + 5) (.inl (0, 256)) := by
  rcases h with rfl | rfl | rfl <;> exact ⟨rfl, rfl⟩
theorem wt_r6 {L b : Nat} (h : wt_C b) : wt_at (wt_H L) (b + 6) (.inl (0, 256)) := by
  rcases h with rfl | rfl | rfl <;> exact ⟨rfl, rfl⟩
theorem wt_r7 {L b : Nat} (h : wt_C b) : wt_at (wt_H L) (b + 7) (.inl (0, 256)) := by
  rcases h with rfl | rfl | rfl <;> exact ⟨rfl, rfl⟩
theorem wt_r8 {L b : Nat} (h : wt_C b) : wt_at (wt_H L) (b + 8) (.inl (0, 256)) := by
  rcases h with rfl | rfl | rfl <;> exact ⟨rfl, rfl⟩
theorem wt_r9 {L b : Nat} (h : wt_C b) : wt_at (wt_H L) (b + 9) (.inl (0, 256)) := by
  rcases h with rfl | rfl | rfl <;> exact ⟨rfl, rfl⟩
theorem wt_r1 {L b : Nat} (h : wt_C b) : wt_at (wt_H L) (b + 1) (.inl (0, 6)) := by
  rcases h with rfl | rfl | rfl <;> exact ⟨rfl, rfl⟩
theorem wt_r12 {L b : Nat} (h : wt_C b) : wt_at (wt_H L) (b + 12) (.inl (0, 160)) := by
  rcases h with rfl | rfl | rfl <;> exact ⟨rfl, rfl⟩
theorem wt_r13 {L b : Nat} (h : wt_C b) : wt_at (wt_H L) (b + 13) (.inl (0, 12)) := by
  rcases h with rfl | rfl | rfl <;> exact ⟨rfl, rfl⟩
theorem wt_r15 {L b : Nat} (h : wt_C b) : wt_at (wt_H L) (b + 15) (.inl (0, wt_mz b)) := by
  rcases h with rfl | rfl | rfl <;> exact ⟨rfl, rfl⟩
theorem wt_r10 {L b : Nat} (h : wt_C b) : wt_at (wt_H L) (b + 10) (.inr (.inl (6, fun k => if k < 6 then some (b + 17 + 2 * k) else none))) := by
  rcases h with rfl | rfl | rfl <;> exact ⟨rfl, rfl⟩
theorem wt_sQ {L b : Nat} (h : wt_Q b) : wt_at (wt_H L) b (.inr (.inr (6, [some (some (b + 1)), some (some (b + 2)), some (some (b + 3)), some (some (b + 4)), some (some (b + 5))]))) := by
  rcases h with rfl | rfl <;> exact ⟨rfl, rfl⟩
theorem wt_q1 {L b : Nat} (h : wt_Q b) : wt_at (wt_H L) (b + 1) (.inl (0, 10)) := by
  rcases h with rfl | rfl <;> exact ⟨rfl, rfl⟩
theorem wt_q2 {L b : Nat} (h : wt_Q b) : wt_at (wt_H L) (b + 2) (.inl (0, 10)) := by
  rcases h with rfl | rfl <;> exact ⟨rfl, rfl⟩
theorem wt_q3 {L b : Nat} (h : wt_Q b) : wt_at (wt_H L) (b + 3) (.inl (0, 10)) := by
  rcases h with rfl | rfl <;> exact ⟨rfl, rfl⟩
theorem wt_q4 {L b : Nat} (h : wt_Q b) : wt_at (wt_H L) (b + 4) (.inl (0, 640)) := by
  rcases h with rfl | rfl <;> exact ⟨rfl, rfl⟩
theorem wt_q5 {L b : Nat} (h : wt_Q b) : wt_at (wt_H L) (b + 5) (.inl (0, 10)) := by
  rcases h with rfl | rfl <;> exact ⟨rfl, rfl⟩
theorem wt_sT {L t : Nat} (h : wt_T t) : wt_at (wt_H L) t (.inr (.inr (7, [none, none, none, none, none, none, none, none, none, none, none, none, none, none, none, none, none, some (some (t + 1))]))) := by
  obtain ⟨b, k, hb, hk, rfl⟩ := h
  have : k = 0 ∨ k = 1 ∨ k = 2 ∨ k = 3 ∨ k = 4 ∨ k = 5 := by omega
  rcases hb with rfl | rfl | rfl <;> rcases this with rfl | rfl | rfl | rfl | rfl | rfl <;> exact ⟨rfl, rfl⟩
theorem wt_t1 {L t : Nat} (h : wt_T t) : wt_at (wt_H L) (t + 1) (.inl (0, 12)) := by
  obtain ⟨b, k, hb, hk, rfl⟩ := h
  have : k = 0 ∨ k = 1 ∨ k = 2 ∨ k = 3 ∨ k = 4 ∨ k = 5 := by omega
  rcases hb with rfl | rfl | rfl <;> rcases this with rfl | rfl | rfl | rfl | rfl | rfl <;> exact ⟨rfl, rfl⟩
theorem wt_sG {L : Nat} : wt_at (wt_H L) 71 (.inr (.inr (0, [some (some 11), some (some 72), none, none, none]))) := ⟨rfl, rfl⟩
theorem wt_r72 {L : Nat} : wt_at (wt_H L) 72 (.inl (0, 2048)) := ⟨rfl, rfl⟩
theorem wt_s4 {L : Nat} : wt_at (wt_H L) 4 (.inr (.inr (10, [some (some 11), some (some 69), some (some 71), some (some 40), some (some 73), some (some 75), none]))) := ⟨rfl, rfl⟩
theorem wt_s110 {L : Nat} : wt_at (wt_H L) 110 (.inr (.inr (11, [some (some 111), some (some 112), some (some 113), some (some 114), none, none, some (some 115), some (some 116), some (some 117), none, none, none, none, none, some (some 118)]))) := ⟨rfl, rfl⟩
theorem wt_m111 {L : Nat} : wt_at (wt_H L) 111 (.inl (0, 4073)) := ⟨rfl, rfl⟩
theorem wt_m112 {L : Nat} : wt_at (wt_H L) 112 (.inl (0, 4073)) := ⟨rfl, rfl⟩
theorem wt_m113 {L : Nat} : wt_at (wt_H L) 113 (.inl (0, 4073)) := ⟨rfl, rfl⟩
theorem wt_m114 {L : Nat} : wt_at (wt_H L) 114 (.inl (0, 20200)) := ⟨rfl, rfl⟩
theorem wt_m115 {L : Nat} : wt_at (wt_H L) 115 (.inl (0, 256)) := ⟨rfl, rfl⟩
theorem wt_m116 {L : Nat} : wt_at (wt_H L) 116 (.inl (0, 256)) := ⟨rfl, rfl⟩
theorem wt_m117 {L : Nat} : wt_at (wt_H L) 117 (.inl (0, 256)) := ⟨rfl, rfl⟩
theorem wt_m118 {L : Nat} : wt_at (wt_H L) 118 (.inl (1, 2048)) := ⟨rfl, rfl⟩
theorem wt_o1 {L : Nat} : mj_nth (wt_H L) 1 = some (.inl (0, 6)) := rfl
theorem wt_o2 {L : Nat} : mj_nth (wt_H L) 2 = some (.inl (0, 6)) := rfl
theorem wt_o3 {L : Nat} : mj_nth (wt_H L) 3 = some (.inl (0, 6)) := rfl
theorem wt_o0 {L : Nat} : mj_nth (wt_H L) 0 = some (.inl (0, L)) := rfl
theorem jX0_init : mj_cds[0]? = some kX0_init := by rw [← mj_nth_eq]; rfl
theorem jX0_mark : mj_cds[1]? = some kX0_mark := by rw [← mj_nth_eq]; rfl
theorem jX0_marksAt : mj_cds[2]? = some kX0_marksAt := by rw [← mj_nth_eq]; rfl
theorem jX0_goToLast : mj_cds[3]? = some kX0_goToLast := by rw [← mj_nth_eq]; rfl
theorem jX0_goToCaller : mj_cds[4]? = some kX0_goToCaller := by rw [← mj_nth_eq]; rfl
theorem jX0_wrongPlaces : mj_cds[5]? = some kX0_wrongPlaces := by rw [← mj_nth_eq]; rfl
theorem jX0_markNumbers : mj_cds[6]? = some kX0_markNumbers := by rw [← mj_nth_eq]; rfl
theorem jX0_wrongPointers : mj_cds[7]? = some kX0_wrongPointers := by rw [← mj_nth_eq]; rfl
theorem jX0_wrongFrames : mj_cds[8]? = some kX0_wrongFrames := by rw [← mj_nth_eq]; rfl
theorem jX0_markWords : mj_cds[9]? = some kX0_markWords := by rw [← mj_nth_eq]; rfl
theorem jX0_liesWell : mj_cds[10]? = some kX0_liesWell := by rw [← mj_nth_eq]; rfl
theorem jX1_init : mj_cds[11]? = some kX1_init := by rw [← mj_nth_eq]; rfl
theorem jX1_write : mj_cds[12]? = some kX1_write := by rw [← mj_nth_eq]; rfl
theorem jX1_read : mj_cds[13]? = some kX1_read := by rw [← mj_nth_eq]; rfl
theorem jX1_takeOver : mj_cds[14]? = some kX1_takeOver := by rw [← mj_nth_eq]; rfl
theorem jX2_init : mj_cds[15]? = some kX2_init := by rw [← mj_nth_eq]; rfl
theorem jX2_begin : mj_cds[16]? = some kX2_begin := by rw [← mj_nth_eq]; rfl
theorem jX2_makeStep : mj_cds[17]? = some kX2_makeStep := by rw [← mj_nth_eq]; rfl
theorem jX2_reckon : mj_cds[18]? = some kX2_reckon := by rw [← mj_nth_eq]; rfl
theorem jX2_callFunction : mj_cds[19]? = some kX2_callFunction := by rw [← mj_nth_eq]; rfl
theorem jX2_callForeign : mj_cds[20]? = some kX2_callForeign := by rw [← mj_nth_eq]; rfl
theorem jX2_endForeign : mj_cds[21]? = some kX2_endForeign := by rw [← mj_nth_eq]; rfl
theorem jX2_roomFor : mj_cds[22]? = some kX2_roomFor := by rw [← mj_nth_eq]; rfl
theorem jX2_enter : mj_cds[23]? = some kX2_enter := by rw [← mj_nth_eq]; rfl
theorem jX2_pushFrame : mj_cds[24]? = some kX2_pushFrame := by rw [← mj_nth_eq]; rfl
theorem jX2_leaveFrame : mj_cds[25]? = some kX2_leaveFrame := by rw [← mj_nth_eq]; rfl
theorem jX2_end : mj_cds[26]? = some kX2_end := by rw [← mj_nth_eq]; rfl
theorem jX3_init : mj_cds[27]? = some kX3_init := by rw [← mj_nth_eq]; rfl
theorem jX3_word : mj_cds[28]? = some kX3_word := by rw [← mj_nth_eq]; rfl
theorem jX3_put : mj_cds[29]? = some kX3_put := by rw [← mj_nth_eq]; rfl
theorem jX3_bring : mj_cds[30]? = some kX3_bring := by rw [← mj_nth_eq]; rfl
theorem jX3_takeOver : mj_cds[31]? = some kX3_takeOver := by rw [← mj_nth_eq]; rfl
theorem jX4_init : mj_cds[32]? = some kX4_init := by rw [← mj_nth_eq]; rfl
theorem jX4_moveInto : mj_cds[33]? = some kX4_moveInto := by rw [← mj_nth_eq]; rfl
theorem jX4_linkPiece : mj_cds[34]? = some kX4_linkPiece := by rw [← mj_nth_eq]; rfl
theorem jX4_leavePiece : mj_cds[35]? = some kX4_leavePiece := by rw [← mj_nth_eq]; rfl
theorem jX4_dropSpare : mj_cds[36]? = some kX4_dropSpare := by rw [← mj_nth_eq]; rfl
theorem jX4_keptWords : mj_cds[37]? = some kX4_keptWords := by rw [← mj_nth_eq]; rfl
theorem jX4_makeSmaller : mj_cds[38]? = some kX4_makeSmaller := by rw [← mj_nth_eq]; rfl
theorem jX4_joinPieces : mj_cds[39]? = some kX4_joinPieces := by rw [← mj_nth_eq]; rfl
theorem jX4_gather : mj_cds[40]? = some kX4_gather := by rw [← mj_nth_eq]; rfl
theorem jX4_bringOver : mj_cds[41]? = some kX4_bringOver := by rw [← mj_nth_eq]; rfl
theorem jX4_turnPlaces : mj_cds[42]? = some kX4_turnPlaces := by rw [← mj_nth_eq]; rfl
theorem jX4_doubled : mj_cds[43]? = some kX4_doubled := by rw [← mj_nth_eq]; rfl
theorem jX5_init : mj_cds[44]? = some kX5_init := by rw [← mj_nth_eq]; rfl
theorem jX5_clear : mj_cds[45]? = some kX5_clear := by rw [← mj_nth_eq]; rfl
theorem jX5_placeOf : mj_cds[46]? = some kX5_placeOf := by rw [← mj_nth_eq]; rfl
theorem jX5_wordsOf : mj_cds[47]? = some kX5_wordsOf := by rw [← mj_nth_eq]; rfl
theorem jX5_usedOf : mj_cds[48]? = some kX5_usedOf := by rw [← mj_nth_eq]; rfl
theorem jX5_belowOf : mj_cds[49]? = some kX5_belowOf := by rw [← mj_nth_eq]; rfl
theorem jX5_ownerOf : mj_cds[50]? = some kX5_ownerOf := by rw [← mj_nth_eq]; rfl
theorem jX5_shiftOf : mj_cds[51]? = some kX5_shiftOf := by rw [← mj_nth_eq]; rfl
theorem jX5_endOf : mj_cds[52]? = some kX5_endOf := by rw [← mj_nth_eq]; rfl
theorem jX5_topOf : mj_cds[53]? = some kX5_topOf := by rw [← mj_nth_eq]; rfl
theorem jX5_use : mj_cds[54]? = some kX5_use := by rw [← mj_nth_eq]; rfl
theorem jX5_putOver : mj_cds[55]? = some kX5_putOver := by rw [← mj_nth_eq]; rfl
theorem jX5_aimAt : mj_cds[56]? = some kX5_aimAt := by rw [← mj_nth_eq]; rfl
theorem jX5_settle : mj_cds[57]? = some kX5_settle := by rw [← mj_nth_eq]; rfl
theorem jX5_idAt : mj_cds[58]? = some kX5_idAt := by rw [← mj_nth_eq]; rfl
theorem jX5_gapFrom : mj_cds[59]? = some kX5_gapFrom := by rw [← mj_nth_eq]; rfl
theorem jX5_gapTo : mj_cds[60]? = some kX5_gapTo := by rw [← mj_nth_eq]; rfl
theorem jX5_take : mj_cds[61]? = some kX5_take := by rw [← mj_nth_eq]; rfl
theorem jX5_insert : mj_cds[62]? = some kX5_insert := by rw [← mj_nth_eq]; rfl
theorem jX5_giveBack : mj_cds[63]? = some kX5_giveBack := by rw [← mj_nth_eq]; rfl
theorem jX5_rankOf : mj_cds[64]? = some kX5_rankOf := by rw [← mj_nth_eq]; rfl
theorem jX5_holding : mj_cds[65]? = some kX5_holding := by rw [← mj_nth_eq]; rfl
theorem jX5_turned : mj_cds[66]? = some kX5_turned := by rw [← mj_nth_eq]; rfl
theorem jX5_indexOf : mj_cds[67]? = some kX5_indexOf := by rw [← mj_nth_eq]; rfl
theorem jX5_gaps : mj_cds[68]? = some kX5_gaps := by rw [← mj_nth_eq]; rfl
theorem jX5_gapFact : mj_cds[69]? = some kX5_gapFact := by rw [← mj_nth_eq]; rfl
theorem jX5_greatestGap : mj_cds[70]? = some kX5_greatestGap := by rw [← mj_nth_eq]; rfl
theorem jX5_takeOver : mj_cds[71]? = some kX5_takeOver := by rw [← mj_nth_eq]; rfl
theorem jX6_init : mj_cds[72]? = some kX6_init := by rw [← mj_nth_eq]; rfl
theorem jX6_told : mj_cds[73]? = some kX6_told := by rw [← mj_nth_eq]; rfl
theorem jX6_sizeOf : mj_cds[74]? = some kX6_sizeOf := by rw [← mj_nth_eq]; rfl
theorem jX6_linesOf : mj_cds[75]? = some kX6_linesOf := by rw [← mj_nth_eq]; rfl
theorem jX6_deepOf : mj_cds[76]? = some kX6_deepOf := by rw [← mj_nth_eq]; rfl
theorem jX6_frameWords : mj_cds[77]? = some kX6_frameWords := by rw [← mj_nth_eq]; rfl
theorem jX6_hasSlot : mj_cds[78]? = some kX6_hasSlot := by rw [← mj_nth_eq]; rfl
theorem jX6_isPointer : mj_cds[79]? = some kX6_isPointer := by rw [← mj_nth_eq]; rfl
theorem jX6_hasNumber : mj_cds[80]? = some kX6_hasNumber := by rw [← mj_nth_eq]; rfl
theorem jX6_hasPointer : mj_cds[81]? = some kX6_hasPointer := by rw [← mj_nth_eq]; rfl
theorem jX6_part : mj_cds[82]? = some kX6_part := by rw [← mj_nth_eq]; rfl
theorem jX6_tell : mj_cds[83]? = some kX6_tell := by rw [← mj_nth_eq]; rfl
theorem jX6_allows : mj_cds[84]? = some kX6_allows := by rw [← mj_nth_eq]; rfl
theorem jX6_append : mj_cds[85]? = some kX6_append := by rw [← mj_nth_eq]; rfl
theorem jX6_findDeeps : mj_cds[86]? = some kX6_findDeeps := by rw [← mj_nth_eq]; rfl
theorem jX6_deepByLines : mj_cds[87]? = some kX6_deepByLines := by rw [← mj_nth_eq]; rfl
theorem jX6_calledBy : mj_cds[88]? = some kX6_calledBy := by rw [← mj_nth_eq]; rfl
theorem jX6_toldFunctions : mj_cds[89]? = some kX6_toldFunctions := by rw [← mj_nth_eq]; rfl
theorem jX6_toldLines : mj_cds[90]? = some kX6_toldLines := by rw [← mj_nth_eq]; rfl
theorem jX6_takeOver : mj_cds[91]? = some kX6_takeOver := by rw [← mj_nth_eq]; rfl
theorem jX7_init : mj_cds[92]? = some kX7_init := by rw [← mj_nth_eq]; rfl
theorem jX7_on : mj_cds[93]? = some kX7_on := by rw [← mj_nth_eq]; rfl
theorem jX7_clear : mj_cds[94]? = some kX7_clear := by rw [← mj_nth_eq]; rfl
theorem jX7_dropStack : mj_cds[95]? = some kX7_dropStack := by rw [← mj_nth_eq]; rfl
theorem jX7_takeOver : mj_cds[96]? = some kX7_takeOver := by rw [← mj_nth_eq]; rfl
theorem jX8_init : mj_cds[97]? = some kX8_init := by rw [← mj_nth_eq]; rfl
theorem jX8_toLast : mj_cds[98]? = some kX8_toLast := by rw [← mj_nth_eq]; rfl
theorem jX8_toCaller : mj_cds[99]? = some kX8_toCaller := by rw [← mj_nth_eq]; rfl
theorem jX8_toFrame : mj_cds[100]? = some kX8_toFrame := by rw [← mj_nth_eq]; rfl
theorem jX8_toPlace : mj_cds[101]? = some kX8_toPlace := by rw [← mj_nth_eq]; rfl
theorem jX9_init : mj_cds[102]? = some kX9_init := by rw [← mj_nth_eq]; rfl
theorem jX9_clear : mj_cds[103]? = some kX9_clear := by rw [← mj_nth_eq]; rfl
theorem jX9_takeOver : mj_cds[104]? = some kX9_takeOver := by rw [← mj_nth_eq]; rfl
theorem jX9_add : mj_cds[105]? = some kX9_add := by rw [← mj_nth_eq]; rfl
theorem jX9_writeLog : mj_cds[106]? = some kX9_writeLog := by rw [← mj_nth_eq]; rfl
theorem jX9_busy : mj_cds[107]? = some kX9_busy := by rw [← mj_nth_eq]; rfl
theorem jX9_tasksThatAre : mj_cds[108]? = some kX9_tasksThatAre := by rw [← mj_nth_eq]; rfl
theorem jX9_sidesTaken : mj_cds[109]? = some kX9_sidesTaken := by rw [← mj_nth_eq]; rfl
theorem jX9_freeSide : mj_cds[110]? = some kX9_freeSide := by rw [← mj_nth_eq]; rfl
theorem jX9_covers : mj_cds[111]? = some kX9_covers := by rw [← mj_nth_eq]; rfl
theorem jX9_needOf : mj_cds[112]? = some kX9_needOf := by rw [← mj_nth_eq]; rfl
theorem jX9_lastCovered : mj_cds[113]? = some kX9_lastCovered := by rw [← mj_nth_eq]; rfl
theorem jX9_piecesOf : mj_cds[114]? = some kX9_piecesOf := by rw [← mj_nth_eq]; rfl
theorem jX9_wordsOf : mj_cds[115]? = some kX9_wordsOf := by rw [← mj_nth_eq]; rfl
theorem jX9_pieceOf : mj_cds[116]? = some kX9_pieceOf := by rw [← mj_nth_eq]; rfl
theorem jX9_releasePieces : mj_cds[117]? = some kX9_releasePieces := by rw [← mj_nth_eq]; rfl
theorem jX10_init : mj_cds[118]? = some kX10_init := by rw [← mj_nth_eq]; rfl
theorem jX10_set : mj_cds[119]? = some kX10_set := by rw [← mj_nth_eq]; rfl
theorem jX10_function : mj_cds[120]? = some kX10_function := by rw [← mj_nth_eq]; rfl
theorem jX10_line : mj_cds[121]? = some kX10_line := by rw [← mj_nth_eq]; rfl
theorem jX10_start : mj_cds[122]? = some kX10_start := by rw [← mj_nth_eq]; rfl
theorem jX10_step : mj_cds[123]? = some kX10_step := by rw [← mj_nth_eq]; rfl
theorem jX10_round : mj_cds[124]? = some kX10_round := by rw [← mj_nth_eq]; rfl
theorem jX10_stop : mj_cds[125]? = some kX10_stop := by rw [← mj_nth_eq]; rfl
theorem jX10_quiet : mj_cds[126]? = some kX10_quiet := by rw [← mj_nth_eq]; rfl
theorem jX10_join : mj_cds[127]? = some kX10_join := by rw [← mj_nth_eq]; rfl
theorem jX10_compact : mj_cds[128]? = some kX10_compact := by rw [← mj_nth_eq]; rfl
theorem jX10_deep : mj_cds[129]? = some kX10_deep := by rw [← mj_nth_eq]; rfl
theorem jX10_need : mj_cds[130]? = some kX10_need := by rw [← mj_nth_eq]; rfl
theorem jX10_task : mj_cds[131]? = some kX10_task := by rw [← mj_nth_eq]; rfl
theorem jX10_frame : mj_cds[132]? = some kX10_frame := by rw [← mj_nth_eq]; rfl
theorem jX10_slot : mj_cds[133]? = some kX10_slot := by rw [← mj_nth_eq]; rfl
theorem jX10_piece : mj_cds[134]? = some kX10_piece := by rw [← mj_nth_eq]; rfl
theorem jX10_gap : mj_cds[135]? = some kX10_gap := by rw [← mj_nth_eq]; rfl
theorem jX10_endless : mj_cds[136]? = some kX10_endless := by rw [← mj_nth_eq]; rfl
theorem jX10_land : mj_cds[137]? = some kX10_land := by rw [← mj_nth_eq]; rfl
theorem jX10_alone : mj_cds[138]? = some kX10_alone := by rw [← mj_nth_eq]; rfl
theorem jX10_log : mj_cds[139]? = some kX10_log := by rw [← mj_nth_eq]; rfl
theorem jX10_never : mj_cds[140]? = some kX10_never := by rw [← mj_nth_eq]; rfl
theorem jX10_count : mj_cds[141]? = some kX10_count := by rw [← mj_nth_eq]; rfl
theorem jX10_image : mj_cds[142]? = some kX10_image := by rw [← mj_nth_eq]; rfl
theorem jX10_look : mj_cds[143]? = some kX10_look := by rw [← mj_nth_eq]; rfl
theorem jX10_isTask : mj_cds[144]? = some kX10_isTask := by rw [← mj_nth_eq]; rfl
theorem jX10_isFunction : mj_cds[145]? = some kX10_isFunction := by rw [← mj_nth_eq]; rfl
theorem jX10_hasFrame : mj_cds[146]? = some kX10_hasFrame := by rw [← mj_nth_eq]; rfl
theorem jX10_compareResults : mj_cds[147]? = some kX10_compareResults := by rw [← mj_nth_eq]; rfl
theorem jX10_thinkEndless : mj_cds[148]? = some kX10_thinkEndless := by rw [← mj_nth_eq]; rfl
theorem jX10_thinkAlone : mj_cds[149]? = some kX10_thinkAlone := by rw [← mj_nth_eq]; rfl
theorem jX10_leastFirstFor : mj_cds[150]? = some kX10_leastFirstFor := by rw [← mj_nth_eq]; rfl
theorem jX11_isIn : mj_cds[151]? = some kX11_isIn := by rw [← mj_nth_eq]; rfl
theorem jX11_has : mj_cds[152]? = some kX11_has := by rw [← mj_nth_eq]; rfl
theorem jX11_copies : mj_cds[153]? = some kX11_copies := by rw [← mj_nth_eq]; rfl
theorem jX11_init : mj_cds[154]? = some kX11_init := by rw [← mj_nth_eq]; rfl
theorem jX11_clears : mj_cds[155]? = some kX11_clears := by rw [← mj_nth_eq]; rfl
theorem jX11_word : mj_cds[156]? = some kX11_word := by rw [← mj_nth_eq]; rfl
theorem jX11_lays : mj_cds[157]? = some kX11_lays := by rw [← mj_nth_eq]; rfl
theorem jX11_counts : mj_cds[158]? = some kX11_counts := by rw [← mj_nth_eq]; rfl
theorem jX11_logs : mj_cds[159]? = some kX11_logs := by rw [← mj_nth_eq]; rfl
theorem jX11_isBusy : mj_cds[160]? = some kX11_isBusy := by rw [← mj_nth_eq]; rfl
theorem jX11_isAnyBusy : mj_cds[161]? = some kX11_isAnyBusy := by rw [← mj_nth_eq]; rfl
theorem jX11_canBe : mj_cds[162]? = some kX11_canBe := by rw [← mj_nth_eq]; rfl
theorem jX11_set : mj_cds[163]? = some kX11_set := by rw [← mj_nth_eq]; rfl
theorem jX11_isFunction : mj_cds[164]? = some kX11_isFunction := by rw [← mj_nth_eq]; rfl
theorem jX11_isTold : mj_cds[165]? = some kX11_isTold := by rw [← mj_nth_eq]; rfl
theorem jX11_function : mj_cds[166]? = some kX11_function := by rw [← mj_nth_eq]; rfl
theorem jX11_isSlot : mj_cds[167]? = some kX11_isSlot := by rw [← mj_nth_eq]; rfl
theorem jX11_isPointer : mj_cds[168]? = some kX11_isPointer := by rw [← mj_nth_eq]; rfl
theorem jX11_isNumber : mj_cds[169]? = some kX11_isNumber := by rw [← mj_nth_eq]; rfl
theorem jX11_canLine : mj_cds[170]? = some kX11_canLine := by rw [← mj_nth_eq]; rfl
theorem jX11_codeAt : mj_cds[171]? = some kX11_codeAt := by rw [← mj_nth_eq]; rfl
theorem jX11_line : mj_cds[172]? = some kX11_line := by rw [← mj_nth_eq]; rfl
theorem jX11_calledBy : mj_cds[173]? = some kX11_calledBy := by rw [← mj_nth_eq]; rfl
theorem jX11_reachedBy : mj_cds[174]? = some kX11_reachedBy := by rw [← mj_nth_eq]; rfl
theorem jX11_isEndlessOne : mj_cds[175]? = some kX11_isEndlessOne := by rw [← mj_nth_eq]; rfl
theorem jX11_frameOf : mj_cds[176]? = some kX11_frameOf := by rw [← mj_nth_eq]; rfl
theorem jX11_depth : mj_cds[177]? = some kX11_depth := by rw [← mj_nth_eq]; rfl
theorem jX11_deepOf : mj_cds[178]? = some kX11_deepOf := by rw [← mj_nth_eq]; rfl
theorem jX11_isMerged : mj_cds[179]? = some kX11_isMerged := by rw [← mj_nth_eq]; rfl
theorem jX11_needOf : mj_cds[180]? = some kX11_needOf := by rw [← mj_nth_eq]; rfl
theorem jX11_deep : mj_cds[181]? = some kX11_deep := by rw [← mj_nth_eq]; rfl
theorem jX11_need : mj_cds[182]? = some kX11_need := by rw [← mj_nth_eq]; rfl
theorem jX11_gapFor : mj_cds[183]? = some kX11_gapFor := by rw [← mj_nth_eq]; rfl
theorem jX11_shifts : mj_cds[184]? = some kX11_shifts := by rw [← mj_nth_eq]; rfl
theorem jX11_takes : mj_cds[185]? = some kX11_takes := by rw [← mj_nth_eq]; rfl
theorem jX11_gives : mj_cds[186]? = some kX11_gives := by rw [← mj_nth_eq]; rfl
theorem jX11_pieceOf : mj_cds[187]? = some kX11_pieceOf := by rw [← mj_nth_eq]; rfl
theorem jX11_pieceAt : mj_cds[188]? = some kX11_pieceAt := by rw [← mj_nth_eq]; rfl
theorem jX11_lastPiece : mj_cds[189]? = some kX11_lastPiece := by rw [← mj_nth_eq]; rfl
theorem jX11_givesAll : mj_cds[190]? = some kX11_givesAll := by rw [← mj_nth_eq]; rfl
theorem jX11_givesSpare : mj_cds[191]? = some kX11_givesSpare := by rw [← mj_nth_eq]; rfl
theorem jX11_isOut : mj_cds[192]? = some kX11_isOut := by rw [← mj_nth_eq]; rfl
theorem jX11_part : mj_cds[193]? = some kX11_part := by rw [← mj_nth_eq]; rfl
theorem jX11_goalOf : mj_cds[194]? = some kX11_goalOf := by rw [← mj_nth_eq]; rfl
theorem jX11_carries : mj_cds[195]? = some kX11_carries := by rw [← mj_nth_eq]; rfl
theorem jX11_turns : mj_cds[196]? = some kX11_turns := by rw [← mj_nth_eq]; rfl
theorem jX11_moves : mj_cds[197]? = some kX11_moves := by rw [← mj_nth_eq]; rfl
theorem jX11_isCovered : mj_cds[198]? = some kX11_isCovered := by rw [← mj_nth_eq]; rfl
theorem jX11_keptOf : mj_cds[199]? = some kX11_keptOf := by rw [← mj_nth_eq]; rfl
theorem jX11_quiets : mj_cds[200]? = some kX11_quiets := by rw [← mj_nth_eq]; rfl
theorem jX11_grows : mj_cds[201]? = some kX11_grows := by rw [← mj_nth_eq]; rfl
theorem jX11_topOf : mj_cds[202]? = some kX11_topOf := by rw [← mj_nth_eq]; rfl
theorem jX11_roomFor : mj_cds[203]? = some kX11_roomFor := by rw [← mj_nth_eq]; rfl
theorem jX11_calls : mj_cds[204]? = some kX11_calls := by rw [← mj_nth_eq]; rfl
theorem jX11_returns : mj_cds[205]? = some kX11_returns := by rw [← mj_nth_eq]; rfl
theorem jX11_leaves : mj_cds[206]? = some kX11_leaves := by rw [← mj_nth_eq]; rfl
theorem jX11_isDone : mj_cds[207]? = some kX11_isDone := by rw [← mj_nth_eq]; rfl
theorem jX11_foreignOver : mj_cds[208]? = some kX11_foreignOver := by rw [← mj_nth_eq]; rfl
theorem jX11_freeSide : mj_cds[209]? = some kX11_freeSide := by rw [← mj_nth_eq]; rfl
theorem jX11_hasSide : mj_cds[210]? = some kX11_hasSide := by rw [← mj_nth_eq]; rfl
theorem jX11_foreign : mj_cds[211]? = some kX11_foreign := by rw [← mj_nth_eq]; rfl
theorem jX11_steps : mj_cds[212]? = some kX11_steps := by rw [← mj_nth_eq]; rfl
theorem jX11_begins : mj_cds[213]? = some kX11_begins := by rw [← mj_nth_eq]; rfl
theorem jX11_isTask : mj_cds[214]? = some kX11_isTask := by rw [← mj_nth_eq]; rfl
theorem jX11_start : mj_cds[215]? = some kX11_start := by rw [← mj_nth_eq]; rfl
theorem jX11_runs : mj_cds[216]? = some kX11_runs := by rw [← mj_nth_eq]; rfl
theorem jX11_step : mj_cds[217]? = some kX11_step := by rw [← mj_nth_eq]; rfl
theorem jX11_round : mj_cds[218]? = some kX11_round := by rw [← mj_nth_eq]; rfl
theorem jX11_stop : mj_cds[219]? = some kX11_stop := by rw [← mj_nth_eq]; rfl
theorem jX11_quiet : mj_cds[220]? = some kX11_quiet := by rw [← mj_nth_eq]; rfl
theorem jX11_usedIn : mj_cds[221]? = some kX11_usedIn := by rw [← mj_nth_eq]; rfl
theorem jX11_join : mj_cds[222]? = some kX11_join := by rw [← mj_nth_eq]; rfl
theorem jX11_compact : mj_cds[223]? = some kX11_compact := by rw [← mj_nth_eq]; rfl
theorem jX11_piecesOf : mj_cds[224]? = some kX11_piecesOf := by rw [← mj_nth_eq]; rfl
theorem jX11_wordsOf : mj_cds[225]? = some kX11_wordsOf := by rw [← mj_nth_eq]; rfl
theorem jX11_task : mj_cds[226]? = some kX11_task := by rw [← mj_nth_eq]; rfl
theorem jX11_looksAt : mj_cds[227]? = some kX11_looksAt := by rw [← mj_nth_eq]; rfl
theorem jX11_goesBack : mj_cds[228]? = some kX11_goesBack := by rw [← mj_nth_eq]; rfl
theorem jX11_isFrame : mj_cds[229]? = some kX11_isFrame := by rw [← mj_nth_eq]; rfl
theorem jX11_frame : mj_cds[230]? = some kX11_frame := by rw [← mj_nth_eq]; rfl
theorem jX11_pointed : mj_cds[231]? = some kX11_pointed := by rw [← mj_nth_eq]; rfl
theorem jX11_slot : mj_cds[232]? = some kX11_slot := by rw [← mj_nth_eq]; rfl
theorem jX11_piece : mj_cds[233]? = some kX11_piece := by rw [← mj_nth_eq]; rfl
theorem jX11_gap : mj_cds[234]? = some kX11_gap := by rw [← mj_nth_eq]; rfl
theorem jX11_runsEndless : mj_cds[235]? = some kX11_runsEndless := by rw [← mj_nth_eq]; rfl
theorem jX11_endless : mj_cds[236]? = some kX11_endless := by rw [← mj_nth_eq]; rfl
theorem jX11_land : mj_cds[237]? = some kX11_land := by rw [← mj_nth_eq]; rfl
theorem jX11_runsAlone : mj_cds[238]? = some kX11_runsAlone := by rw [← mj_nth_eq]; rfl
theorem jX11_alone : mj_cds[239]? = some kX11_alone := by rw [← mj_nth_eq]; rfl
theorem jX11_log : mj_cds[240]? = some kX11_log := by rw [← mj_nth_eq]; rfl
theorem jX11_wrongWords : mj_cds[241]? = some kX11_wrongWords := by rw [← mj_nth_eq]; rfl
theorem jX11_wrongFrames : mj_cds[242]? = some kX11_wrongFrames := by rw [← mj_nth_eq]; rfl
theorem jX11_never : mj_cds[243]? = some kX11_never := by rw [← mj_nth_eq]; rfl
theorem jX11_count : mj_cds[244]? = some kX11_count := by rw [← mj_nth_eq]; rfl
theorem jX11_image : mj_cds[245]? = some kX11_image := by rw [← mj_nth_eq]; rfl
theorem jX11_greatestGap : mj_cds[246]? = some kX11_greatestGap := by rw [← mj_nth_eq]; rfl
theorem jX11_statesOf : mj_cds[247]? = some kX11_statesOf := by rw [← mj_nth_eq]; rfl
theorem jX11_told : mj_cds[248]? = some kX11_told := by rw [← mj_nth_eq]; rfl
theorem jX11_look : mj_cds[249]? = some kX11_look := by rw [← mj_nth_eq]; rfl
theorem jJ9_max_7cf53 : mj_cds[250]? = some kJ9_max_7cf53 := by rw [← mj_nth_eq]; rfl
theorem jJ9_min_7cf53 : mj_cds[251]? = some kJ9_min_7cf53 := by rw [← mj_nth_eq]; rfl
theorem jJ7_fill_53178 : mj_cds[252]? = some kJ7_fill_53178 := by rw [← mj_nth_eq]; rfl
theorem jL_law : mj_cds[253]? = some kL_law := by rw [← mj_nth_eq]; rfl
end
section
theorem wt_T57 : wt_T 57 := ⟨40, 0, wt_C40, by decide, rfl⟩
theorem wt_tt {α : Type} {v : Nat} {F : Option α} {R : α} {G : Prop} (h : (if v = 57 then F else none) = some R) (h1 : v = 57 → F = some R → G) : G := by
  split at h
  · rename_i e
    exact h1 e h
  · cases h
end
