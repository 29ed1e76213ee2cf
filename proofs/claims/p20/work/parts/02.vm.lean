/-! ===== the mini-machine: values (an int, or null, or a cell by its number), cells, heaps, a step by continuations ===== -/
abbrev mj_v (V : Type) : Type := V ⊕ Option Nat
/-- a cell: a row of ints (0) or booleans (1); a row of references; an object by its class's number and its fields -/
abbrev mj_c (V : Type) : Type := (Nat × Nat × (Nat → V)) ⊕ ((Nat × (Nat → Option Nat)) ⊕ (Nat × List (mj_v V)))
abbrev mj_h (V : Type) : Type := List (mj_c V)
abbrev mj_l (V : Type) : Type := List (Option (mj_v V))
abbrev mj_s (V : Type) : Type := List (mj_v V)
/-- what is done with ints: a constant; an operation by its number; a comparison; the number itself, where it is known -/
abbrev mj_O (V : Type) : Type := (Int → V) × (Nat → V → V → Option V) × (Jvm.ClassFile.Cond → V → V → Option Bool) × (V → Option Int)
/-- a row of code: place, instruction, a number, numbers -/
abbrev mj_r : Type := Nat × Instr × Nat × List Nat
noncomputable def mj_nth {α : Type} (l : List α) : Nat → Option α :=
  List.rec (motive := fun _ => Nat → Option α) (fun _ => none) (fun a _ ih n => Nat.rec (motive := fun _ => Option α) (some a) (fun m _ => ih m) n) l
theorem mj_nth_eq {α : Type} (l : List α) : ∀ n, mj_nth l n = l[n]? := by
  induction l with
  | nil => intro n; simp [mj_nth]
  | cons a l ih =>
    intro n
    cases n with
    | zero => rfl
    | succ n => exact (ih n).trans (by simp)
noncomputable def mj_put {α : Type} (l : List α) : Nat → α → List α :=
  List.rec (motive := fun _ => Nat → α → List α) (fun _ _ => []) (fun a l ih n x => Nat.rec (motive := fun _ => List α) (x :: l) (fun m _ => a :: ih m x) n) l
theorem mj_put_eq {α : Type} (l : List α) : ∀ n x, mj_put l n x = l.set n x := by
  induction l with
  | nil => intro n x; simp [mj_put]
  | cons a l ih =>
    intro n x
    cases n with
    | zero => rfl
    | succ n => show a :: mj_put l n x = _; rw [ih n x]; rfl
noncomputable def mj_drop {α : Type} (n : Nat) : List α → List α :=
  Nat.rec (motive := fun _ => List α → List α) (fun l => l) (fun _ ih l => List.casesOn l [] (fun _ t => ih t)) n
theorem mj_drop_eq {α : Type} : ∀ (n : Nat) (l : List α), mj_drop n l = l.drop n := by
  intro n
  induction n with
  | zero => intro l; rfl
  | succ n ih =>
    intro l
    cases l with
    | nil => rfl
    | cons a l => exact (ih l).trans (by simp)
noncomputable def mj_app {α : Type} (l : List α) (x : α) : List α := List.rec (motive := fun _ => List α) [x] (fun a _ ih => a :: ih) l
theorem mj_app_eq {α : Type} (l : List α) (x : α) : mj_app l x = l ++ [x] := by
  induction l with
  | nil => rfl
  | cons a l ih => show a :: mj_app l x = _; rw [ih]; rfl
noncomputable def mj_len {α : Type} (l : List α) : Nat := List.rec (motive := fun _ => Nat) 0 (fun _ _ ih => Nat.succ ih) l
theorem mj_len_eq {α : Type} (l : List α) : mj_len l = l.length := by
  induction l with
  | nil => rfl
  | cons a l ih => show Nat.succ (mj_len l) = _; rw [ih]; rfl
/-- a place in a row of n, or none -/
def mj_ix (z : Int) (n : Nat) : Option Nat := match z with
  | .ofNat k => match Nat.ble (k + 1) n with
    | true => some k
    | false => none
  | .negSucc _ => none
def mj_upd {V : Type} (f : Nat → V) (k : Nat) (v : V) : Nat → V := fun j => match Nat.beq j k with
  | true => v
  | false => f j
/-- n values off the stack, the first pushed first -/
noncomputable def mj_args {V : Type} (n : Nat) : mj_s V → List (mj_v V) → Option (List (mj_v V) × mj_s V) :=
  Nat.rec (motive := fun _ => mj_s V → List (mj_v V) → Option (List (mj_v V) × mj_s V)) (fun st acc => some (acc, st)) (fun _ ih st acc => match st with
    | [] => none
    | v :: st => ih st (v :: acc)) n
/-- the locals of a method that begins -/
noncomputable def mj_ent {V : Type} (n : Nat) : List (mj_v V) → mj_l V :=
  Nat.rec (motive := fun _ => List (mj_v V) → mj_l V) (fun _ => []) (fun _ ih as => match as with
    | [] => none :: ih []
    | a :: as => some a :: ih as) n
section
variable {V α : Type} (O : mj_O V) (x : Nat) (xs : List Nat) (loc : mj_l V) (st : mj_s V) (h : mj_h V) (kn : mj_l V → mj_s V → mj_h V → α) (kj : Nat → mj_s V → α) (kc : Nat → Nat → List (mj_v V) → mj_s V → α) (kr : Option (mj_v V) → α) (sp : α)
noncomputable def mj_iload (i : Nat) : α := match mj_nth loc i with
  | some (some (.inl v)) => kn loc (.inl v :: st) h
  | _ => sp
noncomputable def mj_aload (i : Nat) : α := match mj_nth loc i with
  | some (some (.inr (some a))) => kn loc (.inr (some a) :: st) h
  | _ => sp
noncomputable def mj_istore (i : Nat) : α := match st with
  | .inl v :: rest => kn (mj_put loc i (some (.inl v))) rest h
  | _ => sp
noncomputable def mj_astore (i : Nat) : α := match st with
  | .inr (some a) :: rest => kn (mj_put loc i (some (.inr (some a)))) rest h
  | _ => sp
def mj_bin (op : Nat) : α := match st with
  | .inl b :: .inl a :: rest => match O.2.1 op a b with
    | some z => kn loc (.inl z :: rest) h
    | none => sp
  | _ => sp
def mj_neg : α := match st with
  | .inl a :: rest => match O.2.1 9 a a with
    | some z => kn loc (.inl z :: rest) h
    | none => sp
  | _ => sp
noncomputable def mj_iinc (i : Nat) (n : Int) : α := match mj_nth loc i with
  | some (some (.inl v)) => match O.2.1 0 v (O.1 n) with
    | some z => kn (mj_put loc i (some (.inl z))) st h
    | none => sp
  | _ => sp
def mj_icmp (c : Jvm.ClassFile.Cond) : α := match st with
  | .inl b :: .inl a :: rest => match O.2.2.1 c a b with
    | some true => kj x rest
    | some false => kn loc rest h
    | none => sp
  | _ => sp
def mj_ifc (c : Jvm.ClassFile.Cond) : α := match st with
  | .inl a :: rest => match O.2.2.1 c a (O.1 0) with
    | some true => kj x rest
    | some false => kn loc rest h
    | none => sp
  | _ => sp
noncomputable def mj_tab (lo hi : Int) : α := match st with
  | .inl a :: rest => match O.2.2.2 a with
    | some z => match decide (z < lo) || decide (hi < z) with
      | true => kj x rest
      | false => match mj_nth xs (z - lo).toNat with
        | some t => kj t rest
        | none => sp
    | none => sp
  | _ => sp
noncomputable def mj_ald (tag : Nat) : α := match st with
  | .inl i :: .inr (some a) :: rest => match mj_nth h a with
    | some (.inl (t, n, f)) => match Nat.beq t tag, O.2.2.2 i with
      | true, some z => match mj_ix z n with
        | some k => kn loc (.inl (f k) :: rest) h
        | none => sp
      | _, _ => sp
    | _ => sp
  | _ => sp
noncomputable def mj_ast : α := match st with
  | .inl v :: .inl i :: .inr (some a) :: rest => match mj_nth h a, Nat.ble 4 a with
    | some (.inl (0, n, f)), true => match O.2.2.2 i with
      | some z => match mj_ix z n with
        | some k => kn loc rest (mj_put h a (.inl (0, n, mj_upd f k v)))
        | none => sp
      | none => sp
    | _, _ => sp
  | _ => sp
/-- 0 or 1 -/
def mj_bit (v : Option Int) : Bool := match v with
  | some (.ofNat 0) => true
  | some (.ofNat 1) => true
  | _ => false
noncomputable def mj_bst : α := match st with
  | .inl v :: .inl i :: .inr (some a) :: rest => match mj_nth h a, Nat.ble 4 a, mj_bit (O.2.2.2 v) with
    | some (.inl (1, n, f)), true, true => match O.2.2.2 i with
      | some z => match mj_ix z n with
        | some k => kn loc rest (mj_put h a (.inl (1, n, mj_upd f k v)))
        | none => sp
      | none => sp
    | _, _, _ => sp
  | _ => sp
noncomputable def mj_aald : α := match st with
  | .inl i :: .inr (some a) :: rest => match mj_nth h a with
    | some (.inr (.inl (n, f))) => match O.2.2.2 i, Nat.ble 4 a with
      | some z, true => match mj_ix z n with
        | some k => match f k with
          | some b => kn loc (.inr (some b) :: rest) h
          | none => sp
        | none => sp
      | _, _ => sp
    | _ => sp
  | _ => sp
noncomputable def mj_aast : α := match st with
  | .inr (some b) :: .inl i :: .inr (some a) :: rest => match mj_nth h a, Nat.ble 4 a, mj_nth h b, Nat.ble 4 b with
    | some (.inr (.inl (n, f))), true, some (.inr (.inr (7, _))), true => match O.2.2.2 i with
      | some z => match mj_ix z n with
        | some k => kn loc rest (mj_put h a (.inr (.inl (n, mj_upd f k (some b)))))
        | none => sp
      | none => sp
    | _, _, _, _ => sp
  | _ => sp
noncomputable def mj_alen : α := match st with
  | .inr (some a) :: rest => match mj_nth h a with
    | some (.inl (_, n, _)) => kn loc (.inl (O.1 (Int.ofNat n)) :: rest) h
    | some (.inr (.inl (n, _))) => match Nat.ble 4 a with
      | true => kn loc (.inl (O.1 (Int.ofNat n)) :: rest) h
      | false => sp
    | _ => sp
  | _ => sp
noncomputable def mj_getf : α := match st, xs with
  | .inr (some a) :: rest, ci :: _ => match mj_nth h a with
    | some (.inr (.inr (c, fs))) => match Nat.beq c ci, Nat.ble 4 a, mj_nth fs x with
      | true, true, some v => kn loc (v :: rest) h
      | _, _, _ => sp
    | _ => sp
  | _, _ => sp
/-- a value that a field of a kind takes: 0 an int, 1 a boolean, 2 a reference -/
def mj_fit (kind : Nat) (v : mj_v V) : Bool := match kind, v with
  | 0, .inl _ => true
  | 1, .inl a => mj_bit (O.2.2.2 a)
  | 2, .inr _ => true
  | _, _ => false
noncomputable def mj_putf : α := match st, xs with
  | v :: .inr (some a) :: rest, ci :: _ :: kind :: _ => match mj_nth h a with
    | some (.inr (.inr (c, fs))) => match Nat.beq c ci, Nat.ble 4 a, mj_nth fs x, mj_fit O kind v with
      | true, true, some _, true => kn loc rest (mj_put h a (.inr (.inr (c, mj_put fs x v))))
      | _, _, _, _ => sp
    | _ => sp
  | _, _ => sp
/-- the fields of a new object -/
noncomputable def mj_dfl (ks : List Nat) : List (mj_v V) := List.rec (motive := fun _ => List (mj_v V)) [] (fun k _ ih => (match k with
    | 2 => .inr none
    | _ => .inl (O.1 0)) :: ih) ks
noncomputable def mj_new : α := match xs with
  | _ :: _ :: _ :: ks => kn loc (.inr (some (mj_len h)) :: st) (mj_app h (.inr (.inr (x, mj_dfl O ks))))
  | _ => sp
noncomputable def mj_newa (tag : Nat) : α := match st with
  | .inl a :: rest => match O.2.2.2 a with
    | some (.ofNat n) => match Nat.ble n 100000 with
      | true => kn loc (.inr (some (mj_len h)) :: rest) (mj_app h (.inl (tag, n, fun _ => O.1 0)))
      | false => sp
    | _ => sp
  | _ => sp
noncomputable def mj_anew : α := match st with
  | .inl a :: rest => match O.2.2.2 a with
    | some (.ofNat n) => match Nat.ble n 100000 with
      | true => kn loc (.inr (some (mj_len h)) :: rest) (mj_app h (.inr (.inl (n, fun _ => none))))
      | false => sp
    | _ => sp
  | _ => sp
def mj_cpy (f g : Nat → V) (s d n : Nat) : Nat → V := fun k => match Nat.ble d k && Nat.ble (k + 1) (d + n) with
  | true => f (s + (k - d))
  | false => g k
noncomputable def mj_acopy : α := match st with
  | .inl n :: .inl dp :: .inr (some b) :: .inl sp0 :: .inr (some a) :: rest => match mj_nth h a, mj_nth h b, Nat.ble 4 b with
    | some (.inl (0, n0, f)), some (.inl (0, n1, g)), true => match O.2.2.2 n, O.2.2.2 dp, O.2.2.2 sp0 with
      | some (.ofNat n), some (.ofNat dp), some (.ofNat sp0) => match Nat.ble (sp0 + n) n0, Nat.ble (dp + n) n1, Nat.ble (mj_len rest) 8 with
        | true, true, true => kn loc rest (mj_put h b (.inl (0, n1, mj_cpy f g sp0 dp n)))
        | _, _, _ => sp
      | _, _, _ => sp
    | _, _, _ => sp
  | _ => sp
/-- the receiver of a call is an object of the class -/
noncomputable def mj_isof (ci : Nat) (v : mj_v V) : Bool := match v with
  | .inr (some a) => match mj_nth h a with
    | some (.inr (.inr (c, _))) => Nat.beq c ci && Nat.ble 4 a
    | _ => false
  | _ => false
noncomputable def mj_call : α := match xs with
  | n :: ml :: recv :: _ => match mj_args n st [] with
    | some (as, rest) => match Nat.ble (mj_len rest) 8, recv, as with
      | true, 0, as => kc x ml as rest
      | true, ci + 1, a :: as => match mj_isof h ci a with
        | true => kc x ml (a :: as) rest
        | false => sp
      | _, _, _ => sp
    | none => sp
  | _ => sp
noncomputable def mj_spec : α := match Nat.beq x 100000 with
  | true => match st with
    | .inr (some _) :: rest => match Nat.ble (mj_len rest) 8 with
      | true => kn loc rest h
      | false => sp
    | _ => sp
  | false => mj_call x xs st h kc sp
noncomputable def mj_stat : α := match Nat.beq x 100001 with
  | true => mj_acopy O loc st h kn sp
  | false => mj_call x xs st h kc sp
def mj_iret : α := match st with
  | [.inl v] => match x with
    | 0 => kr (some (.inl v))
    | _ => match mj_bit (O.2.2.2 v) with
      | true => kr (some (.inl v))
      | false => sp
  | _ => sp
def mj_aret : α := match st with
  | [.inr (some a)] => kr (some (.inr (some a)))
  | _ => sp
def mj_vret : α := match st with
  | [] => kr none
  | _ => sp
def mj_dup : α := match st with
  | v :: rest => kn loc (v :: v :: rest) h
  | _ => sp
def mj_dup2 : α := match st with
  | v :: w :: rest => kn loc (v :: w :: v :: w :: rest) h
  | _ => sp
def mj_pop : α := match st with
  | _ :: rest => kn loc rest h
  | _ => sp
/-- one instruction -/
noncomputable def mj_step (ins : Instr) : α := match ins with
  | .iload i => mj_iload loc st h kn sp i
  | .iload_n i => mj_iload loc st h kn sp i.val
  | .aload i => mj_aload loc st h kn sp i
  | .aload_n i => mj_aload loc st h kn sp i.val
  | .istore i => mj_istore loc st h kn sp i
  | .istore_n i => mj_istore loc st h kn sp i.val
  | .astore i => mj_astore loc st h kn sp i
  | .astore_n i => mj_astore loc st h kn sp i.val
  | .iconst n => kn loc (.inl (O.1 n) :: st) h
  | .bipush n => kn loc (.inl (O.1 n) :: st) h
  | .sipush n => kn loc (.inl (O.1 n) :: st) h
  | .ldc _ => kn loc (.inl (O.1 (Int.ofNat x - 2147483648)) :: st) h
  | .ldc_w _ => kn loc (.inl (O.1 (Int.ofNat x - 2147483648)) :: st) h
  | .iadd => mj_bin O loc st h kn sp 0
  | .isub => mj_bin O loc st h kn sp 1
  | .imul => mj_bin O loc st h kn sp 2
  | .idiv => mj_bin O loc st h kn sp 3
  | .irem => mj_bin O loc st h kn sp 4
  | .ishl => mj_bin O loc st h kn sp 5
  | .ishr => mj_bin O loc st h kn sp 6
  | .iand => mj_bin O loc st h kn sp 7
  | .ior => mj_bin O loc st h kn sp 8
  | .ineg => mj_neg O loc st h kn sp
  | .iinc i n => mj_iinc O loc st h kn sp i n
  | .if_icmp c _ => mj_icmp O x loc st h kn kj sp c
  | .ifCond c _ => mj_ifc O x loc st h kn kj sp c
  | .goto _ => kj x st
  | .tableswitch _ lo hi _ => mj_tab O x xs st kj sp lo hi
  | .dup => mj_dup loc st h kn sp
  | .dup2 => mj_dup2 loc st h kn sp
  | .pop => mj_pop loc st h kn sp
  | .iaload => mj_ald O loc st h kn sp 0
  | .baload => mj_ald O loc st h kn sp 1
  | .iastore => mj_ast O loc st h kn sp
  | .bastore => mj_bst O loc st h kn sp
  | .aaload => mj_aald O loc st h kn sp
  | .aastore => mj_aast O loc st h kn sp
  | .arraylength => mj_alen O loc st h kn sp
  | .getfield _ => mj_getf x xs loc st h kn sp
  | .putfield _ => mj_putf O x xs loc st h kn sp
  | .getstatic _ => kn loc (.inr (some x) :: st) h
  | .new _ => mj_new O x xs loc st h kn sp
  | .newarray .int => mj_newa O loc st h kn sp 0
  | .newarray .boolean => mj_newa O loc st h kn sp 1
  | .anewarray _ => mj_anew O loc st h kn sp
  | .invokevirtual _ => mj_call x xs st h kc sp
  | .invokespecial _ => mj_spec x xs loc st h kn kc sp
  | .invokestatic _ => mj_stat O x xs loc st h kn kc sp
  | .ireturn => mj_iret O x st kr sp
  | .areturn => mj_aret st kr sp
  | .return_ => mj_vret st kr sp
  | _ => sp
end
/-- a method's run: fuel, how deep calls may go, its code, what of it comes, locals, stack, heap; the answer and the heap behind it -/
noncomputable def mj_exec {V : Type} (O : mj_O V) (cds : List (List mj_r)) (n : Nat) : Nat → List mj_r → List mj_r → mj_l V → mj_s V → mj_h V → Option (Option (mj_v V) × mj_h V) :=
  Nat.rec (motive := fun _ => Nat → List mj_r → List mj_r → mj_l V → mj_s V → mj_h V → Option (Option (mj_v V) × mj_h V)) (fun _ _ _ _ _ _ => none)
    (fun _ ih d cd suf loc st h => match suf with
      | [] => none
      | r :: tl => mj_step O r.2.2.1 r.2.2.2 loc st h (fun loc st h => ih d cd tl loc st h) (fun j st => ih d cd (mj_drop j cd) loc st h)
          (fun k ml as rest => match d, mj_nth cds k with
            | d + 1, some cd' => match ih d cd' cd' (mj_ent ml as) [] h with
              | some (v, h1) => ih (d + 1) cd tl loc (match v with
                | none => rest
                | some v => v :: rest) h1
              | none => none
            | _, _ => none)
          (fun v => some (v, h)) none r.2.1) n
