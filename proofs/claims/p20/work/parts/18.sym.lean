section
/-! ===== a symbolic run: ints are numbers (by 2^31 more), or one of seven unknowns, each within bounds ===== -/
abbrev sy_K : Type := List (Nat × Nat)
/-- the number, where it is known -/
noncomputable def sy_cst (K : sy_K) (v : Nat) : Option Nat := match Nat.ble v 4294967295 with
  | true => some v
  | false => match mj_nth K (v - 4294967296) with
    | some (lo, hi) => match Nat.beq lo hi with
      | true => some lo
      | false => none
    | none => none
noncomputable def sy_iv (K : sy_K) (v : Nat) : Option (Nat × Nat) := match Nat.ble v 4294967295 with
  | true => some (v, v)
  | false => mj_nth K (v - 4294967296)
def sy_int (c : Nat) : Int := match Nat.ble 2147483648 c with
  | true => .ofNat (c - 2147483648)
  | false => .negSucc (2147483647 - c)
def sy_inj (n : Int) : Nat := match n with
  | .ofNat k => (k + 2147483648) % 4294967296
  | .negSucc k => (4294967296 + 2147483647 - k % 4294967296) % 4294967296
/-- a sum, a difference, a product within bounds; one bit; the lowest five bits of the first unknown are the seventh -/
noncomputable def sy_bin (K : sy_K) (op a b : Nat) : Option Nat := match sy_cst K a, sy_cst K b with
  | some x, some y => match op with
    | 0 => match Nat.ble 2147483648 (x + y) && Nat.ble (x + y) 6442450943 with
      | true => some (x + y - 2147483648)
      | false => none
    | 1 => match Nat.ble y (x + 2147483648) && Nat.ble (x + 2147483648) (y + 4294967295) with
      | true => some (x + 2147483648 - y)
      | false => none
    | 2 => match Nat.ble 2147483648 x && Nat.ble 2147483648 y && Nat.ble ((x - 2147483648) * (y - 2147483648)) 2147483647 with
      | true => some ((x - 2147483648) * (y - 2147483648) + 2147483648)
      | false => none
    | 5 => match Nat.beq x 2147483649 && Nat.ble 2147483648 y && Nat.ble y 2147483678 with
      | true => some (2 ^ (y - 2147483648) + 2147483648)
      | false => none
    | _ => none
  | _, some y => match op with
    | 7 => match Nat.beq a 4294967296 && Nat.beq y 2147483679 with
      | true => some 4294967302
      | false => none
    | _ => none
  | _, _ => none
noncomputable def sy_lt (K : sy_K) (a b : Nat) : Option Bool := match sy_iv K a, sy_iv K b with
  | some (al, ah), some (bl, bh) => match Nat.ble (ah + 1) bl with
    | true => some true
    | false => match Nat.ble bh al with
      | true => some false
      | false => none
  | _, _ => none
noncomputable def sy_eq (K : sy_K) (a b : Nat) : Option Bool := match sy_iv K a, sy_iv K b with
  | some (al, ah), some (bl, bh) => match Nat.beq al ah && Nat.beq bl bh && Nat.beq al bl with
    | true => some true
    | false => match Nat.ble (ah + 1) bl || Nat.ble (bh + 1) al with
      | true => some false
      | false => none
  | _, _ => none
def sy_not (q : Option Bool) : Option Bool := match q with
  | some true => some false
  | some false => some true
  | none => none
noncomputable def sy_cmp (K : sy_K) (c : Jvm.ClassFile.Cond) (a b : Nat) : Option Bool := match c with
  | .eq => sy_eq K a b
  | .ne => sy_not (sy_eq K a b)
  | .lt => sy_lt K a b
  | .ge => sy_not (sy_lt K a b)
  | .gt => sy_lt K b a
  | .le => sy_not (sy_lt K b a)
noncomputable def sy_val (K : sy_K) (a : Nat) : Option Int := match sy_cst K a with
  | some c => some (sy_int c)
  | none => none
noncomputable def sy_O (K : sy_K) : mj_O Nat := (sy_inj, sy_bin K, sy_cmp K, sy_val K)
/-- an unknown is below, at, or above a number -/
noncomputable def sy_cut (K : sy_K) (i c : Nat) : List sy_K := match mj_nth K i with
  | some (lo, hi) => (match Nat.ble (lo + 1) c with
      | true => [mj_put K i (lo, (match Nat.ble c hi with
        | true => c - 1
        | false => hi))]
      | false => []) ++ ((match Nat.ble lo c && Nat.ble c hi with
      | true => [mj_put K i (c, c)]
      | false => []) ++ (match Nat.ble (c + 1) hi with
      | true => [mj_put K i ((match Nat.ble lo c with
        | true => c + 1
        | false => lo), hi)]
      | false => []))
  | none => [K]
/-- where an unknown on the stack is cut: at a number that it is compared with, or in its middle -/
noncomputable def sy_mid (K : sy_K) (v : Nat) : Option (Nat × Nat) := match Nat.ble v 4294967295 with
  | true => none
  | false => match mj_nth K (v - 4294967296) with
    | some (lo, hi) => match Nat.ble (hi - lo) 4096 && Nat.ble (lo + 1) hi with
      | true => some (v - 4294967296, (lo + hi) / 2)
      | false => none
    | none => none
noncomputable def sy_two (K : sy_K) (a b : Nat) : Option (Nat × Nat) := match sy_cst K a, sy_cst K b with
  | none, some c => some (a - 4294967296, c)
  | some c, none => some (b - 4294967296, c)
  | _, _ => none
noncomputable def sy_or (a b : Option (Nat × Nat)) : Option (Nat × Nat) := match a with
  | some q => some q
  | none => b
noncomputable def sy_pick (K : sy_K) (ins : Instr) (st : mj_s Nat) : Option (Nat × Nat) := match ins with
  | .if_icmp _ _ => match st with
    | .inl b :: .inl a :: _ => sy_two K a b
    | _ => none
  | .ifCond _ _ => match st with
    | .inl a :: _ => sy_two K a 2147483648
    | _ => none
  | .tableswitch _ lo hi _ => match st with
    | .inl a :: _ => match sy_iv K a with
      | some (al, ah) => match Nat.ble (al + 1) (sy_inj lo) && Nat.ble (sy_inj lo) ah with
        | true => some (a - 4294967296, sy_inj lo)
        | false => match Nat.ble al (sy_inj hi) && Nat.ble (sy_inj hi + 1) ah with
          | true => some (a - 4294967296, sy_inj hi)
          | false => sy_mid K a
      | none => none
    | _ => none
  | .iastore => match st with
    | _ :: .inl a :: _ => sy_mid K a
    | _ => none
  | _ => match st with
    | .inl b :: .inl a :: _ => sy_or (sy_mid K b) (sy_mid K a)
    | .inl b :: _ => sy_mid K b
    | _ => none
noncomputable def sy_all {α : Type} (l : List α) (f : α → Bool) : Bool := List.rec (motive := fun _ => Bool) true (fun a _ ih => match f a with
  | true => ih
  | false => false) l
/-- a number that no way of a switch has -/
noncomputable def sy_tabo (K : sy_K) (ins : Instr) (st : mj_s Nat) : Option (mj_s Nat) := match ins with
  | .tableswitch _ lo hi _ => match st with
    | .inl a :: rest => match sy_iv K a with
      | some (al, ah) => match (Nat.ble (ah + 1) (sy_inj lo) || Nat.ble (sy_inj hi + 1) al) && (decide (sy_int (sy_inj lo) = lo) && decide (sy_int (sy_inj hi) = hi)) with
        | true => some rest
        | false => none
      | none => none
    | _ => none
  | _ => none
/-- the symbolic run: true, if all ways end where 'k' holds; 'it': methods whose answer is known otherwise -/
noncomputable def sy_run (it : sy_K → Nat → Nat → List (mj_v Nat) → mj_h Nat → Option (Option (mj_v Nat) × mj_h Nat)) (cds : List (List mj_r)) (n : Nat) : Nat → sy_K → List mj_r → List mj_r → mj_l Nat → mj_s Nat → mj_h Nat → (sy_K → Option (mj_v Nat) → mj_h Nat → Bool) → Bool :=
  Nat.rec (motive := fun _ => Nat → sy_K → List mj_r → List mj_r → mj_l Nat → mj_s Nat → mj_h Nat → (sy_K → Option (mj_v Nat) → mj_h Nat → Bool) → Bool) (fun _ _ _ _ _ _ _ _ => false)
    (fun _ ih d K cd suf loc st h k => match suf with
      | [] => false
      | r :: tl => match mj_step (α := Option Bool) (sy_O K) r.2.2.1 r.2.2.2 loc st h (fun loc st h => some (ih d K cd tl loc st h k)) (fun j st => some (ih d K cd (mj_drop j cd) loc st h k))
          (fun m ml as rest => match d with
            | d + 1 => match Nat.ble 2 d, it K m ml as h with
              | true, some (v, h1) => some (ih (d + 1) K cd tl loc (match v with
                | none => rest
                | some v => v :: rest) h1 k)
              | _, _ => match mj_nth cds m with
                | some cd' => some (ih d K cd' cd' (mj_ent ml as) [] h (fun K' v h1 => ih (d + 1) K' cd tl loc (match v with
                  | none => rest
                  | some v => v :: rest) h1 k))
                | none => none
            | 0 => none)
          (fun v => some (k K v h)) none r.2.1 with
        | some b => b
        | none => match sy_tabo K r.2.1 st with
          | some rest => ih d K cd (mj_drop r.2.2.1 cd) loc rest h k
          | none => match sy_pick K r.2.1 st with
            | some (i, c) => sy_all (sy_cut K i c) (fun K' => ih d K' cd (r :: tl) loc st h k)
            | none => false) n
noncomputable def sy_fn (l : List Nat) : Nat → Nat := fun j => match mj_nth l j with
  | some v => v + 2147483648
  | none => 2147483648
noncomputable def sy_old (L : Nat) : mj_h Nat := [.inl (0, L, fun j => j + 4294967296), .inl (0, 6, sy_fn [8, 0, 0, 10, 1, 10]), .inl (0, 6, sy_fn [64, 1, 1, 80, 3, 90]), .inl (0, 6, sy_fn [16, 1, 1, 40, 1, 60])]
noncomputable def sy_sz (h : mj_h Nat) : Nat := List.rec (motive := fun _ => Nat) 0 (fun c _ ih => (match c with
  | .inl (_, n, _) => n
  | .inr (.inl (n, _)) => n
  | .inr (.inr (_, fs)) => mj_len fs) + ih) h
/-- the law's end: the answer is 1, the room is kept -/
noncomputable def sy_fin (K : sy_K) (v : Option (mj_v Nat)) (h : mj_h Nat) : Bool := match v with
  | some (.inl a) => match sy_cst K a with
    | some c => Nat.beq c 2147483649 && (Nat.ble (mj_len h) 600000 && Nat.ble (sy_sz h) 7302250)
    | none => false
  | _ => false
noncomputable def sy_law (it : sy_K → Nat → Nat → List (mj_v Nat) → mj_h Nat → Option (Option (mj_v Nat) × mj_h Nat)) (L n : Nat) (K : sy_K) : Bool := sy_run it mj_cds n 30 K kL_law kL_law [some (.inr (some 0)), none, none, none] [] (sy_old L) sy_fin
noncomputable def sy_it0 : sy_K → Nat → Nat → List (mj_v Nat) → mj_h Nat → Option (Option (mj_v Nat) × mj_h Nat) := fun _ _ _ _ _ => none
end
section
/-! ===== one step over two kinds of ints ===== -/
section
variable {V V' : Type} (g : V → V')
def mg_v (v : mj_v V) : mj_v V' := match v with
  | .inl x => .inl (g x)
  | .inr r => .inr r
def mg_o (v : Option (mj_v V)) : Option (mj_v V') := match v with
  | some v => some (mg_v g v)
  | none => none
def mg_l (l : mj_l V) : mj_l V' := l.map (mg_o g)
def mg_s (l : mj_s V) : mj_s V' := l.map (mg_v g)
def mg_c (c : mj_c V) : mj_c V' := match c with
  | .inl (t, n, f) => .inl (t, n, fun j => g (f j))
  | .inr (.inl q) => .inr (.inl q)
  | .inr (.inr (c, fs)) => .inr (.inr (c, mg_s g fs))
def mg_h (h : mj_h V) : mj_h V' := h.map (mg_c g)
end
theorem mg_nth {α β : Type} (f : α → β) (l : List α) (n : Nat) : mj_nth (l.map f) n = (mj_nth l n).map f := by rw [mj_nth_eq, mj_nth_eq, List.getElem?_map]
theorem mg_put {α β : Type} (f : α → β) (l : List α) (n : Nat) (x : α) : (mj_put l n x).map f = mj_put (l.map f) n (f x) := by rw [mj_put_eq, mj_put_eq, List.map_set]
theorem mg_app {α β : Type} (f : α → β) (l : List α) (x : α) : (mj_app l x).map f = mj_app (l.map f) (f x) := by rw [mj_app_eq, mj_app_eq, List.map_append]; rfl
theorem mg_len {α β : Type} (f : α → β) (l : List α) : mj_len (l.map f) = mj_len l := by rw [mj_len_eq, mj_len_eq, List.length_map]
section
variable {V V' : Type} {g : V → V'}
theorem mg_sc (v : mj_v V) (l : mj_s V) : mg_s g (v :: l) = mg_v g v :: mg_s g l := rfl
theorem mg_sn : mg_s g ([] : mj_s V) = [] := rfl
theorem mg_vl (x : V) : mg_v g (.inl x) = .inl (g x) := rfl
theorem mg_vr (r : Option Nat) : mg_v g (.inr r : mj_v V) = .inr r := rfl
theorem mg_upd (f : Nat → V) (k : Nat) (v : V) : (fun j => g (mj_upd f k v j)) = mj_upd (fun j => g (f j)) k (g v) := by
  rw [mj_upd_eq, mj_upd_eq]
  funext j
  by_cases h : j = k
  · simp [h]
  · simp [h]
theorem mg_cpy (f f' : Nat → V) (s d n : Nat) : (fun j => g (mj_cpy f f' s d n j)) = mj_cpy (fun j => g (f j)) (fun j => g (f' j)) s d n := by
  rw [mj_cpy_eq, mj_cpy_eq]
  funext j
  unfold va_cpy
  split <;> rfl
theorem mg_args : ∀ (n : Nat) (st : mj_s V) (acc : List (mj_v V)), mj_args n (mg_s g st) (mg_s g acc) = (mj_args n st acc).map fun q => (mg_s g q.1, mg_s g q.2) := by
  intro n
  induction n with
  | zero => intro st acc; rfl
  | succ n ih =>
    intro st acc
    cases st with
    | nil => rfl
    | cons v st => exact ih st (v :: acc)
theorem mg_ent : ∀ (n : Nat) (as : List (mj_v V)), mg_l g (mj_ent n as) = mj_ent n (mg_s g as) := by
  intro n
  induction n with
  | zero => intro as; rfl
  | succ n ih =>
    intro as
    cases as with
    | nil => show none :: mg_l g (mj_ent n []) = _; rw [ih]; rfl
    | cons a as => show some (mg_v g a) :: mg_l g (mj_ent n as) = _; rw [ih]; rfl
variable {α α' : Type} {O : mj_O V} {O' : mj_O V'} {Rel : α → α' → Prop} {x : Nat} {xs : List Nat} {loc : mj_l V} {st : mj_s V} {h : mj_h V}
  {kn : mj_l V → mj_s V → mj_h V → α} {kj : Nat → mj_s V → α} {kc : Nat → Nat → List (mj_v V) → mj_s V → α} {kr : Option (mj_v V) → α} {sp : α}
  {kn' : mj_l V' → mj_s V' → mj_h V' → α'} {kj' : Nat → mj_s V' → α'} {kc' : Nat → Nat → List (mj_v V') → mj_s V' → α'} {kr' : Option (mj_v V') → α'} {sp' : α'}
theorem rel_iload (Kn : ∀ l s h, Rel (kn l s h) (kn' (mg_l g l) (mg_s g s) (mg_h g h))) (Ks : ∀ a', Rel sp a') (i : Nat) : Rel (mj_iload loc st h kn sp i) (mj_iload (mg_l g loc) (mg_s g st) (mg_h g h) kn' sp' i) := by
  unfold mj_iload
  rw [show mj_nth (mg_l g loc) i = (mj_nth loc i).map (mg_o g) from mg_nth _ _ _]
  rcases mj_nth loc i with _ | (_ | (v | r))
  · exact Ks _
  · exact Ks _
  · exact Kn _ _ _
  · exact Ks _
theorem rel_aload (Kn : ∀ l s h, Rel (kn l s h) (kn' (mg_l g l) (mg_s g s) (mg_h g h))) (Ks : ∀ a', Rel sp a') (i : Nat) : Rel (mj_aload loc st h kn sp i) (mj_aload (mg_l g loc) (mg_s g st) (mg_h g h) kn' sp' i) := by
  unfold mj_aload
  rw [show mj_nth (mg_l g loc) i = (mj_nth loc i).map (mg_o g) from mg_nth _ _ _]
  rcases mj_nth loc i with _ | (_ | (v | (_ | a)))
  · exact Ks _
  · exact Ks _
  · exact Ks _
  · exact Ks _
  · exact Kn _ _ _
theorem rel_istore (Kn : ∀ l s h, Rel (kn l s h) (kn' (mg_l g l) (mg_s g s) (mg_h g h))) (Ks : ∀ a', Rel sp a') (i : Nat) : Rel (mj_istore loc st h kn sp i) (mj_istore (mg_l g loc) (mg_s g st) (mg_h g h) kn' sp' i) := by
  rcases st with _ | ⟨v | r, rest⟩
  · exact Ks _
  · have := Kn (mj_put loc i (some (.inl v))) rest h
    rw [show mg_l g (mj_put loc i (some (.inl v))) = mj_put (mg_l g loc) i (some (.inl (g v))) from mg_put _ _ _ _] at this
    exact this
  · exact Ks _
theorem rel_astore (Kn : ∀ l s h, Rel (kn l s h) (kn' (mg_l g l) (mg_s g s) (mg_h g h))) (Ks : ∀ a', Rel sp a') (i : Nat) : Rel (mj_astore loc st h kn sp i) (mj_astore (mg_l g loc) (mg_s g st) (mg_h g h) kn' sp' i) := by
  rcases st with _ | ⟨v | (_ | a), rest⟩
  · exact Ks _
  · exact Ks _
  · exact Ks _
  · have := Kn (mj_put loc i (some (.inr (some a)))) rest h
    rw [show mg_l g (mj_put loc i (some (.inr (some a)))) = mj_put (mg_l g loc) i (some (.inr (some a))) from mg_put _ _ _ _] at this
    exact this
theorem rel_bin (hbin : ∀ op a b z, O.2.1 op a b = some z → O'.2.1 op (g a) (g b) = some (g z)) (Kn : ∀ l s h, Rel (kn l s h) (kn' (mg_l g l) (mg_s g s) (mg_h g h))) (Ks : ∀ a', Rel sp a') (op : Nat) : Rel (mj_bin O loc st h kn sp op) (mj_bin O' (mg_l g loc) (mg_s g st) (mg_h g h) kn' sp' op) := by
  rcases st with _ | ⟨b | r, rest0⟩
  · exact Ks _
  · rcases rest0 with _ | ⟨a | r2, rest⟩
    · exact Ks _
    · show Rel (match O.2.1 op a b with
        | some z => kn loc (.inl z :: rest) h
        | none => sp) (match O'.2.1 op (g a) (g b) with
        | some z => kn' (mg_l g loc) (.inl z :: mg_s g rest) (mg_h g h)
        | none => sp')
      cases hz : O.2.1 op a b with
      | none => exact Ks _
      | some z => rw [hbin _ _ _ _ hz]; exact Kn _ _ _
    · exact Ks _
  · exact Ks _
theorem rel_neg (hbin : ∀ op a b z, O.2.1 op a b = some z → O'.2.1 op (g a) (g b) = some (g z)) (Kn : ∀ l s h, Rel (kn l s h) (kn' (mg_l g l) (mg_s g s) (mg_h g h))) (Ks : ∀ a', Rel sp a') : Rel (mj_neg O loc st h kn sp) (mj_neg O' (mg_l g loc) (mg_s g st) (mg_h g h) kn' sp') := by
  rcases st with _ | ⟨a | r, rest⟩
  · exact Ks _
  · show Rel (match O.2.1 9 a a with
      | some z => kn loc (.inl z :: rest) h
      | none => sp) (match O'.2.1 9 (g a) (g a) with
      | some z => kn' (mg_l g loc) (.inl z :: mg_s g rest) (mg_h g h)
      | none => sp')
    cases hz : O.2.1 9 a a with
    | none => exact Ks _
    | some z => rw [hbin _ _ _ _ hz]; exact Kn _ _ _
  · exact Ks _
theorem rel_iinc (hbin : ∀ op a b z, O.2.1 op a b = some z → O'.2.1 op (g a) (g b) = some (g z)) (hinj : ∀ n, g (O.1 n) = O'.1 n) (Kn : ∀ l s h, Rel (kn l s h) (kn' (mg_l g l) (mg_s g s) (mg_h g h))) (Ks : ∀ a', Rel sp a') (i : Nat) (n : Int) : Rel (mj_iinc O loc st h kn sp i n) (mj_iinc O' (mg_l g loc) (mg_s g st) (mg_h g h) kn' sp' i n) := by
  unfold mj_iinc
  rw [show mj_nth (mg_l g loc) i = (mj_nth loc i).map (mg_o g) from mg_nth _ _ _]
  rcases mj_nth loc i with _ | (_ | (v | r))
  · exact Ks _
  · exact Ks _
  · show Rel (match O.2.1 0 v (O.1 n) with
      | some z => kn (mj_put loc i (some (.inl z))) st h
      | none => sp) (match O'.2.1 0 (g v) (O'.1 n) with
      | some z => kn' (mj_put (mg_l g loc) i (some (.inl z))) (mg_s g st) (mg_h g h)
      | none => sp')
    cases hz : O.2.1 0 v (O.1 n) with
    | none => exact Ks _
    | some z =>
      rw [← hinj, hbin _ _ _ _ hz]
      have := Kn (mj_put loc i (some (.inl z))) st h
      rw [show mg_l g (mj_put loc i (some (.inl z))) = mj_put (mg_l g loc) i (some (.inl (g z))) from mg_put _ _ _ _] at this
      exact this
  · exact Ks _
theorem rel_icmp (hcmp : ∀ c a b q, O.2.2.1 c a b = some q → O'.2.2.1 c (g a) (g b) = some q) (Kn : ∀ l s h, Rel (kn l s h) (kn' (mg_l g l) (mg_s g s) (mg_h g h))) (Kj : ∀ j s, Rel (kj j s) (kj' j (mg_s g s))) (Ks : ∀ a', Rel sp a') (c : Jvm.ClassFile.Cond) : Rel (mj_icmp O x loc st h kn kj sp c) (mj_icmp O' x (mg_l g loc) (mg_s g st) (mg_h g h) kn' kj' sp' c) := by
  rcases st with _ | ⟨b | r, rest0⟩
  · exact Ks _
  · rcases rest0 with _ | ⟨a | r2, rest⟩
    · exact Ks _
    · show Rel (match O.2.2.1 c a b with
        | some true => kj x rest
        | some false => kn loc rest h
        | none => sp) (match O'.2.2.1 c (g a) (g b) with
        | some true => kj' x (mg_s g rest)
        | some false => kn' (mg_l g loc) (mg_s g rest) (mg_h g h)
        | none => sp')
      cases hz : O.2.2.1 c a b with
      | none => exact Ks _
      | some q =>
        rw [hcmp _ _ _ _ hz]
        cases q
        · exact Kn _ _ _
        · exact Kj _ _
    · exact Ks _
  · exact Ks _
theorem rel_ifc (hcmp : ∀ c a b q, O.2.2.1 c a b = some q → O'.2.2.1 c (g a) (g b) = some q) (hinj : ∀ n, g (O.1 n) = O'.1 n) (Kn : ∀ l s h, Rel (kn l s h) (kn' (mg_l g l) (mg_s g s) (mg_h g h))) (Kj : ∀ j s, Rel (kj j s) (kj' j (mg_s g s))) (Ks : ∀ a', Rel sp a') (c : Jvm.ClassFile.Cond) : Rel (mj_ifc O x loc st h kn kj sp c) (mj_ifc O' x (mg_l g loc) (mg_s g st) (mg_h g h) kn' kj' sp' c) := by
  rcases st with _ | ⟨a | r, rest⟩
  · exact Ks _
  · show Rel (match O.2.2.1 c a (O.1 0) with
        | some true => kj x rest
        | some false => kn loc rest h
        | none => sp) (match O'.2.2.1 c (g a) (O'.1 0) with
        | some true => kj' x (mg_s g rest)
        | some false => kn' (mg_l g loc) (mg_s g rest) (mg_h g h)
        | none => sp')
    rw [← hinj]
    cases hz : O.2.2.1 c a (O.1 0) with
    | none => exact Ks _
    | some q =>
      rw [hcmp _ _ _ _ hz]
      cases q
      · exact Kn _ _ _
      · exact Kj _ _
  · exact Ks _
theorem rel_tab (hval : ∀ a z, O.2.2.2 a = some z → O'.2.2.2 (g a) = some z) (Kj : ∀ j s, Rel (kj j s) (kj' j (mg_s g s))) (Ks : ∀ a', Rel sp a') (lo hi : Int) : Rel (mj_tab O x xs st kj sp lo hi) (mj_tab O' x xs (mg_s g st) kj' sp' lo hi) := by
  rcases st with _ | ⟨a | r, rest⟩
  · exact Ks _
  · simp only [mg_sc, mg_vl, mg_vr]
    unfold mj_tab
    (try dsimp only)
    cases hz : O.2.2.2 a with
    | none => exact Ks _
    | some z =>
      rw [hval _ _ hz]
      (try dsimp only)
      cases decide (z < lo) || decide (hi < z) with
      | true => exact Kj _ _
      | false =>
        (try dsimp only)
        cases mj_nth xs (z - lo).toNat with
        | none => exact Ks _
        | some t => exact Kj _ _
  · exact Ks _
theorem rel_ald (hval : ∀ a z, O.2.2.2 a = some z → O'.2.2.2 (g a) = some z) (Kn : ∀ l s h, Rel (kn l s h) (kn' (mg_l g l) (mg_s g s) (mg_h g h))) (Ks : ∀ a', Rel sp a') (tag : Nat) : Rel (mj_ald O loc st h kn sp tag) (mj_ald O' (mg_l g loc) (mg_s g st) (mg_h g h) kn' sp' tag) := by
  rcases st with _ | ⟨i | r, rest0⟩
  · exact Ks _
  · rcases rest0 with _ | ⟨i2 | (_ | a), rest⟩
    · exact Ks _
    · exact Ks _
    · exact Ks _
    · simp only [mg_sc, mg_vl, mg_vr]
      unfold mj_ald
      (try dsimp only)
      rw [show mj_nth (mg_h g h) a = (mj_nth h a).map (mg_c g) from mg_nth _ _ _]
      rcases mj_nth h a with _ | (⟨t, n, f⟩ | (q | q))
      · exact Ks _
      · dsimp only [Option.map, mg_c]
        cases Nat.beq t tag with
        | false => cases O.2.2.2 i <;> exact Ks _
        | true =>
          cases hz : O.2.2.2 i with
          | none => exact Ks _
          | some z =>
            rw [hval _ _ hz]
            (try dsimp only)
            cases mj_ix z n with
            | none => exact Ks _
            | some k => exact Kn _ _ _
      · exact Ks _
      · exact Ks _
  · exact Ks _
theorem rel_ast (hval : ∀ a z, O.2.2.2 a = some z → O'.2.2.2 (g a) = some z) (Kn : ∀ l s h, Rel (kn l s h) (kn' (mg_l g l) (mg_s g s) (mg_h g h))) (Ks : ∀ a', Rel sp a') : Rel (mj_ast O loc st h kn sp) (mj_ast O' (mg_l g loc) (mg_s g st) (mg_h g h) kn' sp') := by
  rcases st with _ | ⟨v | r, rest0⟩
  · exact Ks _
  · rcases rest0 with _ | ⟨i | r2, rest1⟩
    · exact Ks _
    · rcases rest1 with _ | ⟨i2 | (_ | a), rest⟩
      · exact Ks _
      · exact Ks _
      · exact Ks _
      · simp only [mg_sc, mg_vl, mg_vr]
        unfold mj_ast
        (try dsimp only)
        rw [show mj_nth (mg_h g h) a = (mj_nth h a).map (mg_c g) from mg_nth _ _ _]
        rcases hc : mj_nth h a with _ | (⟨t, n, f⟩ | (q | q))
        · exact Ks _
        · dsimp only [Option.map, mg_c]
          cases Nat.ble 4 a with
          | false => rcases t with _ | t <;> exact Ks _
          | true =>
            rcases t with _ | t
            · (try dsimp only)
              cases hz : O.2.2.2 i with
              | none => exact Ks _
              | some z =>
                rw [hval _ _ hz]
                show Rel (match mj_ix z n with
                  | some k => kn loc rest (mj_put h a (.inl (0, n, mj_upd f k v)))
                  | none => sp) (match mj_ix z n with
                  | some k => kn' (mg_l g loc) (mg_s g rest) (mj_put (mg_h g h) a (.inl (0, n, mj_upd (fun j => g (f j)) k (g v))))
                  | none => sp')
                cases mj_ix z n with
                | none => exact Ks _
                | some k =>
                  have := Kn loc rest (mj_put h a (.inl (0, n, mj_upd f k v)))
                  rw [show mg_h g (mj_put h a (.inl (0, n, mj_upd f k v))) = mj_put (mg_h g h) a (.inl (0, n, mj_upd (fun j => g (f j)) k (g v))) by
                    unfold mg_h; rw [mg_put]; show mj_put _ a (Sum.inl (0, n, fun j => g (mj_upd f k v j))) = _; rw [mg_upd]] at this
                  exact this
            · exact Ks _
        · exact Ks _
        · exact Ks _
    · exact Ks _
  · exact Ks _
theorem rel_bst (hval : ∀ a z, O.2.2.2 a = some z → O'.2.2.2 (g a) = some z) (Kn : ∀ l s h, Rel (kn l s h) (kn' (mg_l g l) (mg_s g s) (mg_h g h))) (Ks : ∀ a', Rel sp a') : Rel (mj_bst O loc st h kn sp) (mj_bst O' (mg_l g loc) (mg_s g st) (mg_h g h) kn' sp') := by
  rcases st with _ | ⟨v | r, rest0⟩
  · exact Ks _
  · rcases rest0 with _ | ⟨i | r2, rest1⟩
    · exact Ks _
    · rcases rest1 with _ | ⟨i2 | (_ | a), rest⟩
      · exact Ks _
      · exact Ks _
      · exact Ks _
      · simp only [mg_sc, mg_vl, mg_vr]
        unfold mj_bst
        (try dsimp only)
        rw [show mj_nth (mg_h g h) a = (mj_nth h a).map (mg_c g) from mg_nth _ _ _]
        rcases hc : mj_nth h a with _ | (⟨t, n, f⟩ | (q | q))
        · exact Ks _
        · dsimp only [Option.map, mg_c]
          cases Nat.ble 4 a with
          | false => rcases t with _ | _ | t <;> exact Ks _
          | true =>
            rcases t with _ | _ | t
            · exact Ks _
            · cases hb : O.2.2.2 v with
              | none => exact Ks _
              | some w =>
                rw [hval _ _ hb]
                cases mj_bit (some w) with
                | false => exact Ks _
                | true =>
                  (try dsimp only)
                  cases hz : O.2.2.2 i with
                  | none => exact Ks _
                  | some z =>
                    rw [hval _ _ hz]
                    show Rel (match mj_ix z n with
                      | some k => kn loc rest (mj_put h a (.inl (1, n, mj_upd f k v)))
                      | none => sp) (match mj_ix z n with
                      | some k => kn' (mg_l g loc) (mg_s g rest) (mj_put (mg_h g h) a (.inl (1, n, mj_upd (fun j => g (f j)) k (g v))))
                      | none => sp')
                    cases mj_ix z n with
                    | none => exact Ks _
                    | some k =>
                      have := Kn loc rest (mj_put h a (.inl (1, n, mj_upd f k v)))
                      rw [show mg_h g (mj_put h a (.inl (1, n, mj_upd f k v))) = mj_put (mg_h g h) a (.inl (1, n, mj_upd (fun j => g (f j)) k (g v))) by
                        unfold mg_h; rw [mg_put]; show mj_put _ a (Sum.inl (1, n, fun j => g (mj_upd f k v j))) = _; rw [mg_upd]] at this
                      exact this
            · exact Ks _
        · exact Ks _
        · exact Ks _
    · exact Ks _
  · exact Ks _
theorem rel_aald (hval : ∀ a z, O.2.2.2 a = some z → O'.2.2.2 (g a) = some z) (Kn : ∀ l s h, Rel (kn l s h) (kn' (mg_l g l) (mg_s g s) (mg_h g h))) (Ks : ∀ a', Rel sp a') : Rel (mj_aald O loc st h kn sp) (mj_aald O' (mg_l g loc) (mg_s g st) (mg_h g h) kn' sp') := by
  rcases st with _ | ⟨i | r, rest0⟩
  · exact Ks _
  · rcases rest0 with _ | ⟨i2 | (_ | a), rest⟩
    · exact Ks _
    · exact Ks _
    · exact Ks _
    · simp only [mg_sc, mg_vl, mg_vr]
      unfold mj_aald
      (try dsimp only)
      rw [show mj_nth (mg_h g h) a = (mj_nth h a).map (mg_c g) from mg_nth _ _ _]
      rcases mj_nth h a with _ | (q | (⟨n, f⟩ | q))
      · exact Ks _
      · exact Ks _
      · dsimp only [Option.map, mg_c]
        cases hz : O.2.2.2 i with
        | none => cases Nat.ble 4 a <;> exact Ks _
        | some z =>
          rw [hval _ _ hz]
          cases Nat.ble 4 a with
          | false => exact Ks _
          | true =>
            (try dsimp only)
            cases mj_ix z n with
            | none => exact Ks _
            | some k =>
              (try dsimp only)
              cases f k with
              | none => exact Ks _
              | some b => exact Kn _ _ _
      · exact Ks _
  · exact Ks _
theorem rel_aast (hval : ∀ a z, O.2.2.2 a = some z → O'.2.2.2 (g a) = some z) (Kn : ∀ l s h, Rel (kn l s h) (kn' (mg_l g l) (mg_s g s) (mg_h g h))) (Ks : ∀ a', Rel sp a') : Rel (mj_aast O loc st h kn sp) (mj_aast O' (mg_l g loc) (mg_s g st) (mg_h g h) kn' sp') := by
  rcases st with _ | ⟨b0 | (_ | b), rest0⟩
  · exact Ks _
  · exact Ks _
  · exact Ks _
  · rcases rest0 with _ | ⟨i | r, rest1⟩
    · exact Ks _
    · rcases rest1 with _ | ⟨i2 | (_ | a), rest⟩
      · exact Ks _
      · exact Ks _
      · exact Ks _
      · simp only [mg_sc, mg_vl, mg_vr]
        unfold mj_aast
        (try dsimp only)
        rw [show mj_nth (mg_h g h) a = (mj_nth h a).map (mg_c g) from mg_nth _ _ _, show mj_nth (mg_h g h) b = (mj_nth h b).map (mg_c g) from mg_nth _ _ _]
        split
        · rename_i n f fs ha h4 hb h5
          rw [ha, h4, hb, h5]
          dsimp only [Option.map, mg_c]
          cases hz : O.2.2.2 i with
          | none => exact Ks _
          | some z =>
            rw [hval _ _ hz]
            show Rel (match mj_ix z n with
              | some k => kn loc rest (mj_put h a (.inr (.inl (n, mj_upd f k (some b)))))
              | none => sp) (match mj_ix z n with
              | some k => kn' (mg_l g loc) (mg_s g rest) (mj_put (mg_h g h) a (.inr (.inl (n, mj_upd f k (some b)))))
              | none => sp')
            cases mj_ix z n with
            | none => exact Ks _
            | some k =>
              have := Kn loc rest (mj_put h a (.inr (.inl (n, mj_upd f k (some b)))))
              rw [show mg_h g (mj_put h a (.inr (.inl (n, mj_upd f k (some b))))) = mj_put (mg_h g h) a (.inr (.inl (n, mj_upd f k (some b)))) from mg_put _ _ _ _] at this
              exact this
        · exact Ks _
    · exact Ks _
theorem rel_alen (hinj : ∀ n, g (O.1 n) = O'.1 n) (Kn : ∀ l s h, Rel (kn l s h) (kn' (mg_l g l) (mg_s g s) (mg_h g h))) (Ks : ∀ a', Rel sp a') : Rel (mj_alen O loc st h kn sp) (mj_alen O' (mg_l g loc) (mg_s g st) (mg_h g h) kn' sp') := by
  rcases st with _ | ⟨i | (_ | a), rest⟩
  · exact Ks _
  · exact Ks _
  · exact Ks _
  · simp only [mg_sc, mg_vl, mg_vr]
    unfold mj_alen
    (try dsimp only)
    rw [show mj_nth (mg_h g h) a = (mj_nth h a).map (mg_c g) from mg_nth _ _ _]
    rcases mj_nth h a with _ | (⟨t, n, f⟩ | (⟨n, f⟩ | q))
    · exact Ks _
    · dsimp only [Option.map, mg_c]
      rw [← hinj]
      exact Kn _ _ _
    · dsimp only [Option.map, mg_c]
      cases Nat.ble 4 a with
      | false => exact Ks _
      | true =>
        (try dsimp only)
        rw [← hinj]
        exact Kn _ _ _
    · exact Ks _
theorem rel_getf (Kn : ∀ l s h, Rel (kn l s h) (kn' (mg_l g l) (mg_s g s) (mg_h g h))) (Ks : ∀ a', Rel sp a') : Rel (mj_getf x xs loc st h kn sp) (mj_getf x xs (mg_l g loc) (mg_s g st) (mg_h g h) kn' sp') := by
  rcases st with _ | ⟨i | (_ | a), rest⟩
  · exact Ks _
  · exact Ks _
  · exact Ks _
  · rcases xs with _ | ⟨ci, xs⟩
    · exact Ks _
    · simp only [mg_sc, mg_vl, mg_vr]
      unfold mj_getf
      (try dsimp only)
      rw [show mj_nth (mg_h g h) a = (mj_nth h a).map (mg_c g) from mg_nth _ _ _]
      rcases mj_nth h a with _ | (q | (q | ⟨c, fs⟩))
      · exact Ks _
      · exact Ks _
      · exact Ks _
      · dsimp only [Option.map, mg_c]
        rw [show mj_nth (mg_s g fs) x = (mj_nth fs x).map (mg_v g) from mg_nth _ _ _]
        cases Nat.beq c ci with
        | false => cases Nat.ble 4 a <;> cases mj_nth fs x <;> exact Ks _
        | true =>
          cases Nat.ble 4 a with
          | false => cases mj_nth fs x <;> exact Ks _
          | true =>
            cases mj_nth fs x with
            | none => exact Ks _
            | some v => exact Kn _ _ _
theorem mg_fit (hval : ∀ a z, O.2.2.2 a = some z → O'.2.2.2 (g a) = some z) (kind : Nat) (v : mj_v V) (h : mj_fit O kind v = true) : mj_fit O' kind (mg_v g v) = true := by
  unfold mj_fit at h
  split at h
  · rfl
  · rename_i a
    cases hz : O.2.2.2 a with
    | none => rw [hz] at h; cases h
    | some z =>
      rw [hz] at h
      show mj_bit (O'.2.2.2 (g a)) = true
      rw [hval _ _ hz]
      exact h
  · rfl
  · cases h
theorem rel_putf (hval : ∀ a z, O.2.2.2 a = some z → O'.2.2.2 (g a) = some z) (Kn : ∀ l s h, Rel (kn l s h) (kn' (mg_l g l) (mg_s g s) (mg_h g h))) (Ks : ∀ a', Rel sp a') : Rel (mj_putf O x xs loc st h kn sp) (mj_putf O' x xs (mg_l g loc) (mg_s g st) (mg_h g h) kn' sp') := by
  rcases st with _ | ⟨v, rest0⟩
  · exact Ks _
  · rcases rest0 with _ | ⟨i | (_ | a), rest⟩
    · exact Ks _
    · exact Ks _
    · exact Ks _
    · simp only [mg_sc, mg_vr]
      unfold mj_putf
      (try dsimp only)
      split
      · rename_i v0 a0 rest1 ci pw kind xs0 heq
        cases heq
        show Rel _ (match mj_nth (mg_h g h) a with
          | some (.inr (.inr (c, fs))) => match Nat.beq c ci, Nat.ble 4 a, mj_nth fs x, mj_fit O' kind (mg_v g v) with
            | true, true, some _, true => kn' (mg_l g loc) (mg_s g rest) (mj_put (mg_h g h) a (.inr (.inr (c, mj_put fs x (mg_v g v)))))
            | _, _, _, _ => sp'
          | _ => sp')
        rw [show mj_nth (mg_h g h) a = (mj_nth h a).map (mg_c g) from mg_nth _ _ _]
        rcases mj_nth h a with _ | (q | (q | ⟨c, fs⟩))
        · exact Ks _
        · exact Ks _
        · exact Ks _
        · dsimp only [Option.map, mg_c]
          rw [show mj_nth (mg_s g fs) x = (mj_nth fs x).map (mg_v g) from mg_nth _ _ _]
          split
          · rename_i w e1 e2 e3 e4
            rw [e1, e2, e3, mg_fit hval _ _ e4]
            dsimp only [Option.map]
            have := Kn loc rest (mj_put h a (.inr (.inr (c, mj_put fs x v))))
            rw [show mg_h g (mj_put h a (.inr (.inr (c, mj_put fs x v)))) = mj_put (mg_h g h) a (.inr (.inr (c, mj_put (mg_s g fs) x (mg_v g v)))) by
              unfold mg_h; rw [mg_put]; show mj_put _ a (Sum.inr (Sum.inr (c, (mj_put fs x v).map (mg_v g)))) = _; rw [mg_put]; rfl] at this
            exact this
          · exact Ks _
      · exact Ks _
theorem mg_dfl (hinj : ∀ n, g (O.1 n) = O'.1 n) (ks : List Nat) : mg_s g (mj_dfl O ks) = mj_dfl O' ks := by
  induction ks with
  | nil => rfl
  | cons k ks ih =>
    rw [mj_dfl_cons, mj_dfl_cons, ← ih, ← hinj]
    show mg_v g _ :: mg_s g _ = _
    congr 1
    split <;> rfl
theorem rel_new (hinj : ∀ n, g (O.1 n) = O'.1 n) (Kn : ∀ l s h, Rel (kn l s h) (kn' (mg_l g l) (mg_s g s) (mg_h g h))) (Ks : ∀ a', Rel sp a') : Rel (mj_new O x xs loc st h kn sp) (mj_new O' x xs (mg_l g loc) (mg_s g st) (mg_h g h) kn' sp') := by
  unfold mj_new
  split
  · rename_i p1 p2 p3 ks
    have := Kn loc (.inr (some (mj_len h)) :: st) (mj_app h (.inr (.inr (x, mj_dfl O ks))))
    rw [show mg_h g (mj_app h (.inr (.inr (x, mj_dfl O ks)))) = mj_app (mg_h g h) (.inr (.inr (x, mj_dfl O' ks))) by
      unfold mg_h; rw [mg_app]; show mj_app _ (Sum.inr (Sum.inr (x, mg_s g (mj_dfl O ks)))) = _; rw [mg_dfl hinj]] at this
    rw [show mj_len (mg_h g h) = mj_len h from mg_len _ _]
    exact this
  · exact Ks _
theorem rel_newa (hinj : ∀ n, g (O.1 n) = O'.1 n) (hval : ∀ a z, O.2.2.2 a = some z → O'.2.2.2 (g a) = some z) (Kn : ∀ l s h, Rel (kn l s h) (kn' (mg_l g l) (mg_s g s) (mg_h g h))) (Ks : ∀ a', Rel sp a') (tag : Nat) : Rel (mj_newa O loc st h kn sp tag) (mj_newa O' (mg_l g loc) (mg_s g st) (mg_h g h) kn' sp' tag) := by
  rcases st with _ | ⟨a | r, rest⟩
  · exact Ks _
  · simp only [mg_sc, mg_vl, mg_vr]
    unfold mj_newa
    (try dsimp only)
    cases hz : O.2.2.2 a with
    | none => exact Ks _
    | some z =>
      rw [hval _ _ hz]
      cases z with
      | negSucc k => exact Ks _
      | ofNat n =>
        (try dsimp only)
        cases Nat.ble n 100000 with
        | false => exact Ks _
        | true =>
          (try dsimp only)
          have := Kn loc (.inr (some (mj_len h)) :: rest) (mj_app h (.inl (tag, n, fun _ => O.1 0)))
          rw [show mg_h g (mj_app h (.inl (tag, n, fun _ => O.1 0))) = mj_app (mg_h g h) (.inl (tag, n, fun _ => O'.1 0)) by
            unfold mg_h; rw [mg_app]; show mj_app _ (Sum.inl (tag, n, fun _ => g (O.1 0))) = _; rw [hinj]] at this
          rw [show mj_len (mg_h g h) = mj_len h from mg_len _ _]
          exact this
  · exact Ks _
theorem rel_anew (hinj : ∀ n, g (O.1 n) = O'.1 n) (hval : ∀ a z, O.2.2.2 a = some z → O'.2.2.2 (g a) = some z) (Kn : ∀ l s h, Rel (kn l s h) (kn' (mg_l g l) (mg_s g s) (mg_h g h))) (Ks : ∀ a', Rel sp a') : Rel (mj_anew O loc st h kn sp) (mj_anew O' (mg_l g loc) (mg_s g st) (mg_h g h) kn' sp') := by
  rcases st with _ | ⟨a | r, rest⟩
  · exact Ks _
  · simp only [mg_sc, mg_vl, mg_vr]
    unfold mj_anew
    (try dsimp only)
    cases hz : O.2.2.2 a with
    | none => exact Ks _
    | some z =>
      rw [hval _ _ hz]
      cases z with
      | negSucc k => exact Ks _
      | ofNat n =>
        (try dsimp only)
        cases Nat.ble n 100000 with
        | false => exact Ks _
        | true =>
          (try dsimp only)
          have := Kn loc (.inr (some (mj_len h)) :: rest) (mj_app h (.inr (.inl (n, fun _ => none))))
          rw [show mg_h g (mj_app h (.inr (.inl (n, fun _ => none)))) = mj_app (mg_h g h) (.inr (.inl (n, fun _ => none))) by
            unfold mg_h; rw [mg_app]; rfl] at this
          rw [show mj_len (mg_h g h) = mj_len h from mg_len _ _]
          exact this
  · exact Ks _
theorem rel_acopy (hval : ∀ a z, O.2.2.2 a = some z → O'.2.2.2 (g a) = some z) (Kn : ∀ l s h, Rel (kn l s h) (kn' (mg_l g l) (mg_s g s) (mg_h g h))) (Ks : ∀ a', Rel sp a') : Rel (mj_acopy O loc st h kn sp) (mj_acopy O' (mg_l g loc) (mg_s g st) (mg_h g h) kn' sp') := by
  unfold mj_acopy
  split
  · rename_i n dp b sp0 a rest
    simp only [mg_sc, mg_vl, mg_vr]
    rw [show mj_nth (mg_h g h) a = (mj_nth h a).map (mg_c g) from mg_nth _ _ _, show mj_nth (mg_h g h) b = (mj_nth h b).map (mg_c g) from mg_nth _ _ _]
    split
    · rename_i n0 f n1 f' ha hb h4
      rw [ha, hb, h4]
      dsimp only [Option.map, mg_c]
      split
      · rename_i n' dp' sp1 e1 e2 e3
        rw [hval _ _ e1, hval _ _ e2, hval _ _ e3]
        (try dsimp only)
        rw [show mj_len (mg_s g rest) = mj_len rest from mg_len _ _]
        split
        · rename_i l1 l2 l3
          show Rel _ (match Nat.ble (sp1 + n') n0, Nat.ble (dp' + n') n1, Nat.ble (mj_len rest) 8 with
            | true, true, true => kn' (mg_l g loc) (mg_s g rest) (mj_put (mg_h g h) b (.inl (0, n1, mj_cpy (fun j => g (f j)) (fun j => g (f' j)) sp1 dp' n')))
            | _, _, _ => sp')
          rw [l1, l2, l3]
          (try dsimp only)
          have := Kn loc rest (mj_put h b (.inl (0, n1, mj_cpy f f' sp1 dp' n')))
          rw [show mg_h g (mj_put h b (.inl (0, n1, mj_cpy f f' sp1 dp' n'))) = mj_put (mg_h g h) b (.inl (0, n1, mj_cpy (fun j => g (f j)) (fun j => g (f' j)) sp1 dp' n')) by
            unfold mg_h; rw [mg_put]; show mj_put _ b (Sum.inl (0, n1, fun j => g (mj_cpy f f' sp1 dp' n' j))) = _; rw [mg_cpy]] at this
          exact this
        · exact Ks _
      · exact Ks _
    · exact Ks _
  · exact Ks _
theorem mg_isof (ci : Nat) (v : mj_v V) : mj_isof (mg_h g h) ci (mg_v g v) = mj_isof h ci v := by
  rcases v with i | (_ | a)
  · rfl
  · rfl
  · unfold mj_isof mg_v
    (try dsimp only)
    rw [show mj_nth (mg_h g h) a = (mj_nth h a).map (mg_c g) from mg_nth _ _ _]
    rcases mj_nth h a with _ | (q | (q | q)) <;> rfl
theorem rel_call (Kc : ∀ k ml as rest, Rel (kc k ml as rest) (kc' k ml (mg_s g as) (mg_s g rest))) (Ks : ∀ a', Rel sp a') : Rel (mj_call x xs st h kc sp) (mj_call x xs (mg_s g st) (mg_h g h) kc' sp') := by
  unfold mj_call
  split
  · rename_i n ml recv xs0
    rw [show mj_args n (mg_s g st) [] = (mj_args n st []).map fun q => (mg_s g q.1, mg_s g q.2) from mg_args n st []]
    rcases mj_args n st [] with _ | ⟨as, rest⟩
    · exact Ks _
    · dsimp only [Option.map]
      rw [show mj_len (mg_s g rest) = mj_len rest from mg_len _ _]
      cases Nat.ble (mj_len rest) 8 with
      | false => rcases recv with _ | ci <;> rcases as with _ | ⟨a, as⟩ <;> exact Ks _
      | true =>
        rcases recv with _ | ci
        · exact Kc _ _ _ _
        · rcases as with _ | ⟨a, as⟩
          · exact Ks _
          · simp only [mg_sc]
            rw [mg_isof]
            cases mj_isof h ci a with
            | false => exact Ks _
            | true => exact Kc _ _ _ _
  · exact Ks _
theorem rel_iret (hval : ∀ a z, O.2.2.2 a = some z → O'.2.2.2 (g a) = some z) (Kr : ∀ v, Rel (kr v) (kr' (mg_o g v))) (Ks : ∀ a', Rel sp a') : Rel (mj_iret O x st kr sp) (mj_iret O' x (mg_s g st) kr' sp') := by
  unfold mj_iret
  split
  · rename_i v
    simp only [mg_sc, mg_sn, mg_vl]
    rcases x with _ | x
    · exact Kr (some (.inl v))
    · (try dsimp only)
      cases hz : O.2.2.2 v with
      | none => exact Ks _
      | some z =>
        rw [hval _ _ hz]
        cases mj_bit (some z) with
        | false => exact Ks _
        | true => exact Kr (some (.inl v))
  · exact Ks _
theorem rel_aret (Kr : ∀ v, Rel (kr v) (kr' (mg_o g v))) (Ks : ∀ a', Rel sp a') : Rel (mj_aret st kr sp) (mj_aret (mg_s g st) kr' sp') := by
  unfold mj_aret
  split
  · exact Kr (some (.inr (some _)))
  · exact Ks _
theorem rel_vret (Kr : ∀ v, Rel (kr v) (kr' (mg_o g v))) (Ks : ∀ a', Rel sp a') : Rel (mj_vret st kr sp) (mj_vret (mg_s g st) kr' sp') := by
  rcases st with _ | ⟨v, rest⟩
  · exact Kr none
  · exact Ks _
theorem rel_dup (Kn : ∀ l s h, Rel (kn l s h) (kn' (mg_l g l) (mg_s g s) (mg_h g h))) (Ks : ∀ a', Rel sp a') : Rel (mj_dup loc st h kn sp) (mj_dup (mg_l g loc) (mg_s g st) (mg_h g h) kn' sp') := by
  rcases st with _ | ⟨v, rest⟩
  · exact Ks _
  · exact Kn _ _ _
theorem rel_dup2 (Kn : ∀ l s h, Rel (kn l s h) (kn' (mg_l g l) (mg_s g s) (mg_h g h))) (Ks : ∀ a', Rel sp a') : Rel (mj_dup2 loc st h kn sp) (mj_dup2 (mg_l g loc) (mg_s g st) (mg_h g h) kn' sp') := by
  rcases st with _ | ⟨v, _ | ⟨w, rest⟩⟩
  · exact Ks _
  · exact Ks _
  · exact Kn _ _ _
theorem rel_pop (Kn : ∀ l s h, Rel (kn l s h) (kn' (mg_l g l) (mg_s g s) (mg_h g h))) (Ks : ∀ a', Rel sp a') : Rel (mj_pop loc st h kn sp) (mj_pop (mg_l g loc) (mg_s g st) (mg_h g h) kn' sp') := by
  rcases st with _ | ⟨v, rest⟩
  · exact Ks _
  · exact Kn _ _ _
set_option maxHeartbeats 4000000 in
theorem mj_step_rel (hinj : ∀ n, g (O.1 n) = O'.1 n) (hbin : ∀ op a b z, O.2.1 op a b = some z → O'.2.1 op (g a) (g b) = some (g z)) (hcmp : ∀ c a b q, O.2.2.1 c a b = some q → O'.2.2.1 c (g a) (g b) = some q) (hval : ∀ a z, O.2.2.2 a = some z → O'.2.2.2 (g a) = some z) (Kn : ∀ l s h, Rel (kn l s h) (kn' (mg_l g l) (mg_s g s) (mg_h g h))) (Kj : ∀ j s, Rel (kj j s) (kj' j (mg_s g s))) (Kc : ∀ k ml as rest, Rel (kc k ml as rest) (kc' k ml (mg_s g as) (mg_s g rest))) (Kr : ∀ v, Rel (kr v) (kr' (mg_o g v))) (Ks : ∀ a', Rel sp a') (ins : Instr) : Rel (mj_step O x xs loc st h kn kj kc kr sp ins) (mj_step O' x xs (mg_l g loc) (mg_s g st) (mg_h g h) kn' kj' kc' kr' sp' ins) := by
  have hc : ∀ n, Rel (kn loc (.inl (O.1 n) :: st) h) (kn' (mg_l g loc) (.inl (O'.1 n) :: mg_s g st) (mg_h g h)) := fun n => by rw [← hinj]; exact Kn _ _ _
  cases ins with
  | iload i => exact rel_iload Kn Ks i
  | iload_n i => exact rel_iload Kn Ks i.val
  | aload i => exact rel_aload Kn Ks i
  | aload_n i => exact rel_aload Kn Ks i.val
  | istore i => exact rel_istore Kn Ks i
  | istore_n i => exact rel_istore Kn Ks i.val
  | astore i => exact rel_astore Kn Ks i
  | astore_n i => exact rel_astore Kn Ks i.val
  | iconst n => exact hc n
  | bipush n => exact hc n
  | sipush n => exact hc n
  | ldc i => exact hc _
  | ldc_w i => exact hc _
  | iadd => exact rel_bin hbin Kn Ks 0
  | isub => exact rel_bin hbin Kn Ks 1
  | imul => exact rel_bin hbin Kn Ks 2
  | idiv => exact rel_bin hbin Kn Ks 3
  | irem => exact rel_bin hbin Kn Ks 4
  | ishl => exact rel_bin hbin Kn Ks 5
  | ishr => exact rel_bin hbin Kn Ks 6
  | iand => exact rel_bin hbin Kn Ks 7
  | ior => exact rel_bin hbin Kn Ks 8
  | ineg => exact rel_neg hbin Kn Ks
  | iinc i n => exact rel_iinc hbin hinj Kn Ks i n
  | if_icmp c o => exact rel_icmp hcmp Kn Kj Ks c
  | ifCond c o => exact rel_ifc hcmp hinj Kn Kj Ks c
  | goto o => exact Kj _ _
  | tableswitch d lo hi o => exact rel_tab hval Kj Ks lo hi
  | dup => exact rel_dup Kn Ks
  | dup2 => exact rel_dup2 Kn Ks
  | pop => exact rel_pop Kn Ks
  | iaload => exact rel_ald hval Kn Ks 0
  | baload => exact rel_ald hval Kn Ks 1
  | iastore => exact rel_ast hval Kn Ks
  | bastore => exact rel_bst hval Kn Ks
  | aaload => exact rel_aald hval Kn Ks
  | aastore => exact rel_aast hval Kn Ks
  | arraylength => exact rel_alen hinj Kn Ks
  | getfield i => exact rel_getf Kn Ks
  | putfield i => exact rel_putf hval Kn Ks
  | getstatic i => exact Kn _ _ _
  | new i => exact rel_new hinj Kn Ks
  | anewarray i => exact rel_anew hinj hval Kn Ks
  | invokevirtual i => exact rel_call Kc Ks
  | ireturn => exact rel_iret hval Kr Ks
  | areturn => exact rel_aret Kr Ks
  | return_ => exact rel_vret Kr Ks
  | newarray t => cases t <;> first | exact rel_newa hinj hval Kn Ks 0 | exact rel_newa hinj hval Kn Ks 1 | exact Ks _
  | invokespecial i =>
    show Rel (mj_spec x xs loc st h kn kc sp) (mj_spec x xs (mg_l g loc) (mg_s g st) (mg_h g h) kn' kc' sp')
    unfold mj_spec
    cases Nat.beq x 100000 with
    | false => exact rel_call Kc Ks
    | true =>
      rcases st with _ | ⟨i | (_ | a), rest⟩
      · exact Ks _
      · exact Ks _
      · exact Ks _
      · simp only [mg_sc, mg_vr]
        rw [show mj_len (mg_s g rest) = mj_len rest from mg_len _ _]
        cases Nat.ble (mj_len rest) 8 with
        | false => exact Ks _
        | true => exact Kn _ _ _
  | invokestatic i =>
    show Rel (mj_stat O x xs loc st h kn kc sp) (mj_stat O' x xs (mg_l g loc) (mg_s g st) (mg_h g h) kn' kc' sp')
    unfold mj_stat
    cases Nat.beq x 100001 with
    | false => exact rel_call Kc Ks
    | true => exact rel_acopy hval Kn Ks
  | _ => exact Ks _
end
end
section
/-! ===== more fuel does no harm; runs without their fuel ===== -/
theorem mg_v_id {V : Type} (v : mj_v V) : mg_v id v = v := by rcases v with x | r <;> rfl
theorem mg_o_id {V : Type} (v : Option (mj_v V)) : mg_o id v = v := by
  cases v with
  | none => rfl
  | some v => show some (mg_v id v) = _; rw [mg_v_id]
theorem mg_s_id {V : Type} (l : mj_s V) : mg_s id l = l := by
  unfold mg_s
  rw [show (mg_v id : mj_v V → mj_v V) = id from funext mg_v_id, List.map_id]
theorem mg_l_id {V : Type} (l : mj_l V) : mg_l id l = l := by
  unfold mg_l
  rw [show (mg_o id : Option (mj_v V) → Option (mj_v V)) = id from funext mg_o_id, List.map_id]
theorem mg_c_id {V : Type} (c : mj_c V) : mg_c id c = c := by
  rcases c with ⟨t, n, f⟩ | (q | ⟨c, fs⟩)
  · rfl
  · rfl
  · show Sum.inr (Sum.inr (c, mg_s id fs)) = _
    rw [mg_s_id]
theorem mg_h_id {V : Type} (h : mj_h V) : mg_h id h = h := by
  unfold mg_h
  rw [show (mg_c id : mj_c V → mj_c V) = id from funext mg_c_id, List.map_id]
theorem mj_kc_mk {V : Type} {ex : Nat → List mj_r → List mj_r → mj_l V → mj_s V → mj_h V → Option (Option (mj_v V) × mj_h V)} {cds : List (List mj_r)} {d' : Nat} {cd tl cd' : List mj_r} {loc : mj_l V} {h h1 : mj_h V} {k ml : Nat} {as : List (mj_v V)} {rest : mj_s V} {v : Option (mj_v V)} {R0 : Option (mj_v V) × mj_h V}
    (h1' : cds[k]? = some cd') (e1 : ex d' cd' cd' (mj_ent ml as) [] h = some (v, h1)) (e2 : ex (d' + 1) cd tl loc (v.toList ++ rest) h1 = some R0) : mj_kc ex cds (d' + 1) cd tl loc h k ml as rest = some R0 := by
  unfold mj_kc
  rw [mj_nth_eq, h1']
  dsimp only
  rw [e1]
  cases v <;> exact e2
theorem mj_mono1 {V : Type} {O : mj_O V} {cds : List (List mj_r)} : ∀ (N d : Nat) (cd suf : List mj_r) (loc : mj_l V) (st : mj_s V) (h : mj_h V) (R0 : Option (mj_v V) × mj_h V), mj_exec O cds N d cd suf loc st h = some R0 → mj_exec O cds (N + 1) d cd suf loc st h = some R0 := by
  intro N
  induction N with
  | zero =>
    intro d cd suf loc st h R0 hE
    have hE : (none : Option (Option (mj_v V) × mj_h V)) = some R0 := hE
    cases hE
  | succ N ih =>
    intro d cd suf loc st h R0 hE
    cases suf with
    | nil =>
      have hE : (none : Option (Option (mj_v V) × mj_h V)) = some R0 := hE
      cases hE
    | cons r tl =>
      rw [mj_exec_succ] at hE ⊢
      have := mj_step_rel (g := id) (O := O) (O' := O) (Rel := fun o o' => ∀ R, o = some R → o' = some R) (x := r.2.2.1) (xs := r.2.2.2) (loc := loc) (st := st) (h := h)
        (kn := fun loc st h => mj_exec O cds N d cd tl loc st h) (kj := fun j st => mj_exec O cds N d cd (mj_drop j cd) loc st h) (kc := mj_kc (mj_exec O cds N) cds d cd tl loc h) (kr := fun v => some (v, h)) (sp := none)
        (kn' := fun loc st h => mj_exec O cds (N + 1) d cd tl loc st h) (kj' := fun j st => mj_exec O cds (N + 1) d cd (mj_drop j cd) loc st h) (kc' := mj_kc (mj_exec O cds (N + 1)) cds d cd tl loc h) (kr' := fun v => some (v, h)) (sp' := none)
        (fun _ => rfl) (fun _ _ _ _ h => h) (fun _ _ _ _ h => h) (fun _ _ h => h)
        (fun l s h' R e => by rw [mg_l_id, mg_s_id, mg_h_id]; exact ih _ _ _ _ _ _ _ e)
        (fun j s R e => by rw [mg_s_id]; exact ih _ _ _ _ _ _ _ e)
        (fun k ml as rest R e => by
          rw [mg_s_id, mg_s_id]
          obtain ⟨d', cd', v, h2, rfl, h3, e1, e2⟩ := mj_kc_spec e
          exact mj_kc_mk h3 (ih _ _ _ _ _ _ _ e1) (ih _ _ _ _ _ _ _ e2))
        (fun v R e => by rw [mg_o_id]; exact e) (fun a' R e => by cases e) r.2.1
      rw [mg_l_id, mg_s_id, mg_h_id] at this
      exact this _ hE
theorem mj_mono {V : Type} {O : mj_O V} {cds : List (List mj_r)} {N M d : Nat} {cd suf : List mj_r} {loc : mj_l V} {st : mj_s V} {h : mj_h V} {R0 : Option (mj_v V) × mj_h V} (hle : N ≤ M) (hE : mj_exec O cds N d cd suf loc st h = some R0) : mj_exec O cds M d cd suf loc st h = some R0 := by
  induction hle with
  | refl => exact hE
  | step _ ih => exact mj_mono1 _ _ _ _ _ _ _ _ ih
/-- it runs, and ends so -/
def mj_Rn (d : Nat) (cd suf : List mj_r) (loc : mj_l Int32) (st : mj_s Int32) (h : mj_h Int32) (R0 : Option (mj_v Int32) × mj_h Int32) : Prop := ∃ N, mj_exec mj_I mj_cds N d cd suf loc st h = some R0
/-- the calls of a run -/
def mj_Kc (d : Nat) (cd tl : List mj_r) (loc : mj_l Int32) (h : mj_h Int32) (R0 : Option (mj_v Int32) × mj_h Int32) (k ml : Nat) (as : List (mj_v Int32)) (rest : mj_s Int32) : Prop := ∃ d' cd' v h1, d = d' + 1 ∧ mj_cds[k]? = some cd' ∧ mj_Rn d' cd' cd' (mj_ent ml as) [] h (v, h1) ∧ mj_Rn d cd tl loc (v.toList ++ rest) h1 R0
theorem mj_step_at {V β γ : Type} {O : mj_O V} {x : Nat} {xs : List Nat} {loc : mj_l V} {st : mj_s V} {h : mj_h V} {kn : mj_l V → mj_s V → mj_h V → γ → β} {kj : Nat → mj_s V → γ → β} {kc : Nat → Nat → List (mj_v V) → mj_s V → γ → β} {kr : Option (mj_v V) → γ → β} {sp : γ → β} (N : γ) (ins : Instr) :
    mj_step O x xs loc st h (fun l s h => kn l s h N) (fun j s => kj j s N) (fun k ml as rest => kc k ml as rest N) (fun v => kr v N) (sp N) ins = mj_step O x xs loc st h kn kj kc kr sp ins N ∨ mj_step O x xs loc st h kn kj kc kr sp ins = sp := by
  have := mj_step_rel (g := id) (O := O) (O' := O) (Rel := fun (f : γ → β) (b : β) => b = f N ∨ f = sp) (x := x) (xs := xs) (loc := loc) (st := st) (h := h) (kn := kn) (kj := kj) (kc := kc) (kr := kr) (sp := sp)
    (kn' := fun l s h => kn l s h N) (kj' := fun j s => kj j s N) (kc' := fun k ml as rest => kc k ml as rest N) (kr' := fun v => kr v N) (sp' := sp N)
    (fun _ => rfl) (fun _ _ _ _ h => h) (fun _ _ _ _ h => h) (fun _ _ h => h)
    (fun l s h' => by rw [mg_l_id, mg_s_id, mg_h_id]; exact Or.inl rfl) (fun j s => by rw [mg_s_id]; exact Or.inl rfl) (fun k ml as rest => by rw [mg_s_id, mg_s_id]; exact Or.inl rfl) (fun v => by rw [mg_o_id]; exact Or.inl rfl) (fun a' => Or.inr rfl) ins
  rw [mg_l_id, mg_s_id, mg_h_id] at this
  exact this
/-- a step of a run -/
theorem mj_Rn.step {d : Nat} {cd tl : List mj_r} {r : mj_r} {loc : mj_l Int32} {st : mj_s Int32} {h : mj_h Int32} {R0 : Option (mj_v Int32) × mj_h Int32}
    (hs : mj_step (α := Prop) mj_I r.2.2.1 r.2.2.2 loc st h (fun loc st h => mj_Rn d cd tl loc st h R0) (fun j st => mj_Rn d cd (mj_drop j cd) loc st h R0) (mj_Kc d cd tl loc h R0) (fun v => (v, h) = R0) False r.2.1) : mj_Rn d cd (r :: tl) loc st h R0 := by
  have := mj_step_rel (g := id) (O := mj_I) (O' := mj_I) (Rel := fun (P : Prop) (f : Nat → Option (Option (mj_v Int32) × mj_h Int32)) => P → ∃ N, ∀ M, N ≤ M → f M = some R0) (x := r.2.2.1) (xs := r.2.2.2) (loc := loc) (st := st) (h := h)
    (kn := fun loc st h => mj_Rn d cd tl loc st h R0) (kj := fun j st => mj_Rn d cd (mj_drop j cd) loc st h R0) (kc := mj_Kc d cd tl loc h R0) (kr := fun v => (v, h) = R0) (sp := False)
    (kn' := fun loc st h N => mj_exec mj_I mj_cds N d cd tl loc st h) (kj' := fun j st N => mj_exec mj_I mj_cds N d cd (mj_drop j cd) loc st h) (kc' := fun k ml as rest N => mj_kc (mj_exec mj_I mj_cds N) mj_cds d cd tl loc h k ml as rest) (kr' := fun v N => some (v, h)) (sp' := fun N => none)
    (fun _ => rfl) (fun _ _ _ _ h => h) (fun _ _ _ _ h => h) (fun _ _ h => h)
    (fun l s h' ⟨N, e⟩ => by rw [mg_l_id, mg_s_id, mg_h_id]; exact ⟨N, fun M hM => mj_mono hM e⟩)
    (fun j s ⟨N, e⟩ => by rw [mg_s_id]; exact ⟨N, fun M hM => mj_mono hM e⟩)
    (fun k ml as rest q => by
      rw [mg_s_id, mg_s_id]
      obtain ⟨d', cd', v, h2, rfl, h3, ⟨N1, e1⟩, ⟨N2, e2⟩⟩ := q
      exact ⟨max N1 N2, fun M hM => mj_kc_mk h3 (mj_mono (by omega) e1) (mj_mono (by omega) e2)⟩)
    (fun v e => by rw [mg_o_id]; exact ⟨0, fun M _ => by rw [e]⟩) (fun a' q => q.elim) r.2.1 hs
  rw [mg_l_id, mg_s_id, mg_h_id] at this
  obtain ⟨N, hN⟩ := this
  refine ⟨N + 1, ?_⟩
  rw [mj_exec_succ]
  have hq := hN N (Nat.le_refl _)
  rcases mj_step_at (O := mj_I) (x := r.2.2.1) (xs := r.2.2.2) (loc := loc) (st := st) (h := h) (kn := fun loc st h N => mj_exec mj_I mj_cds N d cd tl loc st h) (kj := fun j st N => mj_exec mj_I mj_cds N d cd (mj_drop j cd) loc st h) (kc := fun k ml as rest N => mj_kc (mj_exec mj_I mj_cds N) mj_cds d cd tl loc h k ml as rest) (kr := fun v N => some (v, h)) (sp := fun N => none) N r.2.1 with h1 | h1
  · exact h1.trans hq
  · rw [h1] at hq
    cases hq
end
