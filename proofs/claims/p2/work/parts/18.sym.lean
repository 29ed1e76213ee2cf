/-! ===== a symbolic run: ints are numbers (by 2^31 more), or one of seven unknowns, each within bounds ===== -/
abbrev sy_K : Type := List (Nat × Nat)
/-- the number, where it is known -/
noncomputable def sy_cst (K : sy_K) (v : Nat) : Option Nat := match Nat.ble v 4294967295 with
  | true => some v
  | false => match mj_nth K (v - 4294967296) with
    | some (lo, hi) => match Nat.beq lo hi with
      | true => some lo
      | false => none
    | none => none
noncomputable def sy_iv (K : sy_K) (v : Nat) : Option (Nat × Nat) := match Nat.ble v 4294967295 with
  | true => some (v, v)
  | false => mj_nth K (v - 4294967296)
def sy_int (c : Nat) : Int := match Nat.ble 2147483648 c with
  | true => .ofNat (c - 2147483648)
  | false => .negSucc (2147483647 - c)
def sy_inj (n : Int) : Nat := match n with
  | .ofNat k => (k + 2147483648) % 4294967296
  | .negSucc k => (4294967296 + 2147483647 - k % 4294967296) % 4294967296
/-- a sum, a difference, a product within bounds; one bit; the lowest five bits of the first unknown are the seventh -/
noncomputable def sy_bin (K : sy_K) (op a b : Nat) : Option Nat := match sy_cst K a, sy_cst K b with
  | some x, some y => match op with
    | 0 => match Nat.ble 2147483648 (x + y) && Nat.ble (x + y) 6442450943 with
      | true => some (x + y - 2147483648)
      | false => none
    | 1 => match Nat.ble y (x + 2147483648) && Nat.ble (x + 2147483648) (y + 4294967295) with
      | true => some (x + 2147483648 - y)
      | false => none
    | 2 => match Nat.ble 2147483648 x && Nat.ble 2147483648 y && Nat.ble ((x - 2147483648) * (y - 2147483648)) 2147483647 with
      | true => some ((x - 2147483648) * (y - 2147483648) + 2147483648)
      | false => none
    | 5 => match Nat.beq x 2147483649 && Nat.ble 2147483648 y && Nat.ble y 2147483678 with
      | true => some (2 ^ (y - 2147483648) + 2147483648)
      | false => none
    | _ => none
  | _, some y => match op with
    | 7 => match Nat.beq a 4294967296 && Nat.beq y 2147483679 with
      | true => some 4294967302
      | false => none
    | _ => none
  | _, _ => none
noncomputable def sy_lt (K : sy_K) (a b : Nat) : Option Bool := match sy_iv K a, sy_iv K b with
  | some (al, ah), some (bl, bh) => match Nat.ble (ah + 1) bl with
    | true => some true
    | false => match Nat.ble bh al with
      | true => some false
      | false => none
  | _, _ => none
noncomputable def sy_eq (K : sy_K) (a b : Nat) : Option Bool := match sy_iv K a, sy_iv K b with
  | some (al, ah), some (bl, bh) => match Nat.beq al ah && Nat.beq bl bh && Nat.beq al bl with
    | true => some true
    | false => match Nat.ble (ah + 1) bl || Nat.ble (bh + 1) al with
      | true => some false
      | false => none
  | _, _ => none
def sy_not (q : Option Bool) : Option Bool := match q with
  | some true => some false
  | some false => some true
  | none => none
noncomputable def sy_cmp (K : sy_K) (c : Jvm.ClassFile.Cond) (a b : Nat) : Option Bool := match c with
  | .eq => sy_eq K a b
  | .ne => sy_not (sy_eq K a b)
  | .lt => sy_lt K a b
  | .ge => sy_not (sy_lt K a b)
  | .gt => sy_lt K b a
  | .le => sy_not (sy_lt K b a)
noncomputable def sy_val (K : sy_K) (a : Nat) : Option Int := match sy_cst K a with
  | some c => some (sy_int c)
  | none => none
noncomputable def sy_O (K : sy_K) : mj_O Nat := (sy_inj, sy_bin K, sy_cmp K, sy_val K)
/-- an unknown is below, at, or above a number -/
noncomputable def sy_cut (K : sy_K) (i c : Nat) : List sy_K := match mj_nth K i with
  | some (lo, hi) => (match Nat.ble (lo + 1) c with
      | true => [mj_put K i (lo, (match Nat.ble c hi with
        | true => c - 1
        | false => hi))]
      | false => []) ++ ((match Nat.ble lo c && Nat.ble c hi with
      | true => [mj_put K i (c, c)]
      | false => []) ++ (match Nat.ble (c + 1) hi with
      | true => [mj_put K i ((match Nat.ble lo c with
        | true => c + 1
        | false => lo), hi)]
      | false => []))
  | none => [K]
/-- where an unknown on the stack is cut: at a number that it is compared with, or in its middle -/
noncomputable def sy_mid (K : sy_K) (v : Nat) : Option (Nat × Nat) := match Nat.ble v 4294967295 with
  | true => none
  | false => match mj_nth K (v - 4294967296) with
    | some (lo, hi) => match Nat.ble (hi - lo) 4096 && Nat.ble (lo + 1) hi with
      | true => some (v - 4294967296, (lo + hi) / 2)
      | false => none
    | none => none
noncomputable def sy_two (K : sy_K) (a b : Nat) : Option (Nat × Nat) := match sy_cst K a, sy_cst K b with
  | none, some c => some (a - 4294967296, c)
  | some c, none => some (b - 4294967296, c)
  | _, _ => none
noncomputable def sy_or (a b : Option (Nat × Nat)) : Option (Nat × Nat) := match a with
  | some q => some q
  | none => b
noncomputable def sy_pick (K : sy_K) (ins : Instr) (st : mj_s Nat) : Option (Nat × Nat) := match ins with
  | .if_icmp _ _ => match st with
    | .inl b :: .inl a :: _ => sy_two K a b
    | _ => none
  | .ifCond _ _ => match st with
    | .inl a :: _ => sy_two K a 2147483648
    | _ => none
  | .tableswitch _ lo hi _ => match st with
    | .inl a :: _ => match sy_iv K a with
      | some (al, ah) => match Nat.ble (al + 1) (sy_inj lo) && Nat.ble (sy_inj lo) ah with
        | true => some (a - 4294967296, sy_inj lo)
        | false => match Nat.ble al (sy_inj hi) && Nat.ble (sy_inj hi + 1) ah with
          | true => some (a - 4294967296, sy_inj hi)
          | false => sy_mid K a
      | none => none
    | _ => none
  | .iastore => match st with
    | _ :: .inl a :: _ => sy_mid K a
    | _ => none
  | _ => match st with
    | .inl b :: .inl a :: _ => sy_or (sy_mid K b) (sy_mid K a)
    | .inl b :: _ => sy_mid K b
    | _ => none
noncomputable def sy_all {α : Type} (l : List α) (f : α → Bool) : Bool := List.rec (motive := fun _ => Bool) true (fun a _ ih => match f a with
  | true => ih
  | false => false) l
/-- a number that no way of a switch has -/
noncomputable def sy_tabo (K : sy_K) (ins : Instr) (st : mj_s Nat) : Option (mj_s Nat) := match ins with
  | .tableswitch _ lo hi _ => match st with
    | .inl a :: rest => match sy_iv K a with
      | some (al, ah) => match (Nat.ble (ah + 1) (sy_inj lo) || Nat.ble (sy_inj hi + 1) al) && (decide (sy_int (sy_inj lo) = lo) && decide (sy_int (sy_inj hi) = hi)) with
        | true => some rest
        | false => none
      | none => none
    | _ => none
  | _ => none
/-- the symbolic run: true, if all ways end where 'k' holds; 'it': methods whose answer is known otherwise -/
noncomputable def sy_run (it : sy_K → Nat → Nat → List (mj_v Nat) → mj_h Nat → Option (Option (mj_v Nat) × mj_h Nat)) (cds : List (List mj_r)) (n : Nat) : Nat → sy_K → List mj_r → List mj_r → mj_l Nat → mj_s Nat → mj_h Nat → (sy_K → Option (mj_v Nat) → mj_h Nat → Bool) → Bool :=
  Nat.rec (motive := fun _ => Nat → sy_K → List mj_r → List mj_r → mj_l Nat → mj_s Nat → mj_h Nat → (sy_K → Option (mj_v Nat) → mj_h Nat → Bool) → Bool) (fun _ _ _ _ _ _ _ _ => false)
    (fun _ ih d K cd suf loc st h k => match suf with
      | [] => false
      | r :: tl => match mj_step (α := Option Bool) (sy_O K) r.2.2.1 r.2.2.2 loc st h (fun loc st h => some (ih d K cd tl loc st h k)) (fun j st => some (ih d K cd (mj_drop j cd) loc st h k))
          (fun m ml as rest => match d with
            | d + 1 => match Nat.ble 2 d, it K m ml as h with
              | true, some (v, h1) => some (ih (d + 1) K cd tl loc (match v with
                | none => rest
                | some v => v :: rest) h1 k)
              | _, _ => match mj_nth cds m with
                | some cd' => some (ih d K cd' cd' (mj_ent ml as) [] h (fun K' v h1 => ih (d + 1) K' cd tl loc (match v with
                  | none => rest
                  | some v => v :: rest) h1 k))
                | none => none
            | 0 => none)
          (fun v => some (k K v h)) none r.2.1 with
        | some b => b
        | none => match sy_tabo K r.2.1 st with
          | some rest => ih d K cd (mj_drop r.2.2.1 cd) loc rest h k
          | none => match sy_pick K r.2.1 st with
            | some (i, c) => sy_all (sy_cut K i c) (fun K' => ih d K' cd (r :: tl) loc st h k)
            | none => false) n
noncomputable def sy_fn (l : List Nat) : Nat → Nat := fun j => match mj_nth l j with
  | some v => v + 2147483648
  | none => 2147483648
noncomputable def sy_old (L : Nat) : mj_h Nat := [.inl (0, L, fun j => j + 4294967296), .inl (0, 6, sy_fn [8, 0, 0, 10, 1, 10]), .inl (0, 6, sy_fn [64, 1, 1, 80, 3, 90]), .inl (0, 6, sy_fn [16, 1, 1, 40, 1, 60])]
noncomputable def sy_sz (h : mj_h Nat) : Nat := List.rec (motive := fun _ => Nat) 0 (fun c _ ih => (match c with
  | .inl (_, n, _) => n
  | .inr (.inl (n, _)) => n
  | .inr (.inr (_, fs)) => mj_len fs) + ih) h
/-- the law's end: the answer is 1, the room is kept -/
noncomputable def sy_fin (K : sy_K) (v : Option (mj_v Nat)) (h : mj_h Nat) : Bool := match v with
  | some (.inl a) => match sy_cst K a with
    | some c => Nat.beq c 2147483649 && (Nat.ble (mj_len h) 600000 && Nat.ble (sy_sz h) 7302250)
    | none => false
  | _ => false
noncomputable def sy_law (it : sy_K → Nat → Nat → List (mj_v Nat) → mj_h Nat → Option (Option (mj_v Nat) × mj_h Nat)) (L n : Nat) (K : sy_K) : Bool := sy_run it mj_cds n 30 K kL_law kL_law [some (.inr (some 0)), none, none, none] [] (sy_old L) sy_fin
noncomputable def sy_it0 : sy_K → Nat → Nat → List (mj_v Nat) → mj_h Nat → Option (Option (mj_v Nat) × mj_h Nat) := fun _ _ _ _ _ => none
