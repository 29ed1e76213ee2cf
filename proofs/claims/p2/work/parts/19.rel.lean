/-! ===== one step over two kinds of ints ===== -/
section
variable {V V' : Type} (g : V → V')
def mg_v (v : mj_v V) : mj_v V' := match v with
  | .inl x => .inl (g x)
  | .inr r => .inr r
def mg_o (v : Option (mj_v V)) : Option (mj_v V') := match v with
  | some v => some (mg_v g v)
  | none => none
def mg_l (l : mj_l V) : mj_l V' := l.map (mg_o g)
def mg_s (l : mj_s V) : mj_s V' := l.map (mg_v g)
def mg_c (c : mj_c V) : mj_c V' := match c with
  | .inl (t, n, f) => .inl (t, n, fun j => g (f j))
  | .inr (.inl q) => .inr (.inl q)
  | .inr (.inr (c, fs)) => .inr (.inr (c, mg_s g fs))
def mg_h (h : mj_h V) : mj_h V' := h.map (mg_c g)
end
theorem mg_nth {α β : Type} (f : α → β) (l : List α) (n : Nat) : mj_nth (l.map f) n = (mj_nth l n).map f := by rw [mj_nth_eq, mj_nth_eq, List.getElem?_map]
theorem mg_put {α β : Type} (f : α → β) (l : List α) (n : Nat) (x : α) : (mj_put l n x).map f = mj_put (l.map f) n (f x) := by rw [mj_put_eq, mj_put_eq, List.map_set]
theorem mg_app {α β : Type} (f : α → β) (l : List α) (x : α) : (mj_app l x).map f = mj_app (l.map f) (f x) := by rw [mj_app_eq, mj_app_eq, List.map_append]; rfl
theorem mg_len {α β : Type} (f : α → β) (l : List α) : mj_len (l.map f) = mj_len l := by rw [mj_len_eq, mj_len_eq, List.length_map]
section
variable {V V' : Type} {g : V → V'}
theorem mg_sc (v : mj_v V) (l : mj_s V) : mg_s g (v :: l) = mg_v g v :: mg_s g l := rfl
theorem mg_sn : mg_s g ([] : mj_s V) = [] := rfl
theorem mg_vl (x : V) : mg_v g (.inl x) = .inl (g x) := rfl
theorem mg_vr (r : Option Nat) : mg_v g (.inr r : mj_v V) = .inr r := rfl
theorem mg_upd (f : Nat → V) (k : Nat) (v : V) : (fun j => g (mj_upd f k v j)) = mj_upd (fun j => g (f j)) k (g v) := by
  rw [mj_upd_eq, mj_upd_eq]
  funext j
  by_cases h : j = k
  · simp [h]
  · simp [h]
theorem mg_cpy (f f' : Nat → V) (s d n : Nat) : (fun j => g (mj_cpy f f' s d n j)) = mj_cpy (fun j => g (f j)) (fun j => g (f' j)) s d n := by
  rw [mj_cpy_eq, mj_cpy_eq]
  funext j
  unfold va_cpy
  split <;> rfl
theorem mg_args : ∀ (n : Nat) (st : mj_s V) (acc : List (mj_v V)), mj_args n (mg_s g st) (mg_s g acc) = (mj_args n st acc).map fun q => (mg_s g q.1, mg_s g q.2) := by
  intro n
  induction n with
  | zero => intro st acc; rfl
  | succ n ih =>
    intro st acc
    cases st with
    | nil => rfl
    | cons v st => exact ih st (v :: acc)
theorem mg_ent : ∀ (n : Nat) (as : List (mj_v V)), mg_l g (mj_ent n as) = mj_ent n (mg_s g as) := by
  intro n
  induction n with
  | zero => intro as; rfl
  | succ n ih =>
    intro as
    cases as with
    | nil => show none :: mg_l g (mj_ent n []) = _; rw [ih]; rfl
    | cons a as => show some (mg_v g a) :: mg_l g (mj_ent n as) = _; rw [ih]; rfl
variable {α α' : Type} {O : mj_O V} {O' : mj_O V'} {Rel : α → α' → Prop} {x : Nat} {xs : List Nat} {loc : mj_l V} {st : mj_s V} {h : mj_h V}
  {kn : mj_l V → mj_s V → mj_h V → α} {kj : Nat → mj_s V → α} {kc : Nat → Nat → List (mj_v V) → mj_s V → α} {kr : Option (mj_v V) → α} {sp : α}
  {kn' : mj_l V' → mj_s V' → mj_h V' → α'} {kj' : Nat → mj_s V' → α'} {kc' : Nat → Nat → List (mj_v V') → mj_s V' → α'} {kr' : Option (mj_v V') → α'} {sp' : α'}
theorem rel_iload (Kn : ∀ l s h, Rel (kn l s h) (kn' (mg_l g l) (mg_s g s) (mg_h g h))) (Ks : ∀ a', Rel sp a') (i : Nat) : Rel (mj_iload loc st h kn sp i) (mj_iload (mg_l g loc) (mg_s g st) (mg_h g h) kn' sp' i) := by
  unfold mj_iload
  rw [show mj_nth (mg_l g loc) i = (mj_nth loc i).map (mg_o g) from mg_nth _ _ _]
  rcases mj_nth loc i with _ | (_ | (v | r))
  · exact Ks _
  · exact Ks _
  · exact Kn _ _ _
  · exact Ks _
theorem rel_aload (Kn : ∀ l s h, Rel (kn l s h) (kn' (mg_l g l) (mg_s g s) (mg_h g h))) (Ks : ∀ a', Rel sp a') (i : Nat) : Rel (mj_aload loc st h kn sp i) (mj_aload (mg_l g loc) (mg_s g st) (mg_h g h) kn' sp' i) := by
  unfold mj_aload
  rw [show mj_nth (mg_l g loc) i = (mj_nth loc i).map (mg_o g) from mg_nth _ _ _]
  rcases mj_nth loc i with _ | (_ | (v | (_ | a)))
  · exact Ks _
  · exact Ks _
  · exact Ks _
  · exact Ks _
  · exact Kn _ _ _
theorem rel_istore (Kn : ∀ l s h, Rel (kn l s h) (kn' (mg_l g l) (mg_s g s) (mg_h g h))) (Ks : ∀ a', Rel sp a') (i : Nat) : Rel (mj_istore loc st h kn sp i) (mj_istore (mg_l g loc) (mg_s g st) (mg_h g h) kn' sp' i) := by
  rcases st with _ | ⟨v | r, rest⟩
  · exact Ks _
  · have := Kn (mj_put loc i (some (.inl v))) rest h
    rw [show mg_l g (mj_put loc i (some (.inl v))) = mj_put (mg_l g loc) i (some (.inl (g v))) from mg_put _ _ _ _] at this
    exact this
  · exact Ks _
theorem rel_astore (Kn : ∀ l s h, Rel (kn l s h) (kn' (mg_l g l) (mg_s g s) (mg_h g h))) (Ks : ∀ a', Rel sp a') (i : Nat) : Rel (mj_astore loc st h kn sp i) (mj_astore (mg_l g loc) (mg_s g st) (mg_h g h) kn' sp' i) := by
  rcases st with _ | ⟨v | (_ | a), rest⟩
  · exact Ks _
  · exact Ks _
  · exact Ks _
  · have := Kn (mj_put loc i (some (.inr (some a)))) rest h
    rw [show mg_l g (mj_put loc i (some (.inr (some a)))) = mj_put (mg_l g loc) i (some (.inr (some a))) from mg_put _ _ _ _] at this
    exact this
theorem rel_bin (hbin : ∀ op a b z, O.2.1 op a b = some z → O'.2.1 op (g a) (g b) = some (g z)) (Kn : ∀ l s h, Rel (kn l s h) (kn' (mg_l g l) (mg_s g s) (mg_h g h))) (Ks : ∀ a', Rel sp a') (op : Nat) : Rel (mj_bin O loc st h kn sp op) (mj_bin O' (mg_l g loc) (mg_s g st) (mg_h g h) kn' sp' op) := by
  rcases st with _ | ⟨b | r, rest0⟩
  · exact Ks _
  · rcases rest0 with _ | ⟨a | r2, rest⟩
    · exact Ks _
    · show Rel (match O.2.1 op a b with
        | some z => kn loc (.inl z :: rest) h
        | none => sp) (match O'.2.1 op (g a) (g b) with
        | some z => kn' (mg_l g loc) (.inl z :: mg_s g rest) (mg_h g h)
        | none => sp')
      cases hz : O.2.1 op a b with
      | none => exact Ks _
      | some z => rw [hbin _ _ _ _ hz]; exact Kn _ _ _
    · exact Ks _
  · exact Ks _
theorem rel_neg (hbin : ∀ op a b z, O.2.1 op a b = some z → O'.2.1 op (g a) (g b) = some (g z)) (Kn : ∀ l s h, Rel (kn l s h) (kn' (mg_l g l) (mg_s g s) (mg_h g h))) (Ks : ∀ a', Rel sp a') : Rel (mj_neg O loc st h kn sp) (mj_neg O' (mg_l g loc) (mg_s g st) (mg_h g h) kn' sp') := by
  rcases st with _ | ⟨a | r, rest⟩
  · exact Ks _
  · show Rel (match O.2.1 9 a a with
      | some z => kn loc (.inl z :: rest) h
      | none => sp) (match O'.2.1 9 (g a) (g a) with
      | some z => kn' (mg_l g loc) (.inl z :: mg_s g rest) (mg_h g h)
      | none => sp')
    cases hz : O.2.1 9 a a with
    | none => exact Ks _
    | some z => rw [hbin _ _ _ _ hz]; exact Kn _ _ _
  · exact Ks _
theorem rel_iinc (hbin : ∀ op a b z, O.2.1 op a b = some z → O'.2.1 op (g a) (g b) = some (g z)) (hinj : ∀ n, g (O.1 n) = O'.1 n) (Kn : ∀ l s h, Rel (kn l s h) (kn' (mg_l g l) (mg_s g s) (mg_h g h))) (Ks : ∀ a', Rel sp a') (i : Nat) (n : Int) : Rel (mj_iinc O loc st h kn sp i n) (mj_iinc O' (mg_l g loc) (mg_s g st) (mg_h g h) kn' sp' i n) := by
  unfold mj_iinc
  rw [show mj_nth (mg_l g loc) i = (mj_nth loc i).map (mg_o g) from mg_nth _ _ _]
  rcases mj_nth loc i with _ | (_ | (v | r))
  · exact Ks _
  · exact Ks _
  · show Rel (match O.2.1 0 v (O.1 n) with
      | some z => kn (mj_put loc i (some (.inl z))) st h
      | none => sp) (match O'.2.1 0 (g v) (O'.1 n) with
      | some z => kn' (mj_put (mg_l g loc) i (some (.inl z))) (mg_s g st) (mg_h g h)
      | none => sp')
    cases hz : O.2.1 0 v (O.1 n) with
    | none => exact Ks _
    | some z =>
      rw [← hinj, hbin _ _ _ _ hz]
      have := Kn (mj_put loc i (some (.inl z))) st h
      rw [show mg_l g (mj_put loc i (some (.inl z))) = mj_put (mg_l g loc) i (some (.inl (g z))) from mg_put _ _ _ _] at this
      exact this
  · exact Ks _
theorem rel_icmp (hcmp : ∀ c a b q, O.2.2.1 c a b = some q → O'.2.2.1 c (g a) (g b) = some q) (Kn : ∀ l s h, Rel (kn l s h) (kn' (mg_l g l) (mg_s g s) (mg_h g h))) (Kj : ∀ j s, Rel (kj j s) (kj' j (mg_s g s))) (Ks : ∀ a', Rel sp a') (c : Jvm.ClassFile.Cond) : Rel (mj_icmp O x loc st h kn kj sp c) (mj_icmp O' x (mg_l g loc) (mg_s g st) (mg_h g h) kn' kj' sp' c) := by
  rcases st with _ | ⟨b | r, rest0⟩
  · exact Ks _
  · rcases rest0 with _ | ⟨a | r2, rest⟩
    · exact Ks _
    · show Rel (match O.2.2.1 c a b with
        | some true => kj x rest
        | some false => kn loc rest h
        | none => sp) (match O'.2.2.1 c (g a) (g b) with
        | some true => kj' x (mg_s g rest)
        | some false => kn' (mg_l g loc) (mg_s g rest) (mg_h g h)
        | none => sp')
      cases hz : O.2.2.1 c a b with
      | none => exact Ks _
      | some q =>
        rw [hcmp _ _ _ _ hz]
        cases q
        · exact Kn _ _ _
        · exact Kj _ _
    · exact Ks _
  · exact Ks _
theorem rel_ifc (hcmp : ∀ c a b q, O.2.2.1 c a b = some q → O'.2.2.1 c (g a) (g b) = some q) (hinj : ∀ n, g (O.1 n) = O'.1 n) (Kn : ∀ l s h, Rel (kn l s h) (kn' (mg_l g l) (mg_s g s) (mg_h g h))) (Kj : ∀ j s, Rel (kj j s) (kj' j (mg_s g s))) (Ks : ∀ a', Rel sp a') (c : Jvm.ClassFile.Cond) : Rel (mj_ifc O x loc st h kn kj sp c) (mj_ifc O' x (mg_l g loc) (mg_s g st) (mg_h g h) kn' kj' sp' c) := by
  rcases st with _ | ⟨a | r, rest⟩
  · exact Ks _
  · show Rel (match O.2.2.1 c a (O.1 0) with
        | some true => kj x rest
        | some false => kn loc rest h
        | none => sp) (match O'.2.2.1 c (g a) (O'.1 0) with
        | some true => kj' x (mg_s g rest)
        | some false => kn' (mg_l g loc) (mg_s g rest) (mg_h g h)
        | none => sp')
    rw [← hinj]
    cases hz : O.2.2.1 c a (O.1 0) with
    | none => exact Ks _
    | some q =>
      rw [hcmp _ _ _ _ hz]
      cases q
      · exact Kn _ _ _
      · exact Kj _ _
  · exact Ks _
theorem rel_tab (hval : ∀ a z, O.2.2.2 a = some z → O'.2.2.2 (g a) = some z) (Kj : ∀ j s, Rel (kj j s) (kj' j (mg_s g s))) (Ks : ∀ a', Rel sp a') (lo hi : Int) : Rel (mj_tab O x xs st kj sp lo hi) (mj_tab O' x xs (mg_s g st) kj' sp' lo hi) := by
  rcases st with _ | ⟨a | r, rest⟩
  · exact Ks _
  · simp only [mg_sc, mg_vl, mg_vr]
    unfold mj_tab
    (try dsimp only)
    cases hz : O.2.2.2 a with
    | none => exact Ks _
    | some z =>
      rw [hval _ _ hz]
      (try dsimp only)
      cases decide (z < lo) || decide (hi < z) with
      | true => exact Kj _ _
      | false =>
        (try dsimp only)
        cases mj_nth xs (z - lo).toNat with
        | none => exact Ks _
        | some t => exact Kj _ _
  · exact Ks _
theorem rel_ald (hval : ∀ a z, O.2.2.2 a = some z → O'.2.2.2 (g a) = some z) (Kn : ∀ l s h, Rel (kn l s h) (kn' (mg_l g l) (mg_s g s) (mg_h g h))) (Ks : ∀ a', Rel sp a') (tag : Nat) : Rel (mj_ald O loc st h kn sp tag) (mj_ald O' (mg_l g loc) (mg_s g st) (mg_h g h) kn' sp' tag) := by
  rcases st with _ | ⟨i | r, rest0⟩
  · exact Ks _
  · rcases rest0 with _ | ⟨i2 | (_ | a), rest⟩
    · exact Ks _
    · exact Ks _
    · exact Ks _
    · simp only [mg_sc, mg_vl, mg_vr]
      unfold mj_ald
      (try dsimp only)
      rw [show mj_nth (mg_h g h) a = (mj_nth h a).map (mg_c g) from mg_nth _ _ _]
      rcases mj_nth h a with _ | (⟨t, n, f⟩ | (q | q))
      · exact Ks _
      · dsimp only [Option.map, mg_c]
        cases Nat.beq t tag with
        | false => cases O.2.2.2 i <;> exact Ks _
        | true =>
          cases hz : O.2.2.2 i with
          | none => exact Ks _
          | some z =>
            rw [hval _ _ hz]
            (try dsimp only)
            cases mj_ix z n with
            | none => exact Ks _
            | some k => exact Kn _ _ _
      · exact Ks _
      · exact Ks _
  · exact Ks _
theorem rel_ast (hval : ∀ a z, O.2.2.2 a = some z → O'.2.2.2 (g a) = some z) (Kn : ∀ l s h, Rel (kn l s h) (kn' (mg_l g l) (mg_s g s) (mg_h g h))) (Ks : ∀ a', Rel sp a') : Rel (mj_ast O loc st h kn sp) (mj_ast O' (mg_l g loc) (mg_s g st) (mg_h g h) kn' sp') := by
  rcases st with _ | ⟨v | r, rest0⟩
  · exact Ks _
  · rcases rest0 with _ | ⟨i | r2, rest1⟩
    · exact Ks _
    · rcases rest1 with _ | ⟨i2 | (_ | a), rest⟩
      · exact Ks _
      · exact Ks _
      · exact Ks _
      · simp only [mg_sc, mg_vl, mg_vr]
        unfold mj_ast
        (try dsimp only)
        rw [show mj_nth (mg_h g h) a = (mj_nth h a).map (mg_c g) from mg_nth _ _ _]
        rcases hc : mj_nth h a with _ | (⟨t, n, f⟩ | (q | q))
        · exact Ks _
        · dsimp only [Option.map, mg_c]
          cases Nat.ble 4 a with
          | false => rcases t with _ | t <;> exact Ks _
          | true =>
            rcases t with _ | t
            · (try dsimp only)
              cases hz : O.2.2.2 i with
              | none => exact Ks _
              | some z =>
                rw [hval _ _ hz]
                show Rel (match mj_ix z n with
                  | some k => kn loc rest (mj_put h a (.inl (0, n, mj_upd f k v)))
                  | none => sp) (match mj_ix z n with
                  | some k => kn' (mg_l g loc) (mg_s g rest) (mj_put (mg_h g h) a (.inl (0, n, mj_upd (fun j => g (f j)) k (g v))))
                  | none => sp')
                cases mj_ix z n with
                | none => exact Ks _
                | some k =>
                  have := Kn loc rest (mj_put h a (.inl (0, n, mj_upd f k v)))
                  rw [show mg_h g (mj_put h a (.inl (0, n, mj_upd f k v))) = mj_put (mg_h g h) a (.inl (0, n, mj_upd (fun j => g (f j)) k (g v))) by
                    unfold mg_h; rw [mg_put]; show mj_put _ a (Sum.inl (0, n, fun j => g (mj_upd f k v j))) = _; rw [mg_upd]] at this
                  exact this
            · exact Ks _
        · exact Ks _
        · exact Ks _
    · exact Ks _
  · exact Ks _
theorem rel_bst (hval : ∀ a z, O.2.2.2 a = some z → O'.2.2.2 (g a) = some z) (Kn : ∀ l s h, Rel (kn l s h) (kn' (mg_l g l) (mg_s g s) (mg_h g h))) (Ks : ∀ a', Rel sp a') : Rel (mj_bst O loc st h kn sp) (mj_bst O' (mg_l g loc) (mg_s g st) (mg_h g h) kn' sp') := by
  rcases st with _ | ⟨v | r, rest0⟩
  · exact Ks _
  · rcases rest0 with _ | ⟨i | r2, rest1⟩
    · exact Ks _
    · rcases rest1 with _ | ⟨i2 | (_ | a), rest⟩
      · exact Ks _
      · exact Ks _
      · exact Ks _
      · simp only [mg_sc, mg_vl, mg_vr]
        unfold mj_bst
        (try dsimp only)
        rw [show mj_nth (mg_h g h) a = (mj_nth h a).map (mg_c g) from mg_nth _ _ _]
        rcases hc : mj_nth h a with _ | (⟨t, n, f⟩ | (q | q))
        · exact Ks _
        · dsimp only [Option.map, mg_c]
          cases Nat.ble 4 a with
          | false => rcases t with _ | _ | t <;> exact Ks _
          | true =>
            rcases t with _ | _ | t
            · exact Ks _
            · cases hb : O.2.2.2 v with
              | none => exact Ks _
              | some w =>
                rw [hval _ _ hb]
                cases mj_bit (some w) with
                | false => exact Ks _
                | true =>
                  (try dsimp only)
                  cases hz : O.2.2.2 i with
                  | none => exact Ks _
                  | some z =>
                    rw [hval _ _ hz]
                    show Rel (match mj_ix z n with
                      | some k => kn loc rest (mj_put h a (.inl (1, n, mj_upd f k v)))
                      | none => sp) (match mj_ix z n with
                      | some k => kn' (mg_l g loc) (mg_s g rest) (mj_put (mg_h g h) a (.inl (1, n, mj_upd (fun j => g (f j)) k (g v))))
                      | none => sp')
                    cases mj_ix z n with
                    | none => exact Ks _
                    | some k =>
                      have := Kn loc rest (mj_put h a (.inl (1, n, mj_upd f k v)))
                      rw [show mg_h g (mj_put h a (.inl (1, n, mj_upd f k v))) = mj_put (mg_h g h) a (.inl (1, n, mj_upd (fun j => g (f j)) k (g v))) by
                        unfold mg_h; rw [mg_put]; show mj_put _ a (Sum.inl (1, n, fun j => g (mj_upd f k v j))) = _; rw [mg_upd]] at this
                      exact this
            · exact Ks _
        · exact Ks _
        · exact Ks _
    · exact Ks _
  · exact Ks _
theorem rel_aald (hval : ∀ a z, O.2.2.2 a = some z → O'.2.2.2 (g a) = some z) (Kn : ∀ l s h, Rel (kn l s h) (kn' (mg_l g l) (mg_s g s) (mg_h g h))) (Ks : ∀ a', Rel sp a') : Rel (mj_aald O loc st h kn sp) (mj_aald O' (mg_l g loc) (mg_s g st) (mg_h g h) kn' sp') := by
  rcases st with _ | ⟨i | r, rest0⟩
  · exact Ks _
  · rcases rest0 with _ | ⟨i2 | (_ | a), rest⟩
    · exact Ks _
    · exact Ks _
    · exact Ks _
    · simp only [mg_sc, mg_vl, mg_vr]
      unfold mj_aald
      (try dsimp only)
      rw [show mj_nth (mg_h g h) a = (mj_nth h a).map (mg_c g) from mg_nth _ _ _]
      rcases mj_nth h a with _ | (q | (⟨n, f⟩ | q))
      · exact Ks _
      · exact Ks _
      · dsimp only [Option.map, mg_c]
        cases hz : O.2.2.2 i with
        | none => cases Nat.ble 4 a <;> exact Ks _
        | some z =>
          rw [hval _ _ hz]
          cases Nat.ble 4 a with
          | false => exact Ks _
          | true =>
            (try dsimp only)
            cases mj_ix z n with
            | none => exact Ks _
            | some k =>
              (try dsimp only)
              cases f k with
              | none => exact Ks _
              | some b => exact Kn _ _ _
      · exact Ks _
  · exact Ks _
theorem rel_aast (hval : ∀ a z, O.2.2.2 a = some z → O'.2.2.2 (g a) = some z) (Kn : ∀ l s h, Rel (kn l s h) (kn' (mg_l g l) (mg_s g s) (mg_h g h))) (Ks : ∀ a', Rel sp a') : Rel (mj_aast O loc st h kn sp) (mj_aast O' (mg_l g loc) (mg_s g st) (mg_h g h) kn' sp') := by
  rcases st with _ | ⟨b0 | (_ | b), rest0⟩
  · exact Ks _
  · exact Ks _
  · exact Ks _
  · rcases rest0 with _ | ⟨i | r, rest1⟩
    · exact Ks _
    · rcases rest1 with _ | ⟨i2 | (_ | a), rest⟩
      · exact Ks _
      · exact Ks _
      · exact Ks _
      · simp only [mg_sc, mg_vl, mg_vr]
        unfold mj_aast
        (try dsimp only)
        rw [show mj_nth (mg_h g h) a = (mj_nth h a).map (mg_c g) from mg_nth _ _ _, show mj_nth (mg_h g h) b = (mj_nth h b).map (mg_c g) from mg_nth _ _ _]
        split
        · rename_i n f fs ha h4 hb h5
          rw [ha, h4, hb, h5]
          dsimp only [Option.map, mg_c]
          cases hz : O.2.2.2 i with
          | none => exact Ks _
          | some z =>
            rw [hval _ _ hz]
            show Rel (match mj_ix z n with
              | some k => kn loc rest (mj_put h a (.inr (.inl (n, mj_upd f k (some b)))))
              | none => sp) (match mj_ix z n with
              | some k => kn' (mg_l g loc) (mg_s g rest) (mj_put (mg_h g h) a (.inr (.inl (n, mj_upd f k (some b)))))
              | none => sp')
            cases mj_ix z n with
            | none => exact Ks _
            | some k =>
              have := Kn loc rest (mj_put h a (.inr (.inl (n, mj_upd f k (some b)))))
              rw [show mg_h g (mj_put h a (.inr (.inl (n, mj_upd f k (some b))))) = mj_put (mg_h g h) a (.inr (.inl (n, mj_upd f k (some b)))) from mg_put _ _ _ _] at this
              exact this
        · exact Ks _
    · exact Ks _
theorem rel_alen (hinj : ∀ n, g (O.1 n) = O'.1 n) (Kn : ∀ l s h, Rel (kn l s h) (kn' (mg_l g l) (mg_s g s) (mg_h g h))) (Ks : ∀ a', Rel sp a') : Rel (mj_alen O loc st h kn sp) (mj_alen O' (mg_l g loc) (mg_s g st) (mg_h g h) kn' sp') := by
  rcases st with _ | ⟨i | (_ | a), rest⟩
  · exact Ks _
  · exact Ks _
  · exact Ks _
  · simp only [mg_sc, mg_vl, mg_vr]
    unfold mj_alen
    (try dsimp only)
    rw [show mj_nth (mg_h g h) a = (mj_nth h a).map (mg_c g) from mg_nth _ _ _]
    rcases mj_nth h a with _ | (⟨t, n, f⟩ | (⟨n, f⟩ | q))
    · exact Ks _
    · dsimp only [Option.map, mg_c]
      rw [← hinj]
      exact Kn _ _ _
    · dsimp only [Option.map, mg_c]
      cases Nat.ble 4 a with
      | false => exact Ks _
      | true =>
        (try dsimp only)
        rw [← hinj]
        exact Kn _ _ _
    · exact Ks _
theorem rel_getf (Kn : ∀ l s h, Rel (kn l s h) (kn' (mg_l g l) (mg_s g s) (mg_h g h))) (Ks : ∀ a', Rel sp a') : Rel (mj_getf x xs loc st h kn sp) (mj_getf x xs (mg_l g loc) (mg_s g st) (mg_h g h) kn' sp') := by
  rcases st with _ | ⟨i | (_ | a), rest⟩
  · exact Ks _
  · exact Ks _
  · exact Ks _
  · rcases xs with _ | ⟨ci, xs⟩
    · exact Ks _
    · simp only [mg_sc, mg_vl, mg_vr]
      unfold mj_getf
      (try dsimp only)
      rw [show mj_nth (mg_h g h) a = (mj_nth h a).map (mg_c g) from mg_nth _ _ _]
      rcases mj_nth h a with _ | (q | (q | ⟨c, fs⟩))
      · exact Ks _
      · exact Ks _
      · exact Ks _
      · dsimp only [Option.map, mg_c]
        rw [show mj_nth (mg_s g fs) x = (mj_nth fs x).map (mg_v g) from mg_nth _ _ _]
        cases Nat.beq c ci with
        | false => cases Nat.ble 4 a <;> cases mj_nth fs x <;> exact Ks _
        | true =>
          cases Nat.ble 4 a with
          | false => cases mj_nth fs x <;> exact Ks _
          | true =>
            cases mj_nth fs x with
            | none => exact Ks _
            | some v => exact Kn _ _ _
theorem mg_fit (hval : ∀ a z, O.2.2.2 a = some z → O'.2.2.2 (g a) = some z) (kind : Nat) (v : mj_v V) (h : mj_fit O kind v = true) : mj_fit O' kind (mg_v g v) = true := by
  unfold mj_fit at h
  split at h
  · rfl
  · rename_i a
    cases hz : O.2.2.2 a with
    | none => rw [hz] at h; cases h
    | some z =>
      rw [hz] at h
      show mj_bit (O'.2.2.2 (g a)) = true
      rw [hval _ _ hz]
      exact h
  · rfl
  · cases h
theorem rel_putf (hval : ∀ a z, O.2.2.2 a = some z → O'.2.2.2 (g a) = some z) (Kn : ∀ l s h, Rel (kn l s h) (kn' (mg_l g l) (mg_s g s) (mg_h g h))) (Ks : ∀ a', Rel sp a') : Rel (mj_putf O x xs loc st h kn sp) (mj_putf O' x xs (mg_l g loc) (mg_s g st) (mg_h g h) kn' sp') := by
  rcases st with _ | ⟨v, rest0⟩
  · exact Ks _
  · rcases rest0 with _ | ⟨i | (_ | a), rest⟩
    · exact Ks _
    · exact Ks _
    · exact Ks _
    · simp only [mg_sc, mg_vr]
      unfold mj_putf
      (try dsimp only)
      split
      · rename_i v0 a0 rest1 ci pw kind xs0 heq
        cases heq
        show Rel _ (match mj_nth (mg_h g h) a with
          | some (.inr (.inr (c, fs))) => match Nat.beq c ci, Nat.ble 4 a, mj_nth fs x, mj_fit O' kind (mg_v g v) with
            | true, true, some _, true => kn' (mg_l g loc) (mg_s g rest) (mj_put (mg_h g h) a (.inr (.inr (c, mj_put fs x (mg_v g v)))))
            | _, _, _, _ => sp'
          | _ => sp')
        rw [show mj_nth (mg_h g h) a = (mj_nth h a).map (mg_c g) from mg_nth _ _ _]
        rcases mj_nth h a with _ | (q | (q | ⟨c, fs⟩))
        · exact Ks _
        · exact Ks _
        · exact Ks _
        · dsimp only [Option.map, mg_c]
          rw [show mj_nth (mg_s g fs) x = (mj_nth fs x).map (mg_v g) from mg_nth _ _ _]
          split
          · rename_i w e1 e2 e3 e4
            rw [e1, e2, e3, mg_fit hval _ _ e4]
            dsimp only [Option.map]
            have := Kn loc rest (mj_put h a (.inr (.inr (c, mj_put fs x v))))
            rw [show mg_h g (mj_put h a (.inr (.inr (c, mj_put fs x v)))) = mj_put (mg_h g h) a (.inr (.inr (c, mj_put (mg_s g fs) x (mg_v g v)))) by
              unfold mg_h; rw [mg_put]; show mj_put _ a (Sum.inr (Sum.inr (c, (mj_put fs x v).map (mg_v g)))) = _; rw [mg_put]; rfl] at this
            exact this
          · exact Ks _
      · exact Ks _
theorem mg_dfl (hinj : ∀ n, g (O.1 n) = O'.1 n) (ks : List Nat) : mg_s g (mj_dfl O ks) = mj_dfl O' ks := by
  induction ks with
  | nil => rfl
  | cons k ks ih =>
    rw [mj_dfl_cons, mj_dfl_cons, ← ih, ← hinj]
    show mg_v g _ :: mg_s g _ = _
    congr 1
    split <;> rfl
theorem rel_new (hinj : ∀ n, g (O.1 n) = O'.1 n) (Kn : ∀ l s h, Rel (kn l s h) (kn' (mg_l g l) (mg_s g s) (mg_h g h))) (Ks : ∀ a', Rel sp a') : Rel (mj_new O x xs loc st h kn sp) (mj_new O' x xs (mg_l g loc) (mg_s g st) (mg_h g h) kn' sp') := by
  unfold mj_new
  split
  · rename_i p1 p2 p3 ks
    have := Kn loc (.inr (some (mj_len h)) :: st) (mj_app h (.inr (.inr (x, mj_dfl O ks))))
    rw [show mg_h g (mj_app h (.inr (.inr (x, mj_dfl O ks)))) = mj_app (mg_h g h) (.inr (.inr (x, mj_dfl O' ks))) by
      unfold mg_h; rw [mg_app]; show mj_app _ (Sum.inr (Sum.inr (x, mg_s g (mj_dfl O ks)))) = _; rw [mg_dfl hinj]] at this
    rw [show mj_len (mg_h g h) = mj_len h from mg_len _ _]
    exact this
  · exact Ks _
theorem rel_newa (hinj : ∀ n, g (O.1 n) = O'.1 n) (hval : ∀ a z, O.2.2.2 a = some z → O'.2.2.2 (g a) = some z) (Kn : ∀ l s h, Rel (kn l s h) (kn' (mg_l g l) (mg_s g s) (mg_h g h))) (Ks : ∀ a', Rel sp a') (tag : Nat) : Rel (mj_newa O loc st h kn sp tag) (mj_newa O' (mg_l g loc) (mg_s g st) (mg_h g h) kn' sp' tag) := by
  rcases st with _ | ⟨a | r, rest⟩
  · exact Ks _
  · simp only [mg_sc, mg_vl, mg_vr]
    unfold mj_newa
    (try dsimp only)
    cases hz : O.2.2.2 a with
    | none => exact Ks _
    | some z =>
      rw [hval _ _ hz]
      cases z with
      | negSucc k => exact Ks _
      | ofNat n =>
        (try dsimp only)
        cases Nat.ble n 100000 with
        | false => exact Ks _
        | true =>
          (try dsimp only)
          have := Kn loc (.inr (some (mj_len h)) :: rest) (mj_app h (.inl (tag, n, fun _ => O.1 0)))
          rw [show mg_h g (mj_app h (.inl (tag, n, fun _ => O.1 0))) = mj_app (mg_h g h) (.inl (tag, n, fun _ => O'.1 0)) by
            unfold mg_h; rw [mg_app]; show mj_app _ (Sum.inl (tag, n, fun _ => g (O.1 0))) = _; rw [hinj]] at this
          rw [show mj_len (mg_h g h) = mj_len h from mg_len _ _]
          exact this
  · exact Ks _
theorem rel_anew (hinj : ∀ n, g (O.1 n) = O'.1 n) (hval : ∀ a z, O.2.2.2 a = some z → O'.2.2.2 (g a) = some z) (Kn : ∀ l s h, Rel (kn l s h) (kn' (mg_l g l) (mg_s g s) (mg_h g h))) (Ks : ∀ a', Rel sp a') : Rel (mj_anew O loc st h kn sp) (mj_anew O' (mg_l g loc) (mg_s g st) (mg_h g h) kn' sp') := by
  rcases st with _ | ⟨a | r, rest⟩
  · exact Ks _
  · simp only [mg_sc, mg_vl, mg_vr]
    unfold mj_anew
    (try dsimp only)
    cases hz : O.2.2.2 a with
    | none => exact Ks _
    | some z =>
      rw [hval _ _ hz]
      cases z with
      | negSucc k => exact Ks _
      | ofNat n =>
        (try dsimp only)
        cases Nat.ble n 100000 with
        | false => exact Ks _
        | true =>
          (try dsimp only)
          have := Kn loc (.inr (some (mj_len h)) :: rest) (mj_app h (.inr (.inl (n, fun _ => none))))
          rw [show mg_h g (mj_app h (.inr (.inl (n, fun _ => none)))) = mj_app (mg_h g h) (.inr (.inl (n, fun _ => none))) by
            unfold mg_h; rw [mg_app]; rfl] at this
          rw [show mj_len (mg_h g h) = mj_len h from mg_len _ _]
          exact this
  · exact Ks _
theorem rel_acopy (hval : ∀ a z, O.2.2.2 a = some z → O'.2.2.2 (g a) = some z) (Kn : ∀ l s h, Rel (kn l s h) (kn' (mg_l g l) (mg_s g s) (mg_h g h))) (Ks : ∀ a', Rel sp a') : Rel (mj_acopy O loc st h kn sp) (mj_acopy O' (mg_l g loc) (mg_s g st) (mg_h g h) kn' sp') := by
  unfold mj_acopy
  split
  · rename_i n dp b sp0 a rest
    simp only [mg_sc, mg_vl, mg_vr]
    rw [show mj_nth (mg_h g h) a = (mj_nth h a).map (mg_c g) from mg_nth _ _ _, show mj_nth (mg_h g h) b = (mj_nth h b).map (mg_c g) from mg_nth _ _ _]
    split
    · rename_i n0 f n1 f' ha hb h4
      rw [ha, hb, h4]
      dsimp only [Option.map, mg_c]
      split
      · rename_i n' dp' sp1 e1 e2 e3
        rw [hval _ _ e1, hval _ _ e2, hval _ _ e3]
        (try dsimp only)
        rw [show mj_len (mg_s g rest) = mj_len rest from mg_len _ _]
        split
        · rename_i l1 l2 l3
          show Rel _ (match Nat.ble (sp1 + n') n0, Nat.ble (dp' + n') n1, Nat.ble (mj_len rest) 8 with
            | true, true, true => kn' (mg_l g loc) (mg_s g rest) (mj_put (mg_h g h) b (.inl (0, n1, mj_cpy (fun j => g (f j)) (fun j => g (f' j)) sp1 dp' n')))
            | _, _, _ => sp')
          rw [l1, l2, l3]
          (try dsimp only)
          have := Kn loc rest (mj_put h b (.inl (0, n1, mj_cpy f f' sp1 dp' n')))
          rw [show mg_h g (mj_put h b (.inl (0, n1, mj_cpy f f' sp1 dp' n'))) = mj_put (mg_h g h) b (.inl (0, n1, mj_cpy (fun j => g (f j)) (fun j => g (f' j)) sp1 dp' n')) by
            unfold mg_h; rw [mg_put]; show mj_put _ b (Sum.inl (0, n1, fun j => g (mj_cpy f f' sp1 dp' n' j))) = _; rw [mg_cpy]] at this
          exact this
        · exact Ks _
      · exact Ks _
    · exact Ks _
  · exact Ks _
theorem mg_isof (ci : Nat) (v : mj_v V) : mj_isof (mg_h g h) ci (mg_v g v) = mj_isof h ci v := by
  rcases v with i | (_ | a)
  · rfl
  · rfl
  · unfold mj_isof mg_v
    (try dsimp only)
    rw [show mj_nth (mg_h g h) a = (mj_nth h a).map (mg_c g) from mg_nth _ _ _]
    rcases mj_nth h a with _ | (q | (q | q)) <;> rfl
theorem rel_call (Kc : ∀ k ml as rest, Rel (kc k ml as rest) (kc' k ml (mg_s g as) (mg_s g rest))) (Ks : ∀ a', Rel sp a') : Rel (mj_call x xs st h kc sp) (mj_call x xs (mg_s g st) (mg_h g h) kc' sp') := by
  unfold mj_call
  split
  · rename_i n ml recv xs0
    rw [show mj_args n (mg_s g st) [] = (mj_args n st []).map fun q => (mg_s g q.1, mg_s g q.2) from mg_args n st []]
    rcases mj_args n st [] with _ | ⟨as, rest⟩
    · exact Ks _
    · dsimp only [Option.map]
      rw [show mj_len (mg_s g rest) = mj_len rest from mg_len _ _]
      cases Nat.ble (mj_len rest) 8 with
      | false => rcases recv with _ | ci <;> rcases as with _ | ⟨a, as⟩ <;> exact Ks _
      | true =>
        rcases recv with _ | ci
        · exact Kc _ _ _ _
        · rcases as with _ | ⟨a, as⟩
          · exact Ks _
          · simp only [mg_sc]
            rw [mg_isof]
            cases mj_isof h ci a with
            | false => exact Ks _
            | true => exact Kc _ _ _ _
  · exact Ks _
theorem rel_iret (hval : ∀ a z, O.2.2.2 a = some z → O'.2.2.2 (g a) = some z) (Kr : ∀ v, Rel (kr v) (kr' (mg_o g v))) (Ks : ∀ a', Rel sp a') : Rel (mj_iret O x st kr sp) (mj_iret O' x (mg_s g st) kr' sp') := by
  unfold mj_iret
  split
  · rename_i v
    simp only [mg_sc, mg_sn, mg_vl]
    rcases x with _ | x
    · exact Kr (some (.inl v))
    · (try dsimp only)
      cases hz : O.2.2.2 v with
      | none => exact Ks _
      | some z =>
        rw [hval _ _ hz]
        cases mj_bit (some z) with
        | false => exact Ks _
        | true => exact Kr (some (.inl v))
  · exact Ks _
theorem rel_aret (Kr : ∀ v, Rel (kr v) (kr' (mg_o g v))) (Ks : ∀ a', Rel sp a') : Rel (mj_aret st kr sp) (mj_aret (mg_s g st) kr' sp') := by
  unfold mj_aret
  split
  · exact Kr (some (.inr (some _)))
  · exact Ks _
theorem rel_vret (Kr : ∀ v, Rel (kr v) (kr' (mg_o g v))) (Ks : ∀ a', Rel sp a') : Rel (mj_vret st kr sp) (mj_vret (mg_s g st) kr' sp') := by
  rcases st with _ | ⟨v, rest⟩
  · exact Kr none
  · exact Ks _
theorem rel_dup (Kn : ∀ l s h, Rel (kn l s h) (kn' (mg_l g l) (mg_s g s) (mg_h g h))) (Ks : ∀ a', Rel sp a') : Rel (mj_dup loc st h kn sp) (mj_dup (mg_l g loc) (mg_s g st) (mg_h g h) kn' sp') := by
  rcases st with _ | ⟨v, rest⟩
  · exact Ks _
  · exact Kn _ _ _
theorem rel_dup2 (Kn : ∀ l s h, Rel (kn l s h) (kn' (mg_l g l) (mg_s g s) (mg_h g h))) (Ks : ∀ a', Rel sp a') : Rel (mj_dup2 loc st h kn sp) (mj_dup2 (mg_l g loc) (mg_s g st) (mg_h g h) kn' sp') := by
  rcases st with _ | ⟨v, _ | ⟨w, rest⟩⟩
  · exact Ks _
  · exact Ks _
  · exact Kn _ _ _
theorem rel_pop (Kn : ∀ l s h, Rel (kn l s h) (kn' (mg_l g l) (mg_s g s) (mg_h g h))) (Ks : ∀ a', Rel sp a') : Rel (mj_pop loc st h kn sp) (mj_pop (mg_l g loc) (mg_s g st) (mg_h g h) kn' sp') := by
  rcases st with _ | ⟨v, rest⟩
  · exact Ks _
  · exact Kn _ _ _
set_option maxHeartbeats 4000000 in
theorem mj_step_rel (hinj : ∀ n, g (O.1 n) = O'.1 n) (hbin : ∀ op a b z, O.2.1 op a b = some z → O'.2.1 op (g a) (g b) = some (g z)) (hcmp : ∀ c a b q, O.2.2.1 c a b = some q → O'.2.2.1 c (g a) (g b) = some q) (hval : ∀ a z, O.2.2.2 a = some z → O'.2.2.2 (g a) = some z) (Kn : ∀ l s h, Rel (kn l s h) (kn' (mg_l g l) (mg_s g s) (mg_h g h))) (Kj : ∀ j s, Rel (kj j s) (kj' j (mg_s g s))) (Kc : ∀ k ml as rest, Rel (kc k ml as rest) (kc' k ml (mg_s g as) (mg_s g rest))) (Kr : ∀ v, Rel (kr v) (kr' (mg_o g v))) (Ks : ∀ a', Rel sp a') (ins : Instr) : Rel (mj_step O x xs loc st h kn kj kc kr sp ins) (mj_step O' x xs (mg_l g loc) (mg_s g st) (mg_h g h) kn' kj' kc' kr' sp' ins) := by
  have hc : ∀ n, Rel (kn loc (.inl (O.1 n) :: st) h) (kn' (mg_l g loc) (.inl (O'.1 n) :: mg_s g st) (mg_h g h)) := fun n => by rw [← hinj]; exact Kn _ _ _
  cases ins with
  | iload i => exact rel_iload Kn Ks i
  | iload_n i => exact rel_iload Kn Ks i.val
  | aload i => exact rel_aload Kn Ks i
  | aload_n i => exact rel_aload Kn Ks i.val
  | istore i => exact rel_istore Kn Ks i
  | istore_n i => exact rel_istore Kn Ks i.val
  | astore i => exact rel_astore Kn Ks i
  | astore_n i => exact rel_astore Kn Ks i.val
  | iconst n => exact hc n
  | bipush n => exact hc n
  | sipush n => exact hc n
  | ldc i => exact hc _
  | ldc_w i => exact hc _
  | iadd => exact rel_bin hbin Kn Ks 0
  | isub => exact rel_bin hbin Kn Ks 1
  | imul => exact rel_bin hbin Kn Ks 2
  | idiv => exact rel_bin hbin Kn Ks 3
  | irem => exact rel_bin hbin Kn Ks 4
  | ishl => exact rel_bin hbin Kn Ks 5
  | ishr => exact rel_bin hbin Kn Ks 6
  | iand => exact rel_bin hbin Kn Ks 7
  | ior => exact rel_bin hbin Kn Ks 8
  | ineg => exact rel_neg hbin Kn Ks
  | iinc i n => exact rel_iinc hbin hinj Kn Ks i n
  | if_icmp c o => exact rel_icmp hcmp Kn Kj Ks c
  | ifCond c o => exact rel_ifc hcmp hinj Kn Kj Ks c
  | goto o => exact Kj _ _
  | tableswitch d lo hi o => exact rel_tab hval Kj Ks lo hi
  | dup => exact rel_dup Kn Ks
  | dup2 => exact rel_dup2 Kn Ks
  | pop => exact rel_pop Kn Ks
  | iaload => exact rel_ald hval Kn Ks 0
  | baload => exact rel_ald hval Kn Ks 1
  | iastore => exact rel_ast hval Kn Ks
  | bastore => exact rel_bst hval Kn Ks
  | aaload => exact rel_aald hval Kn Ks
  | aastore => exact rel_aast hval Kn Ks
  | arraylength => exact rel_alen hinj Kn Ks
  | getfield i => exact rel_getf Kn Ks
  | putfield i => exact rel_putf hval Kn Ks
  | getstatic i => exact Kn _ _ _
  | new i => exact rel_new hinj Kn Ks
  | anewarray i => exact rel_anew hinj hval Kn Ks
  | invokevirtual i => exact rel_call Kc Ks
  | ireturn => exact rel_iret hval Kr Ks
  | areturn => exact rel_aret Kr Ks
  | return_ => exact rel_vret Kr Ks
  | newarray t => cases t <;> first | exact rel_newa hinj hval Kn Ks 0 | exact rel_newa hinj hval Kn Ks 1 | exact Ks _
  | invokespecial i =>
    show Rel (mj_spec x xs loc st h kn kc sp) (mj_spec x xs (mg_l g loc) (mg_s g st) (mg_h g h) kn' kc' sp')
    unfold mj_spec
    cases Nat.beq x 100000 with
    | false => exact rel_call Kc Ks
    | true =>
      rcases st with _ | ⟨i | (_ | a), rest⟩
      · exact Ks _
      · exact Ks _
      · exact Ks _
      · simp only [mg_sc, mg_vr]
        rw [show mj_len (mg_s g rest) = mj_len rest from mg_len _ _]
        cases Nat.ble (mj_len rest) 8 with
        | false => exact Ks _
        | true => exact Kn _ _ _
  | invokestatic i =>
    show Rel (mj_stat O x xs loc st h kn kc sp) (mj_stat O' x xs (mg_l g loc) (mg_s g st) (mg_h g h) kn' kc' sp')
    unfold mj_stat
    cases Nat.beq x 100001 with
    | false => exact rel_call Kc Ks
    | true => exact rel_acopy hval Kn Ks
  | _ => exact Ks _
end
