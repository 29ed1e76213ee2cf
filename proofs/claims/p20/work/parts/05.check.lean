/-! ===== what the tables must say of each row of code: a check that the kernel decides ===== -/
theorem mj_at_mem {p : Nat} {w : Jvm.Cond} (h : mj_at p = some w) : w ∈ lw_tbl := by
  unfold mj_at at h
  unfold lw_tbl tables_1
  split at h
  · exact List.mem_append_left _ (List.mem_of_getElem? h)
  · exact List.mem_append_right _ (List.mem_append_left _ (List.mem_of_getElem? h))
  · exact List.mem_append_right _ (List.mem_append_right _ (List.mem_append_left _ (List.mem_of_getElem? h)))
  · exact List.mem_append_right _ (List.mem_append_right _ (List.mem_append_right _ (List.mem_append_left _ (List.mem_of_getElem? h))))
  · exact List.mem_append_right _ (List.mem_append_right _ (List.mem_append_right _ (List.mem_append_right _ (List.mem_append_left _ (List.mem_of_getElem? h)))))
  · exact List.mem_append_right _ (List.mem_append_right _ (List.mem_append_right _ (List.mem_append_right _ (List.mem_append_right _ (List.mem_append_left _ (List.mem_of_getElem? h))))))
  · exact List.mem_append_right _ (List.mem_append_right _ (List.mem_append_right _ (List.mem_append_right _ (List.mem_append_right _ (List.mem_append_right _ (List.mem_append_left _ (List.mem_of_getElem? h)))))))
  · exact List.mem_append_right _ (List.mem_append_right _ (List.mem_append_right _ (List.mem_append_right _ (List.mem_append_right _ (List.mem_append_right _ (List.mem_append_right _ (List.mem_of_getElem? h)))))))
  · cases h
/-- how many bytes an instruction has -/
def mj_ln : Instr → Nat
  | .iload _ => 2 | .aload _ => 2 | .istore _ => 2 | .astore _ => 2 | .bipush _ => 2 | .sipush _ => 3 | .ldc _ => 2 | .ldc_w _ => 3 | .iinc _ _ => 3 | .if_icmp _ _ => 3 | .ifCond _ _ => 3 | .goto _ => 3
  | .getfield _ => 3 | .putfield _ => 3 | .getstatic _ => 3 | .new _ => 3 | .newarray _ => 2 | .anewarray _ => 3 | .invokevirtual _ => 3 | .invokespecial _ => 3 | .invokestatic _ => 3 | _ => 1
/-- the row of that number stands at the place -/
def mj_tgt (cd : List mj_r) (pc : Nat) (off : Int) (x : Nat) : Bool := match cd[x]? with
  | some r => decide ((pc : Int) + off = (r.1 : Int))
  | none => false
def mj_kd (t : Option FieldType) : Nat := match t with
  | some .int => 0
  | some .boolean => 1
  | some (.object _) => 2
  | some (.array .int) => 2
  | some (.array (.object _)) => 2
  | some (.array .boolean) => 2
  | _ => 3
def mj_sn (x : Nat) : String := match x with
  | 1 => "LEAST"
  | 2 => "GREATEST"
  | _ => "AT_FIRST"
def mj_dk (k : Nat) (t : Option FieldType) : Bool := match k with
  | 2 => decide (mj_kd t = 2)
  | _ => decide (mj_kd t = 0) || decide (mj_kd t = 1)
def mj_okc (e : mj_e) (kind i x : Nat) (xs : List Nat) : Bool := match xs with
  | n :: ml :: recv :: p :: nest :: _ => match mj_mt[x]? with
    | some e' => decide (x < 253) && decide (e'.2.2.2.2.1 = kind) && decide (n = e'.2.2.2.2.2.1 + (if kind = 2 then 0 else 1)) && decide (ml = e'.2.2.1) &&
      (if kind = 0 then (match recv with
        | 0 => false
        | ci + 1 => match vwCl[ci]? with
          | some (C, _, _) => decide (e'.1.cls = C)
          | none => false) else decide (recv = 0)) &&
      (if nest = 0 then decide (mj_at p = some (.methodLink e.1.cls i e'.1)) else decide (mj_at p = some (.methodLinkNest e.1.cls i e'.1 "GrowingStacks")))
    | none => false
  | _ => false
def mj_ok1 (e : mj_e) (pc : Nat) (ins : Instr) (x : Nat) (xs : List Nat) : Bool := match ins with
  | .istore i => decide (i < e.2.2.1)
  | .istore_n i => decide (i.val < e.2.2.1)
  | .astore i => decide (i < e.2.2.1)
  | .astore_n i => decide (i.val < e.2.2.1)
  | .iinc i _ => decide (i < e.2.2.1)
  | .bipush n => decide ((Int8.ofInt n).toInt32 = Int32.ofInt n)
  | .sipush n => decide ((Int16.ofInt n).toInt32 = Int32.ofInt n)
  | .ldc i => match xs with
    | p :: _ => decide (mj_at p = some (.constant e.1.cls i (Int32.ofInt (Int.ofNat x - 2147483648))))
    | _ => false
  | .ldc_w i => match xs with
    | p :: _ => decide (mj_at p = some (.constant e.1.cls i (Int32.ofInt (Int.ofNat x - 2147483648))))
    | _ => false
  | .if_icmp _ off => mj_tgt e.2.2.2.2.2.2.2 pc off x
  | .ifCond _ off => mj_tgt e.2.2.2.2.2.2.2 pc off x
  | .goto off => mj_tgt e.2.2.2.2.2.2.2 pc off x
  | .tableswitch d _ _ offs => mj_tgt e.2.2.2.2.2.2.2 pc d x && decide (offs.toList.length = xs.length) && (offs.toList.zip xs).all fun q => mj_tgt e.2.2.2.2.2.2.2 pc q.1 q.2
  | .getfield i => match xs with
    | ci :: p :: _ => match vwCl[ci]? with
      | some (_, T, N) => decide (x < N) && decide (mj_at p = some (.fieldLink e.1.cls i (T x).1 (T x).2.1 (T x).2.2.1))
      | none => false
    | _ => false
  | .putfield i => match xs with
    | ci :: p :: kind :: _ => match vwCl[ci]? with
      | some (_, T, N) => decide (x < N) && decide (mj_at p = some (.fieldLink e.1.cls i (T x).1 (T x).2.1 (T x).2.2.1)) && (decide ((T x).2.2.2 = false) || (decide ((T x).2.2.2 = true) && decide (e.1.name = "<init>") && decide ((T x).1 = e.1.cls))) && decide (mj_kd (parseFieldDescriptor (T x).2.2.1) = kind) && decide (kind < 3)
      | none => false
    | _ => false
  | .getstatic i => match xs with
    | p :: nest :: _ => decide (1 ≤ x) && decide (x < 4) && (if nest = 0 then decide (mj_at p = some (.fieldLink e.1.cls i "GrowingStacks" (mj_sn x) "[I")) else decide (mj_at p = some (.fieldLinkNest e.1.cls i "GrowingStacks" (mj_sn x) "[I" "GrowingStacks")))
    | _ => false
  | .new i => match xs with
    | p1 :: p2 :: p3 :: ks => match vwCl[x]? with
      | some (C, T, N) => decide (mj_at p1 = some (.classLink e.1.cls i C)) && decide (mj_at p2 = some (.instantiable C N)) && decide (mj_at p3 = some (.initialized C)) && decide (ks.length = N) && (List.range N).all fun j => mj_dk (ks.getD j 0) (parseFieldDescriptor (T j).2.2.1)
      | none => false
    | _ => false
  | .newarray t => match xs with
    | p :: _ => decide (mj_at p = some (.arrayClass (newarray.typeOf t)))
    | _ => false
  | .anewarray i => match xs with
    | p1 :: p2 :: _ => decide (mj_at p1 = some (.classLink e.1.cls i "GrowingStacks$Task")) && decide (mj_at p2 = some (.arrayOver (.object "GrowingStacks$Task")))
    | _ => false
  | .invokevirtual i => mj_okc e 0 i x xs
  | .invokespecial i => if x = 100000 then (match xs with
      | p :: _ => decide (mj_at p = some (.methodLink e.1.cls i objectInit))
      | _ => false) else mj_okc e 1 i x xs
  | .invokestatic i => if x = 100001 then (match xs with
      | p :: _ => decide (mj_at p = some (.methodLink e.1.cls i arraycopyName))
      | _ => false) else mj_okc e 2 i x xs
  | .ireturn => match x with
    | 0 => decide (e.2.2.2.1 = some .int)
    | _ => decide (e.2.2.2.1 = some .boolean)
  | .areturn => decide (e.2.2.2.1 = some (.object "GrowingStacks$Task"))
  | .return_ => decide (e.2.2.2.1 = none)
  | _ => true
/-- it goes on at the next row -/
def mj_falls : Instr → Bool
  | .goto _ => false | .tableswitch _ _ _ _ => false | .ireturn => false | .areturn => false | .return_ => false | _ => true
def mj_okr (e : mj_e) (r : mj_r) (tl : List mj_r) : Bool :=
  (match r.2.1 with
  | .tableswitch d lo hi offs => (match decode e.2.1 r.1 with
    | .ok q => decide (q.1 = .tableswitch d lo hi offs)
    | .error _ => false)
  | i => decide (decode e.2.1 r.1 = .ok (i, mj_ln i))) &&
  (match mj_falls r.2.1, tl with
  | false, _ => true
  | true, r2 :: _ => decide (r2.1 = r.1 + mj_ln r.2.1)
  | true, [] => false) && mj_ok1 e r.1 r.2.1 r.2.2.1 r.2.2.2
/-- rows a .. a + n - 1 of a method's code -/
def mj_chkr (e : mj_e) (cd : List mj_r) (a n : Nat) : Bool := (List.range' a n).all fun i => match cd[i]? with
  | some r => mj_okr e r (cd.drop (i + 1))
  | none => true
theorem mj_chkr_spec {e : mj_e} {cd : List mj_r} {a n : Nat} (h : mj_chkr e cd a n = true) (i : Nat) (h1 : a ≤ i) (h2 : i < a + n) : ∀ r, cd[i]? = some r → mj_okr e r (cd.drop (i + 1)) = true := by
  intro r hr
  have h3 := List.all_eq_true.mp h i (by simp [List.mem_range']; exact ⟨i - a, by omega, by omega⟩)
  simpa [hr] using h3
/-- every row of a method is as the tables say -/
def mj_Rok (e : mj_e) : Prop := ∀ i r, e.2.2.2.2.2.2.2[i]? = some r → mj_okr e r (e.2.2.2.2.2.2.2.drop (i + 1)) = true
theorem mj_Rok.of {e : mj_e} {n : Nat} (hn : e.2.2.2.2.2.2.2.length = n) (h : ∀ i, i < n → ∀ r, e.2.2.2.2.2.2.2[i]? = some r → mj_okr e r (e.2.2.2.2.2.2.2.drop (i + 1)) = true) : mj_Rok e := by
  intro i r hr
  exact h i (by rw [← hn]; exact (List.getElem?_eq_some_iff.mp hr).1) r hr
/-- what the tables say of a method -/
def mj_okm (e : mj_e) : Bool := plainName e.1.cls && decide (e.1.cls ≠ "java/lang/invoke/MethodHandle") && decide (e.1.cls ≠ "java/lang/invoke/VarHandle") && decide ((parseMethodDescriptor e.1.desc).map (fun d => d.parameters.length) = some e.2.2.2.2.2.1) && decide (e.2.2.1 ≤ 40) && decide (e.2.2.2.2.2.1 + (if e.2.2.2.2.1 = 2 then 0 else 1) ≤ e.2.2.1) && (match e.2.2.2.2.2.2.1 with
  | _ :: pi :: pn :: ps :: _ => decide (mj_at pi = some (.initialized e.1.cls)) && (match e.2.2.2.2.1 with
    | 0 => decide (mj_at pn = some (.instanceMethod e.1)) && decide (mj_at ps = some (.selects e.1.cls e.1 e.1))
    | 1 => decide (mj_at pn = some (.instanceMethod e.1)) && decide (e.1.name = "<init>") && decide (e.2.2.2.1 = none)
    | _ => decide (mj_at pn = some (.static e.1)))
  | _ => false)
def mj_Mok (e : mj_e) : Prop := mj_okm e = true ∧ mj_at (e.2.2.2.2.2.2.1.headD 0) = some (.code e.1 e.2.1 e.2.2.1 e.2.2.2.1)
