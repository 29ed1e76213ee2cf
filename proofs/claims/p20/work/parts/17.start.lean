/-! THE CLAIM OUT OF ONE WALK OF THE LAW'S BODY. Your part is whole_start (and what it stands on); all else here is the same for every law, but numbers. -/
def R_law : String := "GrowingStacksLaw"
def lw_P (b : Addr) (xs : List Int32) (args : Array Value) (s : State) : Prop := args = #[.ref b] ∧ s.IntsAt b xs ∧ xs.length ≤ 3072 ∧ (Jvm.Cond.and given_1 narrow_1).before args s = true
def lw_Q (_ : Array Value) (s : State) (o : Outcome) (t : State) : Prop := o = .returned (some (.int 1)) ∧ Framed s o t [] 600000 7302250
def lw_Z (below : List Frame) (a : Array Value) (s : State) : State → Prop := fun t => ∃ o, t.status = .running ∧ Ended t below o ∧ lw_Q a s o t
/-- the law's own end, with 1 on the stack, nothing written that was there before, its room as the claim has it -/
theorem lw_ret {p : Program} {l : Launch} {e : Env} {s : State} {m : MethodId} {below : List Frame} {meth : Method} {c : Code} {b : Nat} (hx : p.tables.exec = Jvm.exec) (hb : c.code = code) (hr : meth.sig.returnType = ret) (hlocks : meth.locks = false) {pc : Nat} {H : Heap} {ls : Array Slot} (hdg : decode code pc = .ok (.ireturn, 1)) : W p l e room_1 s m #[Value.ref b] below meth c H [] 600000 7302250 (lw_Z below #[Value.ref b] s) (F0 m pc ls [.int 1]) := by
  intro T hT X
  obtain ⟨fs, hret, hrun, hended, hW, hframe⟩ := X.leave (v := some (.int 1)) (hlocks := hlocks) (fun h => by rw [hr] at h; cases h)
  have hmeth' : T.vm.method? m = some meth := X.method'
  refine ⟨T.setFrames fs, ?_, .returned (some (.int 1)), hrun, hended, rfl, ⟨_, rfl⟩, hW, hframe⟩
  jvm_step X.here [X.here.top, hx, hb, hdg, hmeth', hr, ret, narrow_b1]
  (try refine ⟨rfl, ?_⟩); (try refine ⟨rfl, ?_⟩)
  first | (intro acts; rw [hret _ acts rfl rfl rfl]) | rw [hret _ _ rfl rfl rfl]
  exact Steps.refl _
/-- what holds at the law's entry: the machine, the code, the tables' words (any of lw_tbl by 'hts w (by decide +kernel)'), the script of L ints xs at the cell b, what the Statement gives of the start (any of its parts by flat_of_before) -/
def lw_At (p : Program) (s : State) (m : MethodId) (meth : Method) (c : Code) (b L : Nat) (xs : Nat → Int32) : Prop :=
  p.tables.exec = Jvm.exec ∧ c.code = code ∧ meth.sig.returnType = ret ∧ c.maxLocals = 4 ∧ s.vm.findClass R_law = some m.cls ∧ (∀ w ∈ lw_tbl, w.before #[Value.ref b] s = true) ∧ va_X b L xs s s.heap ∧ b < s.heap.size ∧ meth.locks = false ∧ (Jvm.Cond.and given_1 narrow_1).before #[Value.ref b] s = true

/-! ===== the law's start, in the mini-machine's words ===== -/
def mj_fn (l : List Int32) : Nat → Int32 := fun j => l.getD j 0
/-- the four rows that were there before: the script, LEAST, GREATEST, AT_FIRST -/
def mj_old (L : Nat) (xs : Nat → Int32) : mj_h Int32 := [.inl (0, L, xs), .inl (0, 6, mj_fn [8, 0, 0, 10, 1, 10]), .inl (0, 6, mj_fn [64, 1, 1, 80, 3, 90]), .inl (0, 6, mj_fn [16, 1, 1, 40, 1, 60])]
theorem mj_st_LEAST {b : Nat} {s : State} {A : Nat → Prop} (hts : ∀ w ∈ lw_tbl, w.before #[Value.ref b] s = true) (hgv : (Jvm.Cond.and given_1 narrow_1).before #[Value.ref b] s = true) (hA : ∀ a : Nat, a < s.heap.size → ¬ A a) : ∃ t : Nat, va_Z "GrowingStacks" "LEAST" "[I" (.ref t) A s s.heap ∧ va_T .int t 6 (fun j => .int (mj_fn [8, 0, 0, 10, 1, 10] j)) A s s.heap := by
  have hg := flat_of_before _ hgv
  obtain ⟨t, ht, hT⟩ := va_Tof (tm := .static "GrowingStacks" "LEAST" "[I") (ty := .int) (N := 6) (f := fun j => .int (mj_fn [8, 0, 0, 10, 1, 10] j)) (A := A) (by decide) (hg _ (by decide +kernel)) (va_eqt (hg (.eq (.length (.static "GrowingStacks" "LEAST" "[I")) (.int 6)) (by decide +kernel))) (fun j hj => by
    match j, hj with
    | 0, _ => exact va_eqt (hg (.eq (.elem (.static "GrowingStacks" "LEAST" "[I") (.int 0)) (.int 8)) (by decide +kernel))
    | 1, _ => exact va_eqt (hg (.eq (.elem (.static "GrowingStacks" "LEAST" "[I") (.int 1)) (.int 0)) (by decide +kernel))
    | 2, _ => exact va_eqt (hg (.eq (.elem (.static "GrowingStacks" "LEAST" "[I") (.int 2)) (.int 0)) (by decide +kernel))
    | 3, _ => exact va_eqt (hg (.eq (.elem (.static "GrowingStacks" "LEAST" "[I") (.int 3)) (.int 10)) (by decide +kernel))
    | 4, _ => exact va_eqt (hg (.eq (.elem (.static "GrowingStacks" "LEAST" "[I") (.int 4)) (.int 1)) (by decide +kernel))
    | 5, _ => exact va_eqt (hg (.eq (.elem (.static "GrowingStacks" "LEAST" "[I") (.int 5)) (.int 10)) (by decide +kernel))
    | j + 6, hj => omega) hA
  exact ⟨t, va_Zref (hts _ (mj_at_mem (p := 2197) (by decide +kernel))) (hts _ (mj_at_mem (p := 1001) (by decide +kernel))) ht hA, hT⟩
theorem mj_st_GREATEST {b : Nat} {s : State} {A : Nat → Prop} (hts : ∀ w ∈ lw_tbl, w.before #[Value.ref b] s = true) (hgv : (Jvm.Cond.and given_1 narrow_1).before #[Value.ref b] s = true) (hA : ∀ a : Nat, a < s.heap.size → ¬ A a) : ∃ t : Nat, va_Z "GrowingStacks" "GREATEST" "[I" (.ref t) A s s.heap ∧ va_T .int t 6 (fun j => .int (mj_fn [64, 1, 1, 80, 3, 90] j)) A s s.heap := by
  have hg := flat_of_before _ hgv
  obtain ⟨t, ht, hT⟩ := va_Tof (tm := .static "GrowingStacks" "GREATEST" "[I") (ty := .int) (N := 6) (f := fun j => .int (mj_fn [64, 1, 1, 80, 3, 90] j)) (A := A) (by decide) (hg _ (by decide +kernel)) (va_eqt (hg (.eq (.length (.static "GrowingStacks" "GREATEST" "[I")) (.int 6)) (by decide +kernel))) (fun j hj => by
    match j, hj with
    | 0, _ => exact va_eqt (hg (.eq (.elem (.static "GrowingStacks" "GREATEST" "[I") (.int 0)) (.int 64)) (by decide +kernel))
    | 1, _ => exact va_eqt (hg (.eq (.elem (.static "GrowingStacks" "GREATEST" "[I") (.int 1)) (.int 1)) (by decide +kernel))
    | 2, _ => exact va_eqt (hg (.eq (.elem (.static "GrowingStacks" "GREATEST" "[I") (.int 2)) (.int 1)) (by decide +kernel))
    | 3, _ => exact va_eqt (hg (.eq (.elem (.static "GrowingStacks" "GREATEST" "[I") (.int 3)) (.int 80)) (by decide +kernel))
    | 4, _ => exact va_eqt (hg (.eq (.elem (.static "GrowingStacks" "GREATEST" "[I") (.int 4)) (.int 3)) (by decide +kernel))
    | 5, _ => exact va_eqt (hg (.eq (.elem (.static "GrowingStacks" "GREATEST" "[I") (.int 5)) (.int 90)) (by decide +kernel))
    | j + 6, hj => omega) hA
  exact ⟨t, va_Zref (hts _ (mj_at_mem (p := 2199) (by decide +kernel))) (hts _ (mj_at_mem (p := 1001) (by decide +kernel))) ht hA, hT⟩
theorem mj_st_AT_FIRST {b : Nat} {s : State} {A : Nat → Prop} (hts : ∀ w ∈ lw_tbl, w.before #[Value.ref b] s = true) (hgv : (Jvm.Cond.and given_1 narrow_1).before #[Value.ref b] s = true) (hA : ∀ a : Nat, a < s.heap.size → ¬ A a) : ∃ t : Nat, va_Z "GrowingStacks" "AT_FIRST" "[I" (.ref t) A s s.heap ∧ va_T .int t 6 (fun j => .int (mj_fn [16, 1, 1, 40, 1, 60] j)) A s s.heap := by
  have hg := flat_of_before _ hgv
  obtain ⟨t, ht, hT⟩ := va_Tof (tm := .static "GrowingStacks" "AT_FIRST" "[I") (ty := .int) (N := 6) (f := fun j => .int (mj_fn [16, 1, 1, 40, 1, 60] j)) (A := A) (by decide) (hg _ (by decide +kernel)) (va_eqt (hg (.eq (.length (.static "GrowingStacks" "AT_FIRST" "[I")) (.int 6)) (by decide +kernel))) (fun j hj => by
    match j, hj with
    | 0, _ => exact va_eqt (hg (.eq (.elem (.static "GrowingStacks" "AT_FIRST" "[I") (.int 0)) (.int 16)) (by decide +kernel))
    | 1, _ => exact va_eqt (hg (.eq (.elem (.static "GrowingStacks" "AT_FIRST" "[I") (.int 1)) (.int 1)) (by decide +kernel))
    | 2, _ => exact va_eqt (hg (.eq (.elem (.static "GrowingStacks" "AT_FIRST" "[I") (.int 2)) (.int 1)) (by decide +kernel))
    | 3, _ => exact va_eqt (hg (.eq (.elem (.static "GrowingStacks" "AT_FIRST" "[I") (.int 3)) (.int 40)) (by decide +kernel))
    | 4, _ => exact va_eqt (hg (.eq (.elem (.static "GrowingStacks" "AT_FIRST" "[I") (.int 4)) (.int 1)) (by decide +kernel))
    | 5, _ => exact va_eqt (hg (.eq (.elem (.static "GrowingStacks" "AT_FIRST" "[I") (.int 5)) (.int 60)) (by decide +kernel))
    | j + 6, hj => omega) hA
  exact ⟨t, va_Zref (hts _ (mj_at_mem (p := 2028) (by decide +kernel))) (hts _ (mj_at_mem (p := 1001) (by decide +kernel))) ht hA, hT⟩
theorem mj_classes {b : Nat} {s : State} (hts : ∀ w ∈ lw_tbl, w.before #[Value.ref b] s = true) : ∃ (dC : Nat → ClassId) (dI : Nat → Nat → Nat), ∀ (k : Nat) (q : vw_C), vwCl[k]? = some q → u_Kn s q.1 q.2.1 q.2.2 (dC k) (dI k) := by
  have hg : ∀ w ∈ mj_gw, w.before #[Value.ref b] s = true := fun w hw => hts w (List.mem_filter.mp hw).1
  obtain ⟨c0, i0, k0⟩ := u_known (C := RX0) (T := TX0) (N := 5) (n := 5) hg wX0 (hts (.instantiable RX0 5) (mj_at_mem (p := 2141) (by decide +kernel)))
  obtain ⟨c1, i1, k1⟩ := u_known (C := RX1) (T := TX1) (N := 2) (n := 2) hg wX1 (hts (.instantiable RX1 2) (mj_at_mem (p := 1096) (by decide +kernel)))
  obtain ⟨c2, i2, k2⟩ := u_known (C := RX2) (T := TX2) (N := 5) (n := 5) hg wX2 (hts (.instantiable RX2 5) (mj_at_mem (p := 2102) (by decide +kernel)))
  obtain ⟨c3, i3, k3⟩ := u_known (C := RX3) (T := TX3) (N := 1) (n := 1) hg wX3 (hts (.instantiable RX3 1) (mj_at_mem (p := 1111) (by decide +kernel)))
  obtain ⟨c4, i4, k4⟩ := u_known (C := RX4) (T := TX4) (N := 3) (n := 3) hg wX4 (hts (.instantiable RX4 3) (mj_at_mem (p := 2108) (by decide +kernel)))
  obtain ⟨c5, i5, k5⟩ := u_known (C := RX5) (T := TX5) (N := 10) (n := 10) hg wX5 (hts (.instantiable RX5 10) (mj_at_mem (p := 1054) (by decide +kernel)))
  obtain ⟨c6, i6, k6⟩ := u_known (C := RX6) (T := TX6) (N := 5) (n := 5) hg wX6 (hts (.instantiable RX6 5) (mj_at_mem (p := 1025) (by decide +kernel)))
  obtain ⟨c7, i7, k7⟩ := u_known (C := RX7) (T := TX7) (N := 18) (n := 18) hg wX7 (hts (.instantiable RX7 18) (mj_at_mem (p := 1149) (by decide +kernel)))
  obtain ⟨c8, i8, k8⟩ := u_known (C := RX8) (T := TX8) (N := 4) (n := 4) hg wX8 (hts (.instantiable RX8 4) (mj_at_mem (p := 1124) (by decide +kernel)))
  obtain ⟨c9, i9, k9⟩ := u_known (C := RX9) (T := TX9) (N := 9) (n := 9) hg wX9 (hts (.instantiable RX9 9) (mj_at_mem (p := 1048) (by decide +kernel)))
  obtain ⟨c10, i10, k10⟩ := u_known (C := RX10) (T := TX10) (N := 7) (n := 7) hg wX10 (hts (.instantiable RX10 7) (mj_at_mem (p := 1017) (by decide +kernel)))
  obtain ⟨c11, i11, k11⟩ := u_known (C := RX11) (T := TX11) (N := 15) (n := 15) hg wX11 (hts (.instantiable RX11 15) (mj_at_mem (p := 5092) (by decide +kernel)))
  refine ⟨fun k => match k with
    | 0 => c0
    | 1 => c1
    | 2 => c2
    | 3 => c3
    | 4 => c4
    | 5 => c5
    | 6 => c6
    | 7 => c7
    | 8 => c8
    | 9 => c9
    | 10 => c10
    | _ => c11, fun k => match k with
    | 0 => i0
    | 1 => i1
    | 2 => i2
    | 3 => i3
    | 4 => i4
    | 5 => i5
    | 6 => i6
    | 7 => i7
    | 8 => i8
    | 9 => i9
    | 10 => i10
    | _ => i11, ?_⟩
  intro k q hq
  match k, hq with
  | 0, hq => cases hq; exact k0
  | 1, hq => cases hq; exact k1
  | 2, hq => cases hq; exact k2
  | 3, hq => cases hq; exact k3
  | 4, hq => cases hq; exact k4
  | 5, hq => cases hq; exact k5
  | 6, hq => cases hq; exact k6
  | 7, hq => cases hq; exact k7
  | 8, hq => cases hq; exact k8
  | 9, hq => cases hq; exact k9
  | 10, hq => cases hq; exact k10
  | 11, hq => cases hq; exact k11
  | k + 12, hq => simp [vwCl] at hq
theorem mj_start {p : Program} {e : Env} {s : State} {m : MethodId} {below : List Frame} {meth : Method} {c : Code} (l : Launch) {b L : Nat} {xs : Nat → Int32} (C0 : lw_At p s m meth c b L xs) {N : Nat} {h1 : mj_h Int32}
    (hE : mj_exec mj_I mj_cds N 30 kL_law kL_law [some (.inr (some 0)), none, none, none] [] (mj_old L xs) = some (some (.inl 1), h1)) (hz1 : h1.length ≤ 600000) (hz2 : mj_sz h1 ≤ 7302250) : W p l e room_1 s m #[Value.ref b] below meth c s.heap [] 0 0 (lw_Z below #[Value.ref b] s) (entryFrame m ([Value.ref b] : List Value).toArray 4) := by
  obtain ⟨hx, hb, hr, hml, hown, hts, hX, hbl, hlocks, hgv⟩ := C0
  have hA : ∀ a : Nat, a < s.heap.size → ¬ (fun q : Nat => s.heap.size ≤ q) a := fun a ha => Nat.not_le.mpr ha
  obtain ⟨t1, z1, T1⟩ := mj_st_LEAST hts hgv hA
  obtain ⟨t2, z2, T2⟩ := mj_st_GREATEST hts hgv hA
  obtain ⟨t3, z3, T3⟩ := mj_st_AT_FIRST hts hgv hA
  obtain ⟨dC, dI, hKc⟩ := mj_classes hts
  obtain ⟨cI, kI, mI, i1, i2, i3⟩ := Cond.arrayClass_spec (hts (.arrayClass .int) (mj_at_mem (p := 1046) (by decide +kernel)))
  obtain ⟨cB, kB, mB, b1, b2, b3⟩ := Cond.arrayClass_spec (hts (.arrayClass .boolean) (mj_at_mem (p := 5147) (by decide +kernel)))
  have hao := hts (.arrayOver (.object "GrowingStacks$Task")) (mj_at_mem (p := 1094) (by decide +kernel))
  obtain ⟨mT, cT, kT, a1, -, a2, a3, a4⟩ := Cond.arrayOver_spec hao
  obtain ⟨scr, x1, x2, x3, x4, x5⟩ := hX
  have T0 : va_T .int b L (fun j => .int (xs j)) (fun q : Nat => s.heap.size ≤ q) s s.heap := ⟨scr, x1, x2, x3, by omega, by rw [x4], x5, hA b hbl⟩
  let oa : Nat → Nat := fun x => match x with
    | 0 => b
    | 1 => t1
    | 2 => t2
    | _ => t3
  let G : mj_G := (s.heap.size, s.heap, oa, (dC, dI), cI, cB, cT, mj_old L xs)
  have hK : mj_KK G s := by
    refine ⟨⟨hKc, fun k q hk => ?_⟩, fun w hw hn => ?_, hao, fun a n f ha hf => ?_, fun x h1 h2 => ?_⟩
    · match k, hk with
      | 0, hk => cases hk; exact ⟨fun n z => ⟨fun k h => (by cases h), kI, i2, mI, i3⟩, i1⟩
      | 1, hk => cases hk; exact ⟨fun n z => ⟨fun k h => (by cases h), kB, b2, mB, b3⟩, b1⟩
      | 2, hk => cases hk; exact ⟨fun n z => ⟨fun k h => (by cases h), kT, a2, mT, a3⟩, ⟨kT, mT, a2, a3, a1, a4⟩⟩
      | k + 3, hk => simp [mj_tys] at hk
    · have h := hts w hw
      cases w <;> first | exact va_Nw.of rfl h | cases hn
    · match a, ha, hf with
      | 0, _, hf => cases hf; exact T0
      | 1, _, hf => cases hf; exact T1
      | 2, _, hf => cases hf; exact T2
      | 3, _, hf => cases hf; exact T3
    · match x, h1, h2 with
      | 1, _, _ => exact z1
      | 2, _, _ => exact z2
      | 3, _, _ => exact z3
  have hR : mj_HR G (mj_old L xs) s.heap := ⟨Nat.le_refl 4, rfl, rfl, (fun k q h => by simp [mj_ws, mj_old] at h), fun q _ => rfl⟩
  have C : mj_Cx (G, eL_law, p, l, e, room_1, s, m, #[Value.ref b], below, meth, c, mj_old L xs, lw_Z below #[Value.ref b] s) :=
    ⟨hx, hb, hml, hr, hown, hlocks, (fun hq => absurd hq (by decide)), fun w hw _ => hts w hw, hK, hR, rfl, fun a ha => by
      match a, ha with
      | 0, _ => exact ⟨_, _, rfl⟩
      | 1, _ => exact ⟨_, _, rfl⟩
      | 2, _ => exact ⟨_, _, rfl⟩
      | 3, _ => exact ⟨_, _, rfl⟩⟩
  have hmem : eL_law ∈ mj_mt := by rw [mj_mt_app]; exact List.mem_append_right _ (List.mem_of_getElem? (i := 3) rfl)
  have E : mj_End (G, eL_law, p, l, e, room_1, s, m, #[Value.ref b], below, meth, c, mj_old L xs, lw_Z below #[Value.ref b] s) (some (.inl 1)) h1 := by
    intro H1 locs1 pc1 ls1 stk hR1 hlo hrt
    obtain ⟨hd, rfl, -⟩ := hrt
    refine va_forget (fun q hq => hlo q hq) ?_
    refine W.widen (k := 600000) (n := 7302250) (by omega) (by omega) ?_
    exact lw_ret hx hb hr hlocks hd
  obtain ⟨r, tl, h2, h3⟩ := mj_sound N 30 _ 0 kL_law [some (.inr (some 0)), none, none, none] [] (mj_old L xs) (some (.inl 1)) h1 C hmem rfl hE (show 30 + 1 ≤ 2048 by decide) (show 64 * (30 + 1) ≤ 84000 by decide) (by show h1.length - _ ≤ 600000; omega) (by show mj_sz h1 - _ ≤ 7302250; omega) E
  have hr0 : r.1 = 0 := by
    have hz := mj_zero eL_law hmem
    rw [show eL_law.2.2.2.2.2.2.2 = kL_law from rfl, h2] at hz
    exact hz
  rw [hr0] at h3
  have Gk := h3 s.heap [] _ hR (Nat.le_refl _) (Nat.le_refl _) (fun q hq => by cases hq) (mj_LR_entry G [.inr (some 0)] 4 (by decide))
  rw [Nat.sub_self, Nat.sub_self] at Gk
  rw [lg_entry_eq]
  exact Gk
