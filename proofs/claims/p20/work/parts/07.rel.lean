section
/-! ===== the mini-machine over Int32, and what it has to do with the machine's heap, locals and stack ===== -/
def mj_op (op : Nat) (a b : Int32) : Option Int32 := match op with
  | 0 => some (a + b)
  | 1 => some (a - b)
  | 2 => some (a * b)
  | 3 => if b = 0 then none else some (a / b)
  | 4 => if b = 0 then none else some (a - a / b * b)
  | 5 => some (a <<< (b &&& 31))
  | 6 => some (a >>> (b &&& 31))
  | 7 => some (a &&& b)
  | 8 => some (a ||| b)
  | 9 => some (-a)
  | _ => none
def mj_cm (c : Jvm.ClassFile.Cond) (a b : Int32) : Bool := match c with
  | .eq => decide (a = b)
  | .ne => !decide (a = b)
  | .lt => decide (a < b)
  | .ge => decide (b ≤ a)
  | .gt => decide (b < a)
  | .le => decide (a ≤ b)
def mj_I : mj_O Int32 := (Int32.ofInt, mj_op, fun c a b => some (mj_cm c a b), fun a => some a.toInt)
/-- what is fixed over a run: where the new cells begin, the heap then, where the four old rows lie, classes, the classes of int[], boolean[], Task[], the four old rows -/
abbrev mj_G : Type := Nat × Heap × (Nat → Nat) × va_G × ClassId × ClassId × ClassId × mj_h Int32
def mj_ad (G : mj_G) (a : Nat) : Nat := if a < 4 then G.2.2.1 a else G.1 + (a - 4)
def mj_rv (G : mj_G) (v : mj_v Int32) : Value := match v with
  | .inl x => .int x
  | .inr none => .null
  | .inr (some a) => .ref (mj_ad G a)
def mj_E (G : mj_G) (c : mj_c Int32) : va_E := match c with
  | .inl (t, n, f) => .inl (if t = 0 then G.2.2.2.2.1 else G.2.2.2.2.2.1, n, .inl f)
  | .inr (.inl (n, f)) => .inl (G.2.2.2.2.2.2.1, n, .inr (.inr (.inr (.inr fun j => (f j).map (mj_ad G)))))
  | .inr (.inr (ci, fs)) => .inr (ci, fs.map (mj_rv G))
def mj_ws (G : mj_G) (h : mj_h Int32) : va_W := (h.drop 4).mapIdx fun i c => (G.1 + i, mj_E G c)
def mj_A (G : mj_G) : Nat → Prop := fun q => G.1 ≤ q
def mj_tys (G : mj_G) : List (ClassId × FieldType) := [(G.2.2.2.2.1, .int), (G.2.2.2.2.2.1, .boolean), (G.2.2.2.2.2.2.1, .object "GrowingStacks$Task")]
def mj_HR (G : mj_G) (h : mj_h Int32) (H : Heap) : Prop := 4 ≤ h.length ∧ h.take 4 = G.2.2.2.2.2.2.2 ∧ H.size = G.1 + (h.length - 4) ∧ va_P G.2.2.2.1 vwCl (mj_ws G h) H ∧ ∀ q, q < G.1 → H[q]? = G.2.1[q]?
def mj_nst (w : Jvm.Cond) : Bool := match w with
  | .methodLinkNest .. => true
  | .fieldLinkNest .. => true
  | _ => false
def mj_KK (G : mj_G) (U : State) : Prop := va_K G.2.2.2.1 vwCl (mj_tys G) U ∧ (∀ w ∈ lw_tbl, mj_nst w = true → va_Nw w U) ∧ va_AO "GrowingStacks$Task" U ∧
  (∀ a n f, a < 4 → G.2.2.2.2.2.2.2[a]? = some (.inl (0, n, f)) → va_T .int (G.2.2.1 a) n (fun j => .int (f j)) (mj_A G) U G.2.1) ∧
  (∀ x, 1 ≤ x → x < 4 → va_Z "GrowingStacks" (mj_sn x) "[I" (.ref (G.2.2.1 x)) (mj_A G) U G.2.1)
theorem mj_KK.moved {G : mj_G} {s U : State} (hW : s.WarmedH U.vm) (h : mj_KK G s) : mj_KK G U := by
  obtain ⟨h1, h2, h3, h4, h5⟩ := h
  refine ⟨h1.moved hW.alike, fun w hw hn => ?_, h3.moved hW.alike, fun a n f ha hf => (h4 a n f ha hf).moved hW.alike, fun x a b => (h5 x a b).moved hW.alike⟩
  have h6 := h2 w hw hn
  cases w <;> first | exact h6.warmM hW | exact h6.warmF hW | cases hn
theorem mj_KK.same {G : mj_G} {s U : State} (hv : s.vm = U.vm) (h : mj_KK G s) : mj_KK G U := by
  obtain ⟨h1, h2, h3, h4, h5⟩ := h
  have hA : s.vm.Alike U.vm := by rw [hv]; exact Vm.Alike.refl _
  refine ⟨h1.moved hA, fun w hw hn => ?_, h3.moved hA, fun a n f ha hf => (h4 a n f ha hf).moved hA, fun x a b => (h5 x a b).moved hA⟩
  have h6 := h2 w hw hn
  cases w <;> first | exact h6.same rfl hv | cases hn
def mj_csz {V : Type} (c : mj_c V) : Nat := match c with
  | .inl (_, n, _) => n
  | .inr (.inl (n, _)) => n
  | .inr (.inr (_, fs)) => fs.length
def mj_sz {V : Type} (h : mj_h V) : Nat := (h.map mj_csz).sum
/-- the known locals, by their places -/
def mj_al (G : mj_G) : Nat → mj_l Int32 → List (Nat × Value)
  | _, [] => []
  | i, none :: t => mj_al G (i + 1) t
  | i, some v :: t => (i, mj_rv G v) :: mj_al G (i + 1) t
theorem mj_al_mem (G : mj_G) : ∀ (loc : mj_l Int32) (k : Nat) (q : Nat × Value), q ∈ mj_al G k loc ↔ ∃ i v, loc[i]? = some (some v) ∧ q = (k + i, mj_rv G v) := by
  intro loc
  induction loc with
  | nil => intro k q; simp [mj_al]
  | cons a t ih =>
    intro k q
    cases a with
    | none =>
      rw [mj_al, ih]
      constructor
      · rintro ⟨i, v, h1, rfl⟩
        exact ⟨i + 1, v, by simpa using h1, by rw [show k + 1 + i = k + (i + 1) by omega]⟩
      · rintro ⟨i, v, h1, rfl⟩
        cases i with
        | zero => simp at h1
        | succ i => exact ⟨i, v, by simpa using h1, by rw [show k + 1 + i = k + (i + 1) by omega]⟩
    | some w =>
      rw [mj_al, List.mem_cons, ih]
      constructor
      · rintro (rfl | ⟨i, v, h1, rfl⟩)
        · exact ⟨0, w, rfl, rfl⟩
        · exact ⟨i + 1, v, by simpa using h1, by rw [show k + 1 + i = k + (i + 1) by omega]⟩
      · rintro ⟨i, v, h1, rfl⟩
        cases i with
        | zero => left; simp at h1; rw [h1]; rfl
        | succ i => right; exact ⟨i, v, by simpa using h1, by rw [show k + 1 + i = k + (i + 1) by omega]⟩
def mj_LR (G : mj_G) (ls : Array Slot) (nL : Nat) (loc : mj_l Int32) : Prop := loc.length = nL ∧ lv_has ls nL (mj_al G 0 loc)
theorem mj_LR.get {G : mj_G} {ls : Array Slot} {nL : Nat} {loc : mj_l Int32} (h : mj_LR G ls nL loc) {i : Nat} {v : mj_v Int32} (hv : loc[i]? = some (some v)) : ls[i]? = some (.val (mj_rv G v)) := by
  have h1 := h.2.2.2 (0 + i, mj_rv G v) ((mj_al_mem G loc 0 _).mpr ⟨i, v, hv, rfl⟩)
  simpa using h1
theorem mj_rv_cat (G : mj_G) (v : mj_v Int32) : (mj_rv G v).category = 1 := by
  rcases v with x | (_ | a) <;> rfl
theorem mj_LR.set {G : mj_G} {ls ls' : Array Slot} {nL i : Nat} {loc : mj_l Int32} {v : mj_v Int32} (h : mj_LR G ls nL loc)
    (h' : lv_has ls' nL ((i, mj_rv G v) :: (mj_al G 0 loc).filter (fun q => !(q.1 == i) && !(q.1 + 1 == i && q.2.category == 2)))) : mj_LR G ls' nL (mj_put loc i (some v)) := by
  rw [mj_put_eq]
  refine ⟨by simpa using h.1, h'.1, h'.2.1, fun q hq => ?_⟩
  obtain ⟨j, w, h1, rfl⟩ := (mj_al_mem G _ 0 q).mp hq
  by_cases hj : j = i
  · subst hj
    have hlt : j < loc.length := by
      have := (List.getElem?_eq_some_iff.mp h1).1
      simpa using this
    rw [List.getElem?_set_self hlt] at h1
    cases h1
    simpa using h'.2.2 _ List.mem_cons_self
  · rw [List.getElem?_set_ne (Ne.symm hj)] at h1
    refine h'.2.2 _ (List.mem_cons_of_mem _ (List.mem_filter.mpr ⟨(mj_al_mem G loc 0 _).mpr ⟨j, w, h1, rfl⟩, ?_⟩))
    simp [mj_rv_cat, hj]
/-- all that a method's walk stands on -/
abbrev mj_X : Type := mj_G × mj_e × Program × Launch × Env × Room × State × MethodId × Array Value × List Frame × Method × Code × mj_h Int32 × (State → Prop)
def mj_Cx (X : mj_X) : Prop := match X with
  | (G, e, p, _, _, _, s, m, args, _, meth, c, h0, _) => p.tables.exec = Jvm.exec ∧ c.code = e.2.1 ∧ c.maxLocals = e.2.2.1 ∧ meth.sig.returnType = e.2.2.2.1 ∧ s.vm.findClass e.1.cls = some m.cls ∧ meth.locks = false ∧ (e.1.name = "<init>" → meth.name = "<init>") ∧
    (∀ w ∈ lw_tbl, goodWord w = true → w.before args s = true) ∧ mj_KK G s ∧ mj_HR G h0 s.heap ∧ G.2.1.size = G.1 ∧ (∀ a, a < 4 → ∃ (n : Nat) (f : Nat → Int32), G.2.2.2.2.2.2.2[a]? = some (.inl (0, n, f)))
/-- from a place, with these locals, stack and heap, the method's walk comes to its end -/
def mj_Go (X : mj_X) (pc : Nat) (loc : mj_l Int32) (st : mj_s Int32) (h : mj_h Int32) : Prop := match X with
  | (G, e, p, l, en, R, s, m, args, below, meth, c, h0, Q) => ∀ (H : Heap) (locs : List Loc) (ls : Array Slot), mj_HR G h H → h0.length ≤ h.length → mj_sz h0 ≤ mj_sz h → (∀ q ∈ locs, mj_A G q.base) → mj_LR G ls e.2.2.1 loc →
    W p l en R s m args below meth c H locs (h.length - h0.length) (mj_sz h - mj_sz h0) Q (F0 m pc ls (st.map (mj_rv G)))
section
variable {X : mj_X} {ρ : Type} {R0 : ρ} {pc : Nat} {loc : mj_l Int32} {st : mj_s Int32} {h : mj_h Int32} {kn : mj_l Int32 → mj_s Int32 → mj_h Int32 → Option ρ} {kj : Nat → mj_s Int32 → Option ρ}
theorem go_iload {i : Nat} (C : mj_Cx X) (hd : decode X.2.1.2.1 pc = .ok (.iload i, 2)) (hE : mj_iload loc st h kn none i = some R0) (K : ∀ loc' st' h1, kn loc' st' h1 = some R0 → mj_Go X (pc + 2) loc' st' h1) : mj_Go X pc loc st h := by
  rcases X with ⟨G, e, p, l, en, R, s, m, args, below, meth, c, h0, Q⟩
  obtain ⟨hx, hb, C⟩ := C
  unfold mj_iload at hE
  rw [mj_nth_eq] at hE
  split at hE
  · rename_i v hv
    intro H locs ls hR h1 h2 h3 hL
    exact lv_iload hx hb hd (hL.get hv) (K _ _ _ hE H locs ls hR h1 h2 h3 hL)
  · cases hE
theorem go_iload_n {i : Fin 4} (C : mj_Cx X) (hd : decode X.2.1.2.1 pc = .ok (.iload_n i, 1)) (hE : mj_iload loc st h kn none i.val = some R0) (K : ∀ loc' st' h1, kn loc' st' h1 = some R0 → mj_Go X (pc + 1) loc' st' h1) : mj_Go X pc loc st h := by
  rcases X with ⟨G, e, p, l, en, R, s, m, args, below, meth, c, h0, Q⟩
  obtain ⟨hx, hb, C⟩ := C
  unfold mj_iload at hE
  rw [mj_nth_eq] at hE
  split at hE
  · rename_i v hv
    intro H locs ls hR h1 h2 h3 hL
    exact lv_iload_n hx hb hd rfl (hL.get hv) (K _ _ _ hE H locs ls hR h1 h2 h3 hL)
  · cases hE
theorem go_aload {i : Nat} (C : mj_Cx X) (hd : decode X.2.1.2.1 pc = .ok (.aload i, 2)) (hE : mj_aload loc st h kn none i = some R0) (K : ∀ loc' st' h1, kn loc' st' h1 = some R0 → mj_Go X (pc + 2) loc' st' h1) : mj_Go X pc loc st h := by
  rcases X with ⟨G, e, p, l, en, R, s, m, args, below, meth, c, h0, Q⟩
  obtain ⟨hx, hb, C⟩ := C
  unfold mj_aload at hE
  rw [mj_nth_eq] at hE
  split at hE
  · rename_i v hv
    intro H locs ls hR h1 h2 h3 hL
    exact lv_aload hx hb hd (hL.get hv) (K _ _ _ hE H locs ls hR h1 h2 h3 hL)
  · cases hE
theorem go_aload_n {i : Fin 4} (C : mj_Cx X) (hd : decode X.2.1.2.1 pc = .ok (.aload_n i, 1)) (hE : mj_aload loc st h kn none i.val = some R0) (K : ∀ loc' st' h1, kn loc' st' h1 = some R0 → mj_Go X (pc + 1) loc' st' h1) : mj_Go X pc loc st h := by
  rcases X with ⟨G, e, p, l, en, R, s, m, args, below, meth, c, h0, Q⟩
  obtain ⟨hx, hb, C⟩ := C
  unfold mj_aload at hE
  rw [mj_nth_eq] at hE
  split at hE
  · rename_i v hv
    intro H locs ls hR h1 h2 h3 hL
    exact lv_aload_n hx hb hd rfl (hL.get hv) (K _ _ _ hE H locs ls hR h1 h2 h3 hL)
  · cases hE
theorem go_istore {i : Nat} (C : mj_Cx X) (hi : i < X.2.1.2.2.1) (hd : decode X.2.1.2.1 pc = .ok (.istore i, 2)) (hE : mj_istore loc st h kn none i = some R0) (K : ∀ loc' st' h1, kn loc' st' h1 = some R0 → mj_Go X (pc + 2) loc' st' h1) : mj_Go X pc loc st h := by
  rcases X with ⟨G, e, p, l, en, R, s, m, args, below, meth, c, h0, Q⟩
  obtain ⟨hx, hb, C⟩ := C
  unfold mj_istore at hE
  split at hE
  · rename_i v rest
    intro H locs ls hR h1 h2 h3 hL
    exact lv_istore hx hb hd hL.2 hi rfl fun ls' hl => K _ _ _ hE H locs ls' hR h1 h2 h3 (hL.set (v := .inl v) hl)
  · cases hE
theorem go_istore_n {i : Fin 4} (C : mj_Cx X) (hi : i.val < X.2.1.2.2.1) (hd : decode X.2.1.2.1 pc = .ok (.istore_n i, 1)) (hE : mj_istore loc st h kn none i.val = some R0) (K : ∀ loc' st' h1, kn loc' st' h1 = some R0 → mj_Go X (pc + 1) loc' st' h1) : mj_Go X pc loc st h := by
  rcases X with ⟨G, e, p, l, en, R, s, m, args, below, meth, c, h0, Q⟩
  obtain ⟨hx, hb, C⟩ := C
  unfold mj_istore at hE
  split at hE
  · rename_i v rest
    intro H locs ls hR h1 h2 h3 hL
    exact lv_istore_n hx hb hd rfl hL.2 hi rfl fun ls' hl => K _ _ _ hE H locs ls' hR h1 h2 h3 (hL.set (v := .inl v) hl)
  · cases hE
theorem go_astore {i : Nat} (C : mj_Cx X) (hi : i < X.2.1.2.2.1) (hd : decode X.2.1.2.1 pc = .ok (.astore i, 2)) (hE : mj_astore loc st h kn none i = some R0) (K : ∀ loc' st' h1, kn loc' st' h1 = some R0 → mj_Go X (pc + 2) loc' st' h1) : mj_Go X pc loc st h := by
  rcases X with ⟨G, e, p, l, en, R, s, m, args, below, meth, c, h0, Q⟩
  obtain ⟨hx, hb, C⟩ := C
  unfold mj_astore at hE
  split at hE
  · rename_i v rest
    intro H locs ls hR h1 h2 h3 hL
    exact lv_astore hx hb hd hL.2 hi rfl fun ls' hl => K _ _ _ hE H locs ls' hR h1 h2 h3 (hL.set (v := .inr (some v)) hl)
  · cases hE
theorem go_astore_n {i : Fin 4} (C : mj_Cx X) (hi : i.val < X.2.1.2.2.1) (hd : decode X.2.1.2.1 pc = .ok (.astore_n i, 1)) (hE : mj_astore loc st h kn none i.val = some R0) (K : ∀ loc' st' h1, kn loc' st' h1 = some R0 → mj_Go X (pc + 1) loc' st' h1) : mj_Go X pc loc st h := by
  rcases X with ⟨G, e, p, l, en, R, s, m, args, below, meth, c, h0, Q⟩
  obtain ⟨hx, hb, C⟩ := C
  unfold mj_astore at hE
  split at hE
  · rename_i v rest
    intro H locs ls hR h1 h2 h3 hL
    exact lv_astore_n hx hb hd rfl hL.2 hi rfl fun ls' hl => K _ _ _ hE H locs ls' hR h1 h2 h3 (hL.set (v := .inr (some v)) hl)
  · cases hE
theorem go_iconst {n : Int} (C : mj_Cx X) (hd : decode X.2.1.2.1 pc = .ok (.iconst n, 1)) (K : mj_Go X (pc + 1) loc (.inl (Int32.ofInt n) :: st) h) : mj_Go X pc loc st h := by
  rcases X with ⟨G, e, p, l, en, R, s, m, args, below, meth, c, h0, Q⟩
  obtain ⟨hx, hb, C⟩ := C
  intro H locs ls hR h1 h2 h3 hL
  exact lv_iconst hx hb hd rfl (K H locs ls hR h1 h2 h3 hL)
theorem go_bipush {n : Int} (C : mj_Cx X) (hn : (Int8.ofInt n).toInt32 = Int32.ofInt n) (hd : decode X.2.1.2.1 pc = .ok (.bipush n, 2)) (K : mj_Go X (pc + 2) loc (.inl (Int32.ofInt n) :: st) h) : mj_Go X pc loc st h := by
  rcases X with ⟨G, e, p, l, en, R, s, m, args, below, meth, c, h0, Q⟩
  obtain ⟨hx, hb, C⟩ := C
  intro H locs ls hR h1 h2 h3 hL
  exact lv_bipush hx hb hd hn (K H locs ls hR h1 h2 h3 hL)
theorem go_sipush {n : Int} (C : mj_Cx X) (hn : (Int16.ofInt n).toInt32 = Int32.ofInt n) (hd : decode X.2.1.2.1 pc = .ok (.sipush n, 3)) (K : mj_Go X (pc + 3) loc (.inl (Int32.ofInt n) :: st) h) : mj_Go X pc loc st h := by
  rcases X with ⟨G, e, p, l, en, R, s, m, args, below, meth, c, h0, Q⟩
  obtain ⟨hx, hb, C⟩ := C
  intro H locs ls hR h1 h2 h3 hL
  exact lv_sipush hx hb hd hn (K H locs ls hR h1 h2 h3 hL)
theorem go_ldc {i : Nat} {v : Int32} (C : mj_Cx X) (hw : .constant X.2.1.1.cls i v ∈ lw_tbl) (hd : decode X.2.1.2.1 pc = .ok (.ldc i, 2)) (K : mj_Go X (pc + 2) loc (.inl v :: st) h) : mj_Go X pc loc st h := by
  rcases X with ⟨G, e, p, l, en, R, s, m, args, below, meth, c, h0, Q⟩
  obtain ⟨hx, hb, hml, hr, hown, hlk, hnm, hts, C⟩ := C
  intro H locs ls hR h1 h2 h3 hL
  exact lv_ldc hx hb hown (hts _ hw rfl) hd (K H locs ls hR h1 h2 h3 hL)
theorem go_ldcw {i : Nat} {v : Int32} (C : mj_Cx X) (hw : .constant X.2.1.1.cls i v ∈ lw_tbl) (hd : decode X.2.1.2.1 pc = .ok (.ldc_w i, 3)) (K : mj_Go X (pc + 3) loc (.inl v :: st) h) : mj_Go X pc loc st h := by
  rcases X with ⟨G, e, p, l, en, R, s, m, args, below, meth, c, h0, Q⟩
  obtain ⟨hx, hb, hml, hr, hown, hlk, hnm, hts, C⟩ := C
  intro H locs ls hR h1 h2 h3 hL
  exact lv_ldcw hx hb hown (hts _ hw rfl) hd (K H locs ls hR h1 h2 h3 hL)
end
end
section
section
variable {X : mj_X} {ρ : Type} {R0 : ρ} {pc : Nat} {loc : mj_l Int32} {st : mj_s Int32} {h : mj_h Int32} {kn : mj_l Int32 → mj_s Int32 → mj_h Int32 → Option ρ} {kj : Nat → mj_s Int32 → Option ρ}
theorem go_iadd (C : mj_Cx X) (hd : decode X.2.1.2.1 pc = .ok (.iadd, 1)) (hE : mj_bin mj_I loc st h kn none 0 = some R0) (K : ∀ loc' st' h1, kn loc' st' h1 = some R0 → mj_Go X (pc + 1) loc' st' h1) : mj_Go X pc loc st h := by
  rcases X with ⟨G, e, p, l, en, R, s, m, args, below, meth, c, h0, Q⟩
  obtain ⟨hx, hb, C⟩ := C
  unfold mj_bin at hE
  split at hE
  · rename_i b a rest
    split at hE
    · rename_i z hz
      intro H locs ls hR h1 h2 h3 hL
      have hz : mj_op 0 a b = some z := hz
      simp only [mj_op, Option.some.injEq] at hz
      subst hz
      exact lv_iadd hx hb hd (K _ _ _ hE H locs ls hR h1 h2 h3 hL)
    · cases hE
  · cases hE
theorem go_isub (C : mj_Cx X) (hd : decode X.2.1.2.1 pc = .ok (.isub, 1)) (hE : mj_bin mj_I loc st h kn none 1 = some R0) (K : ∀ loc' st' h1, kn loc' st' h1 = some R0 → mj_Go X (pc + 1) loc' st' h1) : mj_Go X pc loc st h := by
  rcases X with ⟨G, e, p, l, en, R, s, m, args, below, meth, c, h0, Q⟩
  obtain ⟨hx, hb, C⟩ := C
  unfold mj_bin at hE
  split at hE
  · rename_i b a rest
    split at hE
    · rename_i z hz
      intro H locs ls hR h1 h2 h3 hL
      have hz : mj_op 1 a b = some z := hz
      simp only [mj_op, Option.some.injEq] at hz
      subst hz
      exact lv_isub hx hb hd (K _ _ _ hE H locs ls hR h1 h2 h3 hL)
    · cases hE
  · cases hE
theorem go_imul (C : mj_Cx X) (hd : decode X.2.1.2.1 pc = .ok (.imul, 1)) (hE : mj_bin mj_I loc st h kn none 2 = some R0) (K : ∀ loc' st' h1, kn loc' st' h1 = some R0 → mj_Go X (pc + 1) loc' st' h1) : mj_Go X pc loc st h := by
  rcases X with ⟨G, e, p, l, en, R, s, m, args, below, meth, c, h0, Q⟩
  obtain ⟨hx, hb, C⟩ := C
  unfold mj_bin at hE
  split at hE
  · rename_i b a rest
    split at hE
    · rename_i z hz
      intro H locs ls hR h1 h2 h3 hL
      have hz : mj_op 2 a b = some z := hz
      simp only [mj_op, Option.some.injEq] at hz
      subst hz
      exact lv_imul hx hb hd (K _ _ _ hE H locs ls hR h1 h2 h3 hL)
    · cases hE
  · cases hE
theorem go_idiv (C : mj_Cx X) (hd : decode X.2.1.2.1 pc = .ok (.idiv, 1)) (hE : mj_bin mj_I loc st h kn none 3 = some R0) (K : ∀ loc' st' h1, kn loc' st' h1 = some R0 → mj_Go X (pc + 1) loc' st' h1) : mj_Go X pc loc st h := by
  rcases X with ⟨G, e, p, l, en, R, s, m, args, below, meth, c, h0, Q⟩
  obtain ⟨hx, hb, C⟩ := C
  unfold mj_bin at hE
  split at hE
  · rename_i b a rest
    split at hE
    · rename_i z hz
      intro H locs ls hR h1 h2 h3 hL
      have hz : mj_op 3 a b = some z := hz
      simp only [mj_op] at hz
      split at hz
      · cases hz
      · rename_i hne
        cases hz
        exact lv_idiv hx hb hd hne (K _ _ _ hE H locs ls hR h1 h2 h3 hL)
    · cases hE
  · cases hE
theorem go_irem (C : mj_Cx X) (hd : decode X.2.1.2.1 pc = .ok (.irem, 1)) (hE : mj_bin mj_I loc st h kn none 4 = some R0) (K : ∀ loc' st' h1, kn loc' st' h1 = some R0 → mj_Go X (pc + 1) loc' st' h1) : mj_Go X pc loc st h := by
  rcases X with ⟨G, e, p, l, en, R, s, m, args, below, meth, c, h0, Q⟩
  obtain ⟨hx, hb, C⟩ := C
  unfold mj_bin at hE
  split at hE
  · rename_i b a rest
    split at hE
    · rename_i z hz
      intro H locs ls hR h1 h2 h3 hL
      have hz : mj_op 4 a b = some z := hz
      simp only [mj_op] at hz
      split at hz
      · cases hz
      · rename_i hne
        cases hz
        exact lv_irem hx hb hd hne (K _ _ _ hE H locs ls hR h1 h2 h3 hL)
    · cases hE
  · cases hE
theorem go_ishl (C : mj_Cx X) (hd : decode X.2.1.2.1 pc = .ok (.ishl, 1)) (hE : mj_bin mj_I loc st h kn none 5 = some R0) (K : ∀ loc' st' h1, kn loc' st' h1 = some R0 → mj_Go X (pc + 1) loc' st' h1) : mj_Go X pc loc st h := by
  rcases X with ⟨G, e, p, l, en, R, s, m, args, below, meth, c, h0, Q⟩
  obtain ⟨hx, hb, C⟩ := C
  unfold mj_bin at hE
  split at hE
  · rename_i b a rest
    split at hE
    · rename_i z hz
      intro H locs ls hR h1 h2 h3 hL
      have hz : mj_op 5 a b = some z := hz
      simp only [mj_op, Option.some.injEq] at hz
      subst hz
      exact lv_ishl hx hb hd (K _ _ _ hE H locs ls hR h1 h2 h3 hL)
    · cases hE
  · cases hE
theorem go_ishr (C : mj_Cx X) (hd : decode X.2.1.2.1 pc = .ok (.ishr, 1)) (hE : mj_bin mj_I loc st h kn none 6 = some R0) (K : ∀ loc' st' h1, kn loc' st' h1 = some R0 → mj_Go X (pc + 1) loc' st' h1) : mj_Go X pc loc st h := by
  rcases X with ⟨G, e, p, l, en, R, s, m, args, below, meth, c, h0, Q⟩
  obtain ⟨hx, hb, C⟩ := C
  unfold mj_bin at hE
  split at hE
  · rename_i b a rest
    split at hE
    · rename_i z hz
      intro H locs ls hR h1 h2 h3 hL
      have hz : mj_op 6 a b = some z := hz
      simp only [mj_op, Option.some.injEq] at hz
      subst hz
      exact lv_ishr hx hb hd (K _ _ _ hE H locs ls hR h1 h2 h3 hL)
    · cases hE
  · cases hE
theorem go_iand (C : mj_Cx X) (hd : decode X.2.1.2.1 pc = .ok (.iand, 1)) (hE : mj_bin mj_I loc st h kn none 7 = some R0) (K : ∀ loc' st' h1, kn loc' st' h1 = some R0 → mj_Go X (pc + 1) loc' st' h1) : mj_Go X pc loc st h := by
  rcases X with ⟨G, e, p, l, en, R, s, m, args, below, meth, c, h0, Q⟩
  obtain ⟨hx, hb, C⟩ := C
  unfold mj_bin at hE
  split at hE
  · rename_i b a rest
    split at hE
    · rename_i z hz
      intro H locs ls hR h1 h2 h3 hL
      have hz : mj_op 7 a b = some z := hz
      simp only [mj_op, Option.some.injEq] at hz
      subst hz
      exact lv_iand hx hb hd (K _ _ _ hE H locs ls hR h1 h2 h3 hL)
    · cases hE
  · cases hE
theorem go_ior (C : mj_Cx X) (hd : decode X.2.1.2.1 pc = .ok (.ior, 1)) (hE : mj_bin mj_I loc st h kn none 8 = some R0) (K : ∀ loc' st' h1, kn loc' st' h1 = some R0 → mj_Go X (pc + 1) loc' st' h1) : mj_Go X pc loc st h := by
  rcases X with ⟨G, e, p, l, en, R, s, m, args, below, meth, c, h0, Q⟩
  obtain ⟨hx, hb, C⟩ := C
  unfold mj_bin at hE
  split at hE
  · rename_i b a rest
    split at hE
    · rename_i z hz
      intro H locs ls hR h1 h2 h3 hL
      have hz : mj_op 8 a b = some z := hz
      simp only [mj_op, Option.some.injEq] at hz
      subst hz
      exact lv_ior hx hb hd (K _ _ _ hE H locs ls hR h1 h2 h3 hL)
    · cases hE
  · cases hE
theorem go_ineg (C : mj_Cx X) (hd : decode X.2.1.2.1 pc = .ok (.ineg, 1)) (hE : mj_neg mj_I loc st h kn none = some R0) (K : ∀ loc' st' h1, kn loc' st' h1 = some R0 → mj_Go X (pc + 1) loc' st' h1) : mj_Go X pc loc st h := by
  rcases X with ⟨G, e, p, l, en, R, s, m, args, below, meth, c, h0, Q⟩
  obtain ⟨hx, hb, C⟩ := C
  unfold mj_neg at hE
  split at hE
  · rename_i a rest
    split at hE
    · rename_i z hz
      intro H locs ls hR h1 h2 h3 hL
      have hz : mj_op 9 a a = some z := hz
      simp only [mj_op, Option.some.injEq] at hz
      subst hz
      exact lv_ineg hx hb hd (K _ _ _ hE H locs ls hR h1 h2 h3 hL)
    · cases hE
  · cases hE
theorem go_iinc {i : Nat} {n : Int} (C : mj_Cx X) (hi : i < X.2.1.2.2.1) (hd : decode X.2.1.2.1 pc = .ok (.iinc i n, 3)) (hE : mj_iinc mj_I loc st h kn none i n = some R0) (K : ∀ loc' st' h1, kn loc' st' h1 = some R0 → mj_Go X (pc + 3) loc' st' h1) : mj_Go X pc loc st h := by
  rcases X with ⟨G, e, p, l, en, R, s, m, args, below, meth, c, h0, Q⟩
  obtain ⟨hx, hb, C⟩ := C
  unfold mj_iinc at hE
  rw [mj_nth_eq] at hE
  split at hE
  · rename_i a hv
    split at hE
    · rename_i z hz
      intro H locs ls hR h1 h2 h3 hL
      have hz : mj_op 0 a (Int32.ofInt n) = some z := hz
      simp only [mj_op, Option.some.injEq] at hz
      have hm : (i, Value.int a) ∈ mj_al G 0 loc := (mj_al_mem G loc 0 _).mpr ⟨i, _, hv, by rw [Nat.zero_add]; rfl⟩
      obtain ⟨k, hk⟩ := List.getElem?_of_mem hm
      exact lv_iinc hx hb hd hL.2 hk hz hi rfl fun ls' hl => K _ _ _ hE H locs ls' hR h1 h2 h3 (hL.set (v := .inl z) hl)
    · cases hE
  · cases hE
theorem go_icmp_eq {off : Int} {x tgt : Nat} (C : mj_Cx X) (hd : decode X.2.1.2.1 pc = .ok (.if_icmp .eq off, 3)) (ht : (pc : Int) + off = (tgt : Int)) (hE : mj_icmp mj_I x loc st h kn kj none .eq = some R0) (K : ∀ loc' st' h1, kn loc' st' h1 = some R0 → mj_Go X (pc + 3) loc' st' h1) (J : ∀ st', kj x st' = some R0 → mj_Go X tgt loc st' h) : mj_Go X pc loc st h := by
  rcases X with ⟨G, e, p, l, en, R, s, m, args, below, meth, c, h0, Q⟩
  obtain ⟨hx, hb, C⟩ := C
  unfold mj_icmp at hE
  split at hE
  · rename_i b a rest
    intro H locs ls hR h1 h2 h3 hL
    have hcm : ∀ q, mj_cm .eq a b = q → (match some q with
      | some true => kj x rest
      | some false => kn loc rest h
      | none => none) = some R0 := fun q hq => by rw [← hq]; exact hE
    refine lv_icmp_eq hx hb hd ht (fun q => J _ (hcm true ?_) H locs ls hR h1 h2 h3 hL) (fun q => K _ _ _ (hcm false ?_) H locs ls hR h1 h2 h3 hL)
    · simp only [mj_cm, decide_eq_true_eq, Bool.not_eq_true', decide_eq_false_iff_not]; exact q
    · simp only [mj_cm, decide_eq_false_iff_not, Bool.not_eq_false', decide_eq_true_eq]; exact q
  · cases hE
theorem go_ifc_eq {off : Int} {x tgt : Nat} (C : mj_Cx X) (hd : decode X.2.1.2.1 pc = .ok (.ifCond .eq off, 3)) (ht : (pc : Int) + off = (tgt : Int)) (hE : mj_ifc mj_I x loc st h kn kj none .eq = some R0) (K : ∀ loc' st' h1, kn loc' st' h1 = some R0 → mj_Go X (pc + 3) loc' st' h1) (J : ∀ st', kj x st' = some R0 → mj_Go X tgt loc st' h) : mj_Go X pc loc st h := by
  rcases X with ⟨G, e, p, l, en, R, s, m, args, below, meth, c, h0, Q⟩
  obtain ⟨hx, hb, C⟩ := C
  unfold mj_ifc at hE
  split at hE
  · rename_i a rest
    intro H locs ls hR h1 h2 h3 hL
    have hcm : ∀ q, mj_cm .eq a (Int32.ofInt 0) = q → (match some q with
      | some true => kj x rest
      | some false => kn loc rest h
      | none => none) = some R0 := fun q hq => by rw [← hq]; exact hE
    refine lv_if_eq hx hb hd ht (fun q => J _ (hcm true ?_) H locs ls hR h1 h2 h3 hL) (fun q => K _ _ _ (hcm false ?_) H locs ls hR h1 h2 h3 hL)
    · simp only [mj_cm, decide_eq_true_eq, Bool.not_eq_true', decide_eq_false_iff_not]; exact q
    · simp only [mj_cm, decide_eq_false_iff_not, Bool.not_eq_false', decide_eq_true_eq]; exact q
  · cases hE
theorem go_icmp_ne {off : Int} {x tgt : Nat} (C : mj_Cx X) (hd : decode X.2.1.2.1 pc = .ok (.if_icmp .ne off, 3)) (ht : (pc : Int) + off = (tgt : Int)) (hE : mj_icmp mj_I x loc st h kn kj none .ne = some R0) (K : ∀ loc' st' h1, kn loc' st' h1 = some R0 → mj_Go X (pc + 3) loc' st' h1) (J : ∀ st', kj x st' = some R0 → mj_Go X tgt loc st' h) : mj_Go X pc loc st h := by
  rcases X with ⟨G, e, p, l, en, R, s, m, args, below, meth, c, h0, Q⟩
  obtain ⟨hx, hb, C⟩ := C
  unfold mj_icmp at hE
  split at hE
  · rename_i b a rest
    intro H locs ls hR h1 h2 h3 hL
    have hcm : ∀ q, mj_cm .ne a b = q → (match some q with
      | some true => kj x rest
      | some false => kn loc rest h
      | none => none) = some R0 := fun q hq => by rw [← hq]; exact hE
    refine lv_icmp_ne hx hb hd ht (fun q => J _ (hcm true ?_) H locs ls hR h1 h2 h3 hL) (fun q => K _ _ _ (hcm false ?_) H locs ls hR h1 h2 h3 hL)
    · simp only [mj_cm, decide_eq_true_eq, Bool.not_eq_true', decide_eq_false_iff_not]; exact q
    · simp only [mj_cm, decide_eq_false_iff_not, Bool.not_eq_false', decide_eq_true_eq]; exact q
  · cases hE
theorem go_ifc_ne {off : Int} {x tgt : Nat} (C : mj_Cx X) (hd : decode X.2.1.2.1 pc = .ok (.ifCond .ne off, 3)) (ht : (pc : Int) + off = (tgt : Int)) (hE : mj_ifc mj_I x loc st h kn kj none .ne = some R0) (K : ∀ loc' st' h1, kn loc' st' h1 = some R0 → mj_Go X (pc + 3) loc' st' h1) (J : ∀ st', kj x st' = some R0 → mj_Go X tgt loc st' h) : mj_Go X pc loc st h := by
  rcases X with ⟨G, e, p, l, en, R, s, m, args, below, meth, c, h0, Q⟩
  obtain ⟨hx, hb, C⟩ := C
  unfold mj_ifc at hE
  split at hE
  · rename_i a rest
    intro H locs ls hR h1 h2 h3 hL
    have hcm : ∀ q, mj_cm .ne a (Int32.ofInt 0) = q → (match some q with
      | some true => kj x rest
      | some false => kn loc rest h
      | none => none) = some R0 := fun q hq => by rw [← hq]; exact hE
    refine lv_if_ne hx hb hd ht (fun q => J _ (hcm true ?_) H locs ls hR h1 h2 h3 hL) (fun q => K _ _ _ (hcm false ?_) H locs ls hR h1 h2 h3 hL)
    · simp only [mj_cm, decide_eq_true_eq, Bool.not_eq_true', decide_eq_false_iff_not]; exact q
    · simp only [mj_cm, decide_eq_false_iff_not, Bool.not_eq_false', decide_eq_true_eq]; exact q
  · cases hE
theorem go_icmp_lt {off : Int} {x tgt : Nat} (C : mj_Cx X) (hd : decode X.2.1.2.1 pc = .ok (.if_icmp .lt off, 3)) (ht : (pc : Int) + off = (tgt : Int)) (hE : mj_icmp mj_I x loc st h kn kj none .lt = some R0) (K : ∀ loc' st' h1, kn loc' st' h1 = some R0 → mj_Go X (pc + 3) loc' st' h1) (J : ∀ st', kj x st' = some R0 → mj_Go X tgt loc st' h) : mj_Go X pc loc st h := by
  rcases X with ⟨G, e, p, l, en, R, s, m, args, below, meth, c, h0, Q⟩
  obtain ⟨hx, hb, C⟩ := C
  unfold mj_icmp at hE
  split at hE
  · rename_i b a rest
    intro H locs ls hR h1 h2 h3 hL
    have hcm : ∀ q, mj_cm .lt a b = q → (match some q with
      | some true => kj x rest
      | some false => kn loc rest h
      | none => none) = some R0 := fun q hq => by rw [← hq]; exact hE
    refine lv_icmp_lt hx hb hd ht (fun q => J _ (hcm true ?_) H locs ls hR h1 h2 h3 hL) (fun q => K _ _ _ (hcm false ?_) H locs ls hR h1 h2 h3 hL)
    · simp only [mj_cm, decide_eq_true_eq, Bool.not_eq_true', decide_eq_false_iff_not]; exact q
    · simp only [mj_cm, decide_eq_false_iff_not, Bool.not_eq_false', decide_eq_true_eq]; exact q
  · cases hE
theorem go_ifc_lt {off : Int} {x tgt : Nat} (C : mj_Cx X) (hd : decode X.2.1.2.1 pc = .ok (.ifCond .lt off, 3)) (ht : (pc : Int) + off = (tgt : Int)) (hE : mj_ifc mj_I x loc st h kn kj none .lt = some R0) (K : ∀ loc' st' h1, kn loc' st' h1 = some R0 → mj_Go X (pc + 3) loc' st' h1) (J : ∀ st', kj x st' = some R0 → mj_Go X tgt loc st' h) : mj_Go X pc loc st h := by
  rcases X with ⟨G, e, p, l, en, R, s, m, args, below, meth, c, h0, Q⟩
  obtain ⟨hx, hb, C⟩ := C
  unfold mj_ifc at hE
  split at hE
  · rename_i a rest
    intro H locs ls hR h1 h2 h3 hL
    have hcm : ∀ q, mj_cm .lt a (Int32.ofInt 0) = q → (match some q with
      | some true => kj x rest
      | some false => kn loc rest h
      | none => none) = some R0 := fun q hq => by rw [← hq]; exact hE
    refine lv_if_lt hx hb hd ht (fun q => J _ (hcm true ?_) H locs ls hR h1 h2 h3 hL) (fun q => K _ _ _ (hcm false ?_) H locs ls hR h1 h2 h3 hL)
    · simp only [mj_cm, decide_eq_true_eq, Bool.not_eq_true', decide_eq_false_iff_not]; exact q
    · simp only [mj_cm, decide_eq_false_iff_not, Bool.not_eq_false', decide_eq_true_eq]; exact q
  · cases hE
theorem go_icmp_ge {off : Int} {x tgt : Nat} (C : mj_Cx X) (hd : decode X.2.1.2.1 pc = .ok (.if_icmp .ge off, 3)) (ht : (pc : Int) + off = (tgt : Int)) (hE : mj_icmp mj_I x loc st h kn kj none .ge = some R0) (K : ∀ loc' st' h1, kn loc' st' h1 = some R0 → mj_Go X (pc + 3) loc' st' h1) (J : ∀ st', kj x st' = some R0 → mj_Go X tgt loc st' h) : mj_Go X pc loc st h := by
  rcases X with ⟨G, e, p, l, en, R, s, m, args, below, meth, c, h0, Q⟩
  obtain ⟨hx, hb, C⟩ := C
  unfold mj_icmp at hE
  split at hE
  · rename_i b a rest
    intro H locs ls hR h1 h2 h3 hL
    have hcm : ∀ q, mj_cm .ge a b = q → (match some q with
      | some true => kj x rest
      | some false => kn loc rest h
      | none => none) = some R0 := fun q hq => by rw [← hq]; exact hE
    refine lv_icmp_ge hx hb hd ht (fun q => J _ (hcm true ?_) H locs ls hR h1 h2 h3 hL) (fun q => K _ _ _ (hcm false ?_) H locs ls hR h1 h2 h3 hL)
    · simp only [mj_cm, decide_eq_true_eq, Bool.not_eq_true', decide_eq_false_iff_not]; exact q
    · simp only [mj_cm, decide_eq_false_iff_not, Bool.not_eq_false', decide_eq_true_eq]; exact q
  · cases hE
theorem go_ifc_ge {off : Int} {x tgt : Nat} (C : mj_Cx X) (hd : decode X.2.1.2.1 pc = .ok (.ifCond .ge off, 3)) (ht : (pc : Int) + off = (tgt : Int)) (hE : mj_ifc mj_I x loc st h kn kj none .ge = some R0) (K : ∀ loc' st' h1, kn loc' st' h1 = some R0 → mj_Go X (pc + 3) loc' st' h1) (J : ∀ st', kj x st' = some R0 → mj_Go X tgt loc st' h) : mj_Go X pc loc st h := by
  rcases X with ⟨G, e, p, l, en, R, s, m, args, below, meth, c, h0, Q⟩
  obtain ⟨hx, hb, C⟩ := C
  unfold mj_ifc at hE
  split at hE
  · rename_i a rest
    intro H locs ls hR h1 h2 h3 hL
    have hcm : ∀ q, mj_cm .ge a (Int32.ofInt 0) = q → (match some q with
      | some true => kj x rest
      | some false => kn loc rest h
      | none => none) = some R0 := fun q hq => by rw [← hq]; exact hE
    refine lv_if_ge hx hb hd ht (fun q => J _ (hcm true ?_) H locs ls hR h1 h2 h3 hL) (fun q => K _ _ _ (hcm false ?_) H locs ls hR h1 h2 h3 hL)
    · simp only [mj_cm, decide_eq_true_eq, Bool.not_eq_true', decide_eq_false_iff_not]; exact q
    · simp only [mj_cm, decide_eq_false_iff_not, Bool.not_eq_false', decide_eq_true_eq]; exact q
  · cases hE
theorem go_icmp_gt {off : Int} {x tgt : Nat} (C : mj_Cx X) (hd : decode X.2.1.2.1 pc = .ok (.if_icmp .gt off, 3)) (ht : (pc : Int) + off = (tgt : Int)) (hE : mj_icmp mj_I x loc st h kn kj none .gt = some R0) (K : ∀ loc' st' h1, kn loc' st' h1 = some R0 → mj_Go X (pc + 3) loc' st' h1) (J : ∀ st', kj x st' = some R0 → mj_Go X tgt loc st' h) : mj_Go X pc loc st h := by
  rcases X with ⟨G, e, p, l, en, R, s, m, args, below, meth, c, h0, Q⟩
  obtain ⟨hx, hb, C⟩ := C
  unfold mj_icmp at hE
  split at hE
  · rename_i b a rest
    intro H locs ls hR h1 h2 h3 hL
    have hcm : ∀ q, mj_cm .gt a b = q → (match some q with
      | some true => kj x rest
      | some false => kn loc rest h
      | none => none) = some R0 := fun q hq => by rw [← hq]; exact hE
    refine lv_icmp_gt hx hb hd ht (fun q => J _ (hcm true ?_) H locs ls hR h1 h2 h3 hL) (fun q => K _ _ _ (hcm false ?_) H locs ls hR h1 h2 h3 hL)
    · simp only [mj_cm, decide_eq_true_eq, Bool.not_eq_true', decide_eq_false_iff_not]; exact q
    · simp only [mj_cm, decide_eq_false_iff_not, Bool.not_eq_false', decide_eq_true_eq]; exact q
  · cases hE
theorem go_ifc_gt {off : Int} {x tgt : Nat} (C : mj_Cx X) (hd : decode X.2.1.2.1 pc = .ok (.ifCond .gt off, 3)) (ht : (pc : Int) + off = (tgt : Int)) (hE : mj_ifc mj_I x loc st h kn kj none .gt = some R0) (K : ∀ loc' st' h1, kn loc' st' h1 = some R0 → mj_Go X (pc + 3) loc' st' h1) (J : ∀ st', kj x st' = some R0 → mj_Go X tgt loc st' h) : mj_Go X pc loc st h := by
  rcases X with ⟨G, e, p, l, en, R, s, m, args, below, meth, c, h0, Q⟩
  obtain ⟨hx, hb, C⟩ := C
  unfold mj_ifc at hE
  split at hE
  · rename_i a rest
    intro H locs ls hR h1 h2 h3 hL
    have hcm : ∀ q, mj_cm .gt a (Int32.ofInt 0) = q → (match some q with
      | some true => kj x rest
      | some false => kn loc rest h
      | none => none) = some R0 := fun q hq => by rw [← hq]; exact hE
    refine lv_if_gt hx hb hd ht (fun q => J _ (hcm true ?_) H locs ls hR h1 h2 h3 hL) (fun q => K _ _ _ (hcm false ?_) H locs ls hR h1 h2 h3 hL)
    · simp only [mj_cm, decide_eq_true_eq, Bool.not_eq_true', decide_eq_false_iff_not]; exact q
    · simp only [mj_cm, decide_eq_false_iff_not, Bool.not_eq_false', decide_eq_true_eq]; exact q
  · cases hE
theorem go_icmp_le {off : Int} {x tgt : Nat} (C : mj_Cx X) (hd : decode X.2.1.2.1 pc = .ok (.if_icmp .le off, 3)) (ht : (pc : Int) + off = (tgt : Int)) (hE : mj_icmp mj_I x loc st h kn kj none .le = some R0) (K : ∀ loc' st' h1, kn loc' st' h1 = some R0 → mj_Go X (pc + 3) loc' st' h1) (J : ∀ st', kj x st' = some R0 → mj_Go X tgt loc st' h) : mj_Go X pc loc st h := by
  rcases X with ⟨G, e, p, l, en, R, s, m, args, below, meth, c, h0, Q⟩
  obtain ⟨hx, hb, C⟩ := C
  unfold mj_icmp at hE
  split at hE
  · rename_i b a rest
    intro H locs ls hR h1 h2 h3 hL
    have hcm : ∀ q, mj_cm .le a b = q → (match some q with
      | some true => kj x rest
      | some false => kn loc rest h
      | none => none) = some R0 := fun q hq => by rw [← hq]; exact hE
    refine lv_icmp_le hx hb hd ht (fun q => J _ (hcm true ?_) H locs ls hR h1 h2 h3 hL) (fun q => K _ _ _ (hcm false ?_) H locs ls hR h1 h2 h3 hL)
    · simp only [mj_cm, decide_eq_true_eq, Bool.not_eq_true', decide_eq_false_iff_not]; exact q
    · simp only [mj_cm, decide_eq_false_iff_not, Bool.not_eq_false', decide_eq_true_eq]; exact q
  · cases hE
theorem go_ifc_le {off : Int} {x tgt : Nat} (C : mj_Cx X) (hd : decode X.2.1.2.1 pc = .ok (.ifCond .le off, 3)) (ht : (pc : Int) + off = (tgt : Int)) (hE : mj_ifc mj_I x loc st h kn kj none .le = some R0) (K : ∀ loc' st' h1, kn loc' st' h1 = some R0 → mj_Go X (pc + 3) loc' st' h1) (J : ∀ st', kj x st' = some R0 → mj_Go X tgt loc st' h) : mj_Go X pc loc st h := by
  rcases X with ⟨G, e, p, l, en, R, s, m, args, below, meth, c, h0, Q⟩
  obtain ⟨hx, hb, C⟩ := C
  unfold mj_ifc at hE
  split at hE
  · rename_i a rest
    intro H locs ls hR h1 h2 h3 hL
    have hcm : ∀ q, mj_cm .le a (Int32.ofInt 0) = q → (match some q with
      | some true => kj x rest
      | some false => kn loc rest h
      | none => none) = some R0 := fun q hq => by rw [← hq]; exact hE
    refine lv_if_le hx hb hd ht (fun q => J _ (hcm true ?_) H locs ls hR h1 h2 h3 hL) (fun q => K _ _ _ (hcm false ?_) H locs ls hR h1 h2 h3 hL)
    · simp only [mj_cm, decide_eq_true_eq, Bool.not_eq_true', decide_eq_false_iff_not]; exact q
    · simp only [mj_cm, decide_eq_false_iff_not, Bool.not_eq_false', decide_eq_true_eq]; exact q
  · cases hE
theorem go_goto {off : Int} {x tgt : Nat} (C : mj_Cx X) (hd : decode X.2.1.2.1 pc = .ok (.goto off, 3)) (ht : (pc : Int) + off = (tgt : Int)) (J : mj_Go X tgt loc st h) : mj_Go X pc loc st h := by
  rcases X with ⟨G, e, p, l, en, R, s, m, args, below, meth, c, h0, Q⟩
  obtain ⟨hx, hb, C⟩ := C
  intro H locs ls hR h1 h2 h3 hL
  exact lv_goto hx hb hd ht (J H locs ls hR h1 h2 h3 hL)
theorem go_tab {x : Nat} {xs : List Nat} {len : Nat} {d lo hi : Int} {offs : Array Int} {tg : Nat → Nat} (C : mj_Cx X) (hd : decode X.2.1.2.1 pc = .ok (.tableswitch d lo hi offs, len)) (ht : (pc : Int) + d = (tg x : Int)) (hlen : offs.toList.length = xs.length) (hts : ∀ (i : Nat) (o : Int) (j : Nat), offs[i]? = some o → xs[i]? = some j → (pc : Int) + o = (tg j : Int)) (hE : mj_tab mj_I x xs st kj none lo hi = some R0) (J : ∀ j st', kj j st' = some R0 → mj_Go X (tg j) loc st' h) : mj_Go X pc loc st h := by
  rcases X with ⟨G, e, p, l, en, R, s, m, args, below, meth, c, h0, Q⟩
  obtain ⟨hx, hb, C⟩ := C
  unfold mj_tab at hE
  split at hE
  · rename_i a rest
    intro H locs ls hR h1 h2 h3 hL
    dsimp only [mj_I] at hE
    split at hE
    · rename_i hq
      simp only [Bool.or_eq_true, decide_eq_true_eq] at hq
      exact lv_tableOut hx hb hd hq ht (J _ _ hE H locs ls hR h1 h2 h3 hL)
    · rename_i hq
      simp only [Bool.or_eq_false_iff, decide_eq_false_iff_not] at hq
      rw [mj_nth_eq] at hE
      split at hE
      · rename_i t htt
        have hlt : (a.toInt - lo).toNat < xs.length := (List.getElem?_eq_some_iff.mp htt).1
        have hlt2 : (a.toInt - lo).toNat < offs.size := by rw [← hlen] at hlt; simpa using hlt
        have ho : offs[(a.toInt - lo).toNat]? = some offs[(a.toInt - lo).toNat] := Array.getElem?_eq_getElem hlt2
        exact lv_tableIn hx hb hd hq.1 hq.2 ho (hts _ _ _ ho htt) (J _ _ hE H locs ls hR h1 h2 h3 hL)
      · cases hE
  · cases hE
theorem go_dup (C : mj_Cx X) (hd : decode X.2.1.2.1 pc = .ok (.dup, 1)) (hE : mj_dup loc st h kn none = some R0) (K : ∀ loc' st' h1, kn loc' st' h1 = some R0 → mj_Go X (pc + 1) loc' st' h1) : mj_Go X pc loc st h := by
  rcases X with ⟨G, e, p, l, en, R, s, m, args, below, meth, c, h0, Q⟩
  obtain ⟨hx, hb, C⟩ := C
  unfold mj_dup at hE
  split at hE
  · rename_i v rest
    intro H locs ls hR h1 h2 h3 hL
    exact lv_dup hx hb hd (mj_rv_cat G v) (K _ _ _ hE H locs ls hR h1 h2 h3 hL)
  · cases hE
theorem go_pop (C : mj_Cx X) (hd : decode X.2.1.2.1 pc = .ok (.pop, 1)) (hE : mj_pop loc st h kn none = some R0) (K : ∀ loc' st' h1, kn loc' st' h1 = some R0 → mj_Go X (pc + 1) loc' st' h1) : mj_Go X pc loc st h := by
  rcases X with ⟨G, e, p, l, en, R, s, m, args, below, meth, c, h0, Q⟩
  obtain ⟨hx, hb, C⟩ := C
  unfold mj_pop at hE
  split at hE
  · rename_i v rest
    intro H locs ls hR h1 h2 h3 hL
    exact lv_pop hx hb hd (mj_rv_cat G v) (K _ _ _ hE H locs ls hR h1 h2 h3 hL)
  · cases hE
theorem go_dup2 (C : mj_Cx X) (hd : decode X.2.1.2.1 pc = .ok (.dup2, 1)) (hE : mj_dup2 loc st h kn none = some R0) (K : ∀ loc' st' h1, kn loc' st' h1 = some R0 → mj_Go X (pc + 1) loc' st' h1) : mj_Go X pc loc st h := by
  rcases X with ⟨G, e, p, l, en, R, s, m, args, below, meth, c, h0, Q⟩
  obtain ⟨hx, hb, C⟩ := C
  unfold mj_dup2 at hE
  split at hE
  · rename_i v w rest
    intro H locs ls hR h1 h2 h3 hL
    exact lv_dup2_11 hx hb hd (mj_rv_cat G v) (mj_rv_cat G w) (K _ _ _ hE H locs ls hR h1 h2 h3 hL)
  · cases hE
end
end
