/-! ===== heaps only grow ===== -/
section
variable {V α : Type} {O : mj_O V} {x : Nat} {xs : List Nat} {loc : mj_l V} {st : mj_s V} {h : mj_h V} {kn : mj_l V → mj_s V → mj_h V → α} {kj : Nat → mj_s V → α} {kc : Nat → Nat → List (mj_v V) → mj_s V → α} {kr : Option (mj_v V) → α} {sp : α} {P : α → Prop}
theorem mj_Pput (Pn : ∀ l s h', h.length ≤ h'.length → mj_sz h ≤ mj_sz h' → P (kn l s h')) {a : Nat} {c0 c' : mj_c V} (hc : mj_nth h a = some c0) (e : mj_csz c' = mj_csz c0) {l : mj_l V} {s : mj_s V} : P (kn l s (mj_put h a c')) := by
  rw [mj_nth_eq] at hc
  obtain ⟨s1, s2⟩ := mj_sz_put hc e
  exact Pn _ _ _ (by rw [s2]; exact Nat.le_refl _) (by rw [s1]; exact Nat.le_refl _)
theorem mj_PputA (Pn : ∀ l s h', h.length ≤ h'.length → mj_sz h ≤ mj_sz h' → P (kn l s h')) {a t n : Nat} {f f' : Nat → V} (hc : mj_nth h a = some (.inl (t, n, f))) {l : mj_l V} {s : mj_s V} : P (kn l s (mj_put h a (.inl (t, n, f')))) := mj_Pput (c' := .inl (t, n, f')) Pn hc rfl
theorem mj_PputR (Pn : ∀ l s h', h.length ≤ h'.length → mj_sz h ≤ mj_sz h' → P (kn l s h')) {a n : Nat} {f f' : Nat → Option Nat} (hc : mj_nth h a = some (.inr (.inl (n, f)))) {l : mj_l V} {s : mj_s V} : P (kn l s (mj_put h a (.inr (.inl (n, f'))))) := mj_Pput (c' := .inr (.inl (n, f'))) Pn hc rfl
theorem mj_PputO (Pn : ∀ l s h', h.length ≤ h'.length → mj_sz h ≤ mj_sz h' → P (kn l s h')) {a c k : Nat} {fs : List (mj_v V)} {v : mj_v V} (hc : mj_nth h a = some (.inr (.inr (c, fs)))) {l : mj_l V} {s : mj_s V} : P (kn l s (mj_put h a (.inr (.inr (c, mj_put fs k v))))) := mj_Pput Pn hc (by show (mj_put fs k v).length = fs.length; rw [mj_put_eq]; simp)
theorem mj_Papp (Pn : ∀ l s h', h.length ≤ h'.length → mj_sz h ≤ mj_sz h' → P (kn l s h')) {c' : mj_c V} {l : mj_l V} {s : mj_s V} : P (kn l s (mj_app h c')) := by
  obtain ⟨s1, s2⟩ := mj_sz_app (h := h) (c' := c')
  exact Pn _ _ _ (by rw [s2]; omega) (by rw [s1]; omega)
theorem mj_Pcall (Pc : ∀ k ml as rest, P (kc k ml as rest)) (Ps : P sp) : P (mj_call x xs st h kc sp) := by
  unfold mj_call
  repeat' split
  all_goals first | exact Ps | exact Pc _ _ _ _
theorem mj_Pacopy (Pn : ∀ l s h', h.length ≤ h'.length → mj_sz h ≤ mj_sz h' → P (kn l s h')) (Ps : P sp) : P (mj_acopy O loc st h kn sp) := by
  unfold mj_acopy
  repeat' split
  all_goals first | exact Ps | exact mj_PputA Pn (by assumption) | exact mj_PputR Pn (by assumption)
set_option maxHeartbeats 4000000 in
theorem mj_step_inv (Pn : ∀ l s h', h.length ≤ h'.length → mj_sz h ≤ mj_sz h' → P (kn l s h')) (Pj : ∀ j s, P (kj j s)) (Pc : ∀ k ml as rest, P (kc k ml as rest)) (Pr : ∀ v, P (kr v)) (Ps : P sp) (ins : Instr) : P (mj_step O x xs loc st h kn kj kc kr sp ins) := by
  have P0 : ∀ l s, P (kn l s h) := fun l s => Pn l s h (Nat.le_refl _) (Nat.le_refl _)
  unfold mj_step
  split
  · unfold mj_iload
    repeat' split
    all_goals first | exact Ps | exact P0 _ _
  · unfold mj_iload
    repeat' split
    all_goals first | exact Ps | exact P0 _ _
  · unfold mj_aload
    repeat' split
    all_goals first | exact Ps | exact P0 _ _
  · unfold mj_aload
    repeat' split
    all_goals first | exact Ps | exact P0 _ _
  · unfold mj_istore
    repeat' split
    all_goals first | exact Ps | exact P0 _ _
  · unfold mj_istore
    repeat' split
    all_goals first | exact Ps | exact P0 _ _
  · unfold mj_astore
    repeat' split
    all_goals first | exact Ps | exact P0 _ _
  · unfold mj_astore
    repeat' split
    all_goals first | exact Ps | exact P0 _ _
  · exact P0 _ _
  · exact P0 _ _
  · exact P0 _ _
  · exact P0 _ _
  · exact P0 _ _
  · unfold mj_bin
    repeat' split
    all_goals first | exact Ps | exact P0 _ _
  · unfold mj_bin
    repeat' split
    all_goals first | exact Ps | exact P0 _ _
  · unfold mj_bin
    repeat' split
    all_goals first | exact Ps | exact P0 _ _
  · unfold mj_bin
    repeat' split
    all_goals first | exact Ps | exact P0 _ _
  · unfold mj_bin
    repeat' split
    all_goals first | exact Ps | exact P0 _ _
  · unfold mj_bin
    repeat' split
    all_goals first | exact Ps | exact P0 _ _
  · unfold mj_bin
    repeat' split
    all_goals first | exact Ps | exact P0 _ _
  · unfold mj_bin
    repeat' split
    all_goals first | exact Ps | exact P0 _ _
  · unfold mj_bin
    repeat' split
    all_goals first | exact Ps | exact P0 _ _
  · unfold mj_neg
    repeat' split
    all_goals first | exact Ps | exact P0 _ _
  · unfold mj_iinc
    repeat' split
    all_goals first | exact Ps | exact P0 _ _
  · unfold mj_icmp
    repeat' split
    all_goals first | exact Ps | exact P0 _ _ | exact Pj _ _
  · unfold mj_ifc
    repeat' split
    all_goals first | exact Ps | exact P0 _ _ | exact Pj _ _
  · exact Pj _ _
  · unfold mj_tab
    repeat' split
    all_goals first | exact Ps | exact P0 _ _ | exact Pj _ _
  · unfold mj_dup
    repeat' split
    all_goals first | exact Ps | exact P0 _ _
  · unfold mj_dup2
    repeat' split
    all_goals first | exact Ps | exact P0 _ _
  · unfold mj_pop
    repeat' split
    all_goals first | exact Ps | exact P0 _ _
  · unfold mj_ald
    repeat' split
    all_goals first | exact Ps | exact P0 _ _
  · unfold mj_ald
    repeat' split
    all_goals first | exact Ps | exact P0 _ _
  · unfold mj_ast
    repeat' split
    all_goals first | exact Ps | exact mj_PputA Pn (by assumption) | exact mj_PputR Pn (by assumption)
  · unfold mj_bst
    repeat' split
    all_goals first | exact Ps | exact mj_PputA Pn (by assumption) | exact mj_PputR Pn (by assumption)
  · unfold mj_aald
    repeat' split
    all_goals first | exact Ps | exact P0 _ _
  · unfold mj_aast
    repeat' split
    all_goals first | exact Ps | exact mj_PputA Pn (by assumption) | exact mj_PputR Pn (by assumption)
  · unfold mj_alen
    repeat' split
    all_goals first | exact Ps | exact P0 _ _
  · unfold mj_getf
    repeat' split
    all_goals first | exact Ps | exact P0 _ _
  · unfold mj_putf
    repeat' split
    all_goals first | exact Ps | exact mj_PputO Pn (by assumption)
  · exact P0 _ _
  · unfold mj_new
    repeat' split
    all_goals first | exact Ps | exact mj_Papp Pn
  · unfold mj_newa
    repeat' split
    all_goals first | exact Ps | exact mj_Papp Pn
  · unfold mj_newa
    repeat' split
    all_goals first | exact Ps | exact mj_Papp Pn
  · unfold mj_anew
    repeat' split
    all_goals first | exact Ps | exact mj_Papp Pn
  · exact mj_Pcall Pc Ps
  · unfold mj_spec
    repeat' split
    all_goals first | exact Ps | exact P0 _ _ | exact mj_Pcall Pc Ps
  · unfold mj_stat
    split
    · exact mj_Pacopy Pn Ps
    · exact mj_Pcall Pc Ps
  · unfold mj_iret
    repeat' split
    all_goals first | exact Ps | exact Pr _
  · unfold mj_aret
    repeat' split
    all_goals first | exact Ps | exact Pr _
  · unfold mj_vret
    repeat' split
    all_goals first | exact Ps | exact Pr _
  · exact Ps
end
/-- how a call goes on -/
noncomputable def mj_kc {V : Type} (ex : Nat → List mj_r → List mj_r → mj_l V → mj_s V → mj_h V → Option (Option (mj_v V) × mj_h V)) (cds : List (List mj_r)) (d : Nat) (cd tl : List mj_r) (loc : mj_l V) (h : mj_h V) (k ml : Nat) (as : List (mj_v V)) (rest : mj_s V) : Option (Option (mj_v V) × mj_h V) := match d, mj_nth cds k with
  | d + 1, some cd' => match ex d cd' cd' (mj_ent ml as) [] h with
    | some (v, h1) => ex (d + 1) cd tl loc (match v with
      | none => rest
      | some v => v :: rest) h1
    | none => none
  | _, _ => none
theorem mj_exec_succ {V : Type} (O : mj_O V) (cds : List (List mj_r)) (N d : Nat) (cd : List mj_r) (r : mj_r) (tl : List mj_r) (loc : mj_l V) (st : mj_s V) (h : mj_h V) : mj_exec O cds (N + 1) d cd (r :: tl) loc st h =
    mj_step O r.2.2.1 r.2.2.2 loc st h (fun loc st h => mj_exec O cds N d cd tl loc st h) (fun j st => mj_exec O cds N d cd (mj_drop j cd) loc st h) (mj_kc (mj_exec O cds N) cds d cd tl loc h) (fun v => some (v, h)) none r.2.1 := rfl
theorem mj_kc_spec {V : Type} {ex : Nat → List mj_r → List mj_r → mj_l V → mj_s V → mj_h V → Option (Option (mj_v V) × mj_h V)} {cds : List (List mj_r)} {d : Nat} {cd tl : List mj_r} {loc : mj_l V} {h : mj_h V} {k ml : Nat} {as : List (mj_v V)} {rest : mj_s V} {R0 : Option (mj_v V) × mj_h V} (e : mj_kc ex cds d cd tl loc h k ml as rest = some R0) :
    ∃ d' cd' v h1, d = d' + 1 ∧ cds[k]? = some cd' ∧ ex d' cd' cd' (mj_ent ml as) [] h = some (v, h1) ∧ ex d cd tl loc (v.toList ++ rest) h1 = some R0 := by
  unfold mj_kc at e
  split at e
  · rename_i d' cd' hcd
    split at e
    · rename_i v h1 e2
      refine ⟨d', cd', v, h1, rfl, by rw [← mj_nth_eq]; exact hcd, e2, ?_⟩
      cases v <;> exact e
    · cases e
  · cases e
theorem mj_grow {V : Type} {O : mj_O V} {cds : List (List mj_r)} : ∀ (N d : Nat) (cd suf : List mj_r) (loc : mj_l V) (st : mj_s V) (h : mj_h V) (r : Option (mj_v V)) (h1 : mj_h V), mj_exec O cds N d cd suf loc st h = some (r, h1) → h.length ≤ h1.length ∧ mj_sz h ≤ mj_sz h1 := by
  intro N
  induction N with
  | zero =>
    intro d cd suf loc st h r h1 hE
    have hE : (none : Option (Option (mj_v V) × mj_h V)) = some (r, h1) := hE
    cases hE
  | succ N ih =>
    intro d cd suf loc st h r h1 hE
    cases suf with
    | nil =>
      have hE : (none : Option (Option (mj_v V) × mj_h V)) = some (r, h1) := hE
      cases hE
    | cons q tl =>
      rw [mj_exec_succ] at hE
      revert hE
      refine mj_step_inv (P := fun o => o = some (r, h1) → h.length ≤ h1.length ∧ mj_sz h ≤ mj_sz h1) ?_ ?_ ?_ ?_ ?_ q.2.1
      · intro l s h' a b e
        have := ih _ _ _ _ _ _ _ _ e
        omega
      · intro j s e
        exact ih _ _ _ _ _ _ _ _ e
      · intro k ml as rest e
        obtain ⟨d', cd', v, h2, -, -, e1, e2⟩ := mj_kc_spec e
        have a1 := ih _ _ _ _ _ _ _ _ e1
        have a2 := ih _ _ _ _ _ _ _ _ e2
        omega
      · intro v e
        cases e
        exact ⟨Nat.le_refl _, Nat.le_refl _⟩
      · intro e
        cases e
